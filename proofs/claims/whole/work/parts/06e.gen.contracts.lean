set_option maxRecDepth 100000 in
set_option maxHeartbeats 4000000 in
theorem c_X10_layTrial {l : Launch} {D : va_G} {cI cZ : ClassId} {ad : Nat → Nat} {f_thrown : Int32} {f_text : Nat → Int32} {f_textSize : Int32} {f_place : Int32} {f_chips : Int32} {f_gates : Int32} {f_kind : Nat → Int32} {f_source : Nat → Int32} {f_second : Nat → Int32} {f_clock : Nat → Int32} {f_readChips : Int32} {f_readPins : Int32} {f_readGates : Int32} {f_readKind : Nat → Int32} {f_readLies : Nat → Int32} {f_readSource : Nat → Int32} {f_readSecond : Nat → Int32} {f_readClock : Nat → Int32} {f_page : Nat → Int32} {f_trial : Nat → Int32} {f_book : Nat → Int32} {f_doings : Int32} {f_kept : Nat → Int32} {f_isKept : Nat → Int32} {f_seen : Int32} {f_seenBehind : Nat → Int32} {f_seenGate : Nat → Int32} {f_seenWorth : Nat → Int32} {f_seenWas : Nat → Int32} {f_seed : Int64} {f_worth : Nat → Int32} {f_known : Int32} {f_hand : Nat → Int32} {f_goes : Nat → Int32} {f_takes : Int32} {f_crossed : Int32} {f_last : Int32} {f_lastNow : Int32} {f_states : Nat → Int32} {X : va_W} {Q : (Nat → Int32) → Prop} (h : wp_X10_layTrial f_page f_trial Q) : CtV l yX10_layTrial cX10_layTrial 2 none ({ frames := 0, cells := 0, slots := 0, locals := 0 } : Room) D [(cI, .int), (cZ, .boolean)] [.ref (ad 23)] (wM ad cI cZ f_thrown f_text f_textSize f_place f_chips f_gates f_kind f_source f_second f_clock f_readChips f_readPins f_readGates f_readKind f_readLies f_readSource f_readSecond f_readClock f_page f_trial f_book f_doings f_kept f_isKept f_seen f_seenBehind f_seenGate f_seenWorth f_seenWas f_seed f_worth f_known f_hand f_goes f_takes f_crossed f_last f_lastNow f_states X) (fun  u => ∃ w0, u = (wM ad cI cZ f_thrown f_text f_textSize f_place f_chips f_gates f_kind f_source f_second f_clock f_readChips f_readPins f_readGates f_readKind f_readLies f_readSource f_readSecond f_readClock f_page w0 f_book f_doings f_kept f_isKept f_seen f_seenBehind f_seenGate f_seenWorth f_seenWas f_seed f_worth f_known f_hand f_goes f_takes f_crossed f_last f_lastNow f_states X) ∧ Q w0) := by
  refine CtV.of (by decide) rfl (Nat.le_of_ble_eq_true rfl) ?_
  intro p e s m args below meth c A Z E hret ls hl hw
  have E : gE p m c cX10_layTrial 2 s args RX10 D [(cI, .int), (cZ, .boolean)] A := E
  have hx := E.1.1
  have hb := E.1.2.1
  have hl : lv_has ls 2 [(0, .ref (ad 23))] := hl
  have L2 : ∀ (n : Nat) (x1 : Int32) (f_trial : Nat → Int32) (H : Heap) (locs : List Loc) (ls : Array Slot), wp_X10_layTrial_h2 f_page Q  n x1 f_trial → gW D s A (wM ad cI cZ f_thrown f_text f_textSize f_place f_chips f_gates f_kind f_source f_second f_clock f_readChips f_readPins f_readGates f_readKind f_readLies f_readSource f_readSecond f_readClock f_page f_trial f_book f_doings f_kept f_isKept f_seen f_seenBehind f_seenGate f_seenWorth f_seenWas f_seed f_worth f_known f_hand f_goes f_takes f_crossed f_last f_lastNow f_states X) H locs → lv_has ls 2 [(0, .ref (ad 23)), (1, .int x1)] → W p l e ({ frames := 0, cells := 0, slots := 0, locals := 0 } : Room) s m args below meth c H locs 0 0 Z (F0 m 2 ls []) := by
    intro n
    induction n with
    | zero => intro x1 f_trial H locs ls h; exact False.elim h
    | succ n2 ih2 =>
      intro x1 f_trial H locs ls h hw hl
      have h : wp_X10_layTrial_b2 f_page Q (wp_X10_layTrial_h2 f_page Q  n2) x1 f_trial := h
      unfold wp_X10_layTrial_b2 at h
      refine lv_iload_n hx hb dX10_layTrial_2 rfl (lv_at hl 1 rfl) ?_
      refine lv_bipush (v := 22) hx hb dX10_layTrial_3 (by decide) ?_
      refine lv_icmp_ge (tgt := 26) hx hb dX10_layTrial_5 (by decide) (fun c1 => ?_) (fun c1 => ?_)
      · have h := h.1 c1
        exact hret _ _ _ _ _ ⟨_, rfl, h⟩ hw dX10_layTrial_26
      · have h := h.2 c1
        refine lv_aload_n hx hb dX10_layTrial_8 rfl (lv_at hl 0 rfl) ?_
        refine gM_X10_47_main E hw dX10_layTrial_9 ?_
        refine lv_iload_n hx hb dX10_layTrial_12 rfl (lv_at hl 1 rfl) ?_
        refine lv_aload_n hx hb dX10_layTrial_13 rfl (lv_at hl 0 rfl) ?_
        refine gM_X10_44_main E hw dX10_layTrial_14 ?_
        refine lv_iload_n hx hb dX10_layTrial_17 rfl (lv_at hl 1 rfl) ?_
        refine lM_page E hw h.1 dX10_layTrial_18 ?_
        have h := h.2
        refine lv_topi (fun v2 ev2 => ?_)
        have h := h v2 ev2
        refine sM_trial E hw h.1 dX10_layTrial_19 (fun y3 ey3 H locs hw => ?_)
        have h := h.2 y3 ey3
        obtain ⟨v4, ev4⟩ : ∃ y : Int32, y = x1 + 1 := ⟨_, rfl⟩
        have h := h v4 ev4
        refine lv_iinc (v := v4) (lv' := [(1, .int v4), (0, .ref (ad 23))]) hx hb dX10_layTrial_20 hl (k := 1) rfl (by rw [ev4]; rfl) (by decide) rfl (fun ls hl => ?_)
        refine lv_goto (tgt := 2) hx hb dX10_layTrial_23 (by decide) ?_
        exact ih2 v4 y3 _ _ _ h hw (lv_sub hl [1, 0] rfl)
  unfold wp_X10_layTrial at h
  refine lv_iconst (v := 0) hx hb dX10_layTrial_0 (by decide) ?_
  refine lv_istore_n (lv' := [(1, .int (0 : Int32)), (0, .ref (ad 23))]) hx hb dX10_layTrial_1 rfl hl (by decide) rfl (fun ls hl => ?_)
  obtain ⟨n, h⟩ := h
  exact L2 n (0 : Int32) f_trial _ _ _ h hw (lv_sub hl [1, 0] rfl)
set_option maxRecDepth 100000 in
set_option maxHeartbeats 4000000 in
theorem c_X10_noGate {l : Launch} {D : va_G} {cI cZ : ClassId} {ad : Nat → Nat} {f_thrown : Int32} {f_text : Nat → Int32} {f_textSize : Int32} {f_place : Int32} {f_chips : Int32} {f_gates : Int32} {f_kind : Nat → Int32} {f_source : Nat → Int32} {f_second : Nat → Int32} {f_clock : Nat → Int32} {f_readChips : Int32} {f_readPins : Int32} {f_readGates : Int32} {f_readKind : Nat → Int32} {f_readLies : Nat → Int32} {f_readSource : Nat → Int32} {f_readSecond : Nat → Int32} {f_readClock : Nat → Int32} {f_page : Nat → Int32} {f_trial : Nat → Int32} {f_book : Nat → Int32} {f_doings : Int32} {f_kept : Nat → Int32} {f_isKept : Nat → Int32} {f_seen : Int32} {f_seenBehind : Nat → Int32} {f_seenGate : Nat → Int32} {f_seenWorth : Nat → Int32} {f_seenWas : Nat → Int32} {f_seed : Int64} {f_worth : Nat → Int32} {f_known : Int32} {f_hand : Nat → Int32} {f_goes : Nat → Int32} {f_takes : Int32} {f_crossed : Int32} {f_last : Int32} {f_lastNow : Int32} {f_states : Nat → Int32} {X : va_W} {p1 : Int32} {Q : Int32 → Prop} (h : wp_X10_noGate f_gates p1 Q) : CtI l yX10_noGate cX10_noGate 2 (some .boolean) ({ frames := 1, cells := 0, slots := 0, locals := 25 } : Room) D [(cI, .int), (cZ, .boolean)] [.ref (ad 23), .int p1] (wM ad cI cZ f_thrown f_text f_textSize f_place f_chips f_gates f_kind f_source f_second f_clock f_readChips f_readPins f_readGates f_readKind f_readLies f_readSource f_readSecond f_readClock f_page f_trial f_book f_doings f_kept f_isKept f_seen f_seenBehind f_seenGate f_seenWorth f_seenWas f_seed f_worth f_known f_hand f_goes f_takes f_crossed f_last f_lastNow f_states X) (fun r u => u = (wM ad cI cZ f_thrown f_text f_textSize f_place f_chips f_gates f_kind f_source f_second f_clock f_readChips f_readPins f_readGates f_readKind f_readLies f_readSource f_readSecond f_readClock f_page f_trial f_book f_doings f_kept f_isKept f_seen f_seenBehind f_seenGate f_seenWorth f_seenWas f_seed f_worth f_known f_hand f_goes f_takes f_crossed f_last f_lastNow f_states X) ∧ Q r) := by
  refine CtI.ofZ (by decide) rfl (Nat.le_of_ble_eq_true rfl) ?_
  intro p e s m args below meth c A Z E hret ls hl hw
  have E : gE p m c cX10_noGate 2 s args RX10 D [(cI, .int), (cZ, .boolean)] A := E
  have hx := E.1.1
  have hb := E.1.2.1
  have hl : lv_has ls 2 [(0, .ref (ad 23)), (1, .int p1)] := hl
  unfold wp_X10_noGate at h
  refine lv_iload_n hx hb dX10_noGate_0 rfl (lv_at hl 1 rfl) ?_
  refine lv_i2l hx hb dX10_noGate_1 rfl ?_
  refine lv_lconst (v := 0) hx hb dX10_noGate_2 (by decide) ?_
  refine lv_aload_n hx hb dX10_noGate_3 rfl (lv_at hl 0 rfl) ?_
  refine gM_X10_87_main E hw dX10_noGate_4 ?_
  refine lv_iconst (v := 1) hx hb dX10_noGate_7 (by decide) ?_
  refine lv_isub hx hb dX10_noGate_8 ?_
  refine lv_i2l hx hb dX10_noGate_9 rfl ?_
  refine g_aI E hw (g_rS E hw (c_X10_in h _) ym_X10_in k_632 ⟨rfl, rfl⟩ ⟨Nat.le_of_ble_eq_true rfl, Nat.le_of_ble_eq_true rfl⟩ rfl hl.1 rfl (Nat.le_of_ble_eq_true rfl) ⟨Nat.zero_le _, Nat.zero_le _⟩ dX10_noGate_10) (fun r1 u H locs hq hw => ?_)
  obtain ⟨hu, h⟩ := hq
  rw [hu] at hw
  refine lv_if_ne (tgt := 20) hx hb dX10_noGate_13 (by decide) (fun c2 => ?_) (fun c2 => ?_)
  · have h := h.1 c2
    refine lv_iconst (v := 0) hx hb dX10_noGate_20 (by decide) ?_
    exact hret _ _ _ _ _ _ (Or.inl rfl) ⟨rfl, h⟩ hw dX10_noGate_21
  · have h := h.2 c2
    refine lv_iconst (v := 1) hx hb dX10_noGate_16 (by decide) ?_
    refine lv_goto (tgt := 21) hx hb dX10_noGate_17 (by decide) ?_
    exact hret _ _ _ _ _ _ (Or.inr rfl) ⟨rfl, h⟩ hw dX10_noGate_21
set_option maxRecDepth 100000 in
set_option maxHeartbeats 4000000 in
theorem c_X10_noChip {l : Launch} {D : va_G} {cI cZ : ClassId} {ad : Nat → Nat} {f_thrown : Int32} {f_text : Nat → Int32} {f_textSize : Int32} {f_place : Int32} {f_chips : Int32} {f_gates : Int32} {f_kind : Nat → Int32} {f_source : Nat → Int32} {f_second : Nat → Int32} {f_clock : Nat → Int32} {f_readChips : Int32} {f_readPins : Int32} {f_readGates : Int32} {f_readKind : Nat → Int32} {f_readLies : Nat → Int32} {f_readSource : Nat → Int32} {f_readSecond : Nat → Int32} {f_readClock : Nat → Int32} {f_page : Nat → Int32} {f_trial : Nat → Int32} {f_book : Nat → Int32} {f_doings : Int32} {f_kept : Nat → Int32} {f_isKept : Nat → Int32} {f_seen : Int32} {f_seenBehind : Nat → Int32} {f_seenGate : Nat → Int32} {f_seenWorth : Nat → Int32} {f_seenWas : Nat → Int32} {f_seed : Int64} {f_worth : Nat → Int32} {f_known : Int32} {f_hand : Nat → Int32} {f_goes : Nat → Int32} {f_takes : Int32} {f_crossed : Int32} {f_last : Int32} {f_lastNow : Int32} {f_states : Nat → Int32} {X : va_W} {p1 : Int32} {Q : Int32 → Prop} (h : wp_X10_noChip f_chips p1 Q) : CtI l yX10_noChip cX10_noChip 2 (some .boolean) ({ frames := 1, cells := 0, slots := 0, locals := 25 } : Room) D [(cI, .int), (cZ, .boolean)] [.ref (ad 23), .int p1] (wM ad cI cZ f_thrown f_text f_textSize f_place f_chips f_gates f_kind f_source f_second f_clock f_readChips f_readPins f_readGates f_readKind f_readLies f_readSource f_readSecond f_readClock f_page f_trial f_book f_doings f_kept f_isKept f_seen f_seenBehind f_seenGate f_seenWorth f_seenWas f_seed f_worth f_known f_hand f_goes f_takes f_crossed f_last f_lastNow f_states X) (fun r u => u = (wM ad cI cZ f_thrown f_text f_textSize f_place f_chips f_gates f_kind f_source f_second f_clock f_readChips f_readPins f_readGates f_readKind f_readLies f_readSource f_readSecond f_readClock f_page f_trial f_book f_doings f_kept f_isKept f_seen f_seenBehind f_seenGate f_seenWorth f_seenWas f_seed f_worth f_known f_hand f_goes f_takes f_crossed f_last f_lastNow f_states X) ∧ Q r) := by
  refine CtI.ofZ (by decide) rfl (Nat.le_of_ble_eq_true rfl) ?_
  intro p e s m args below meth c A Z E hret ls hl hw
  have E : gE p m c cX10_noChip 2 s args RX10 D [(cI, .int), (cZ, .boolean)] A := E
  have hx := E.1.1
  have hb := E.1.2.1
  have hl : lv_has ls 2 [(0, .ref (ad 23)), (1, .int p1)] := hl
  unfold wp_X10_noChip at h
  refine lv_iload_n hx hb dX10_noChip_0 rfl (lv_at hl 1 rfl) ?_
  refine lv_i2l hx hb dX10_noChip_1 rfl ?_
  refine lv_lconst (v := 0) hx hb dX10_noChip_2 (by decide) ?_
  refine lv_aload_n hx hb dX10_noChip_3 rfl (lv_at hl 0 rfl) ?_
  refine gM_X10_13_main E hw dX10_noChip_4 ?_
  refine lv_iconst (v := 1) hx hb dX10_noChip_7 (by decide) ?_
  refine lv_isub hx hb dX10_noChip_8 ?_
  refine lv_i2l hx hb dX10_noChip_9 rfl ?_
  refine g_aI E hw (g_rS E hw (c_X10_in h _) ym_X10_in k_632 ⟨rfl, rfl⟩ ⟨Nat.le_of_ble_eq_true rfl, Nat.le_of_ble_eq_true rfl⟩ rfl hl.1 rfl (Nat.le_of_ble_eq_true rfl) ⟨Nat.zero_le _, Nat.zero_le _⟩ dX10_noChip_10) (fun r1 u H locs hq hw => ?_)
  obtain ⟨hu, h⟩ := hq
  rw [hu] at hw
  refine lv_if_ne (tgt := 20) hx hb dX10_noChip_13 (by decide) (fun c2 => ?_) (fun c2 => ?_)
  · have h := h.1 c2
    refine lv_iconst (v := 0) hx hb dX10_noChip_20 (by decide) ?_
    exact hret _ _ _ _ _ _ (Or.inl rfl) ⟨rfl, h⟩ hw dX10_noChip_21
  · have h := h.2 c2
    refine lv_iconst (v := 1) hx hb dX10_noChip_16 (by decide) ?_
    refine lv_goto (tgt := 21) hx hb dX10_noChip_17 (by decide) ?_
    exact hret _ _ _ _ _ _ (Or.inr rfl) ⟨rfl, h⟩ hw dX10_noChip_21
set_option maxRecDepth 100000 in
set_option maxHeartbeats 4000000 in
theorem c_X10_write {l : Launch} {D : va_G} {cI cZ : ClassId} {ad : Nat → Nat} {f_thrown : Int32} {f_text : Nat → Int32} {f_textSize : Int32} {f_place : Int32} {f_chips : Int32} {f_gates : Int32} {f_kind : Nat → Int32} {f_source : Nat → Int32} {f_second : Nat → Int32} {f_clock : Nat → Int32} {f_readChips : Int32} {f_readPins : Int32} {f_readGates : Int32} {f_readKind : Nat → Int32} {f_readLies : Nat → Int32} {f_readSource : Nat → Int32} {f_readSecond : Nat → Int32} {f_readClock : Nat → Int32} {f_page : Nat → Int32} {f_trial : Nat → Int32} {f_book : Nat → Int32} {f_doings : Int32} {f_kept : Nat → Int32} {f_isKept : Nat → Int32} {f_seen : Int32} {f_seenBehind : Nat → Int32} {f_seenGate : Nat → Int32} {f_seenWorth : Nat → Int32} {f_seenWas : Nat → Int32} {f_seed : Int64} {f_worth : Nat → Int32} {f_known : Int32} {f_hand : Nat → Int32} {f_goes : Nat → Int32} {f_takes : Int32} {f_crossed : Int32} {f_last : Int32} {f_lastNow : Int32} {f_states : Nat → Int32} {X : va_W} {p1 : Int32} {Q : Int32 → (Nat → Int32) → Int32 → Int32 → Prop} (h : wp_X10_write f_text f_textSize f_thrown p1 Q) : CtI l yX10_write cX10_write 2 (some .int) ({ frames := 1, cells := 0, slots := 0, locals := 25 } : Room) D [(cI, .int), (cZ, .boolean)] [.ref (ad 23), .int p1] (wM ad cI cZ f_thrown f_text f_textSize f_place f_chips f_gates f_kind f_source f_second f_clock f_readChips f_readPins f_readGates f_readKind f_readLies f_readSource f_readSecond f_readClock f_page f_trial f_book f_doings f_kept f_isKept f_seen f_seenBehind f_seenGate f_seenWorth f_seenWas f_seed f_worth f_known f_hand f_goes f_takes f_crossed f_last f_lastNow f_states X) (fun r u => ∃ w0 w1 w2, u = (wM ad cI cZ w2 w0 w1 f_place f_chips f_gates f_kind f_source f_second f_clock f_readChips f_readPins f_readGates f_readKind f_readLies f_readSource f_readSecond f_readClock f_page f_trial f_book f_doings f_kept f_isKept f_seen f_seenBehind f_seenGate f_seenWorth f_seenWas f_seed f_worth f_known f_hand f_goes f_takes f_crossed f_last f_lastNow f_states X) ∧ Q r w0 w1 w2) := by
  refine CtI.of (by decide) rfl (Nat.le_of_ble_eq_true rfl) ?_
  intro p e s m args below meth c A Z E hret ls hl hw
  have E : gE p m c cX10_write 2 s args RX10 D [(cI, .int), (cZ, .boolean)] A := E
  have hx := E.1.1
  have hb := E.1.2.1
  have hl : lv_has ls 2 [(0, .ref (ad 23)), (1, .int p1)] := hl
  unfold wp_X10_write at h
  refine lv_aload_n hx hb dX10_write_0 rfl (lv_at hl 0 rfl) ?_
  refine lv_iconst (v := 0) hx hb dX10_write_1 (by decide) ?_
  refine pM_X10_84_main E hw dX10_write_2 (fun H locs hw => ?_)
  refine lv_iload_n hx hb dX10_write_5 rfl (lv_at hl 1 rfl) ?_
  refine lv_i2l hx hb dX10_write_6 rfl ?_
  refine lv_lconst (v := 0) hx hb dX10_write_7 (by decide) ?_
  refine lv_ldc2 (v := 255) hx hb E.1.2.2.2.1 (E.1.2.2.2.2 _ k_631) dX10_write_8 ?_
  refine g_aI E hw (g_rS E hw (c_X10_in h _) ym_X10_in k_632 ⟨rfl, rfl⟩ ⟨Nat.le_of_ble_eq_true rfl, Nat.le_of_ble_eq_true rfl⟩ rfl hl.1 rfl (Nat.le_of_ble_eq_true rfl) ⟨Nat.zero_le _, Nat.zero_le _⟩ dX10_write_11) (fun r1 u H locs hq hw => ?_)
  obtain ⟨hu, h⟩ := hq
  rw [hu] at hw
  refine lv_if_ne (tgt := 20) hx hb dX10_write_14 (by decide) (fun c2 => ?_) (fun c2 => ?_)
  · have h := h.1 c2
    refine lv_aload_n hx hb dX10_write_20 rfl (lv_at hl 0 rfl) ?_
    refine gM_X10_96_main E hw dX10_write_21 ?_
    refine lv_bipush (v := 90) hx hb dX10_write_24 (by decide) ?_
    refine lv_icmp_ne (tgt := 32) hx hb dX10_write_26 (by decide) (fun c3 => ?_) (fun c3 => ?_)
    · have h := h.1 c3
      refine lv_aload_n hx hb dX10_write_32 rfl (lv_at hl 0 rfl) ?_
      refine gM_X10_7_main E hw dX10_write_33 ?_
      refine lv_aload_n hx hb dX10_write_36 rfl (lv_at hl 0 rfl) ?_
      refine gM_X10_96_main E hw dX10_write_37 ?_
      refine lv_iload_n hx hb dX10_write_40 rfl (lv_at hl 1 rfl) ?_
      refine sM_text E hw h.1 dX10_write_41 (fun y4 ey4 H locs hw => ?_)
      have h := h.2 y4 ey4
      refine lv_aload_n hx hb dX10_write_42 rfl (lv_at hl 0 rfl) ?_
      refine lv_dup hx hb dX10_write_43 rfl ?_
      refine gM_X10_96_main E hw dX10_write_44 ?_
      refine lv_iconst (v := 1) hx hb dX10_write_47 (by decide) ?_
      refine lv_iadd hx hb dX10_write_48 ?_
      refine lv_topi (fun v5 ev5 => ?_)
      have h := h v5 ev5
      refine pM_X10_96_main E hw dX10_write_49 (fun H locs hw => ?_)
      refine lv_aload_n hx hb dX10_write_52 rfl (lv_at hl 0 rfl) ?_
      refine gM_X10_96_main E hw dX10_write_53 ?_
      exact hret _ _ _ _ _ _ ⟨_, _, _, rfl, h⟩ hw dX10_write_56
    · have h := h.2 c3
      refine lv_bipush (v := -4) hx hb dX10_write_29 (by decide) ?_
      exact hret _ _ _ _ _ _ ⟨_, _, _, rfl, h⟩ hw dX10_write_31
  · have h := h.2 c2
    refine lv_bipush (v := -2) hx hb dX10_write_17 (by decide) ?_
    exact hret _ _ _ _ _ _ ⟨_, _, _, rfl, h⟩ hw dX10_write_19
set_option maxRecDepth 100000 in
set_option maxHeartbeats 4000000 in
theorem c_X10_wipe {l : Launch} {D : va_G} {cI cZ : ClassId} {ad : Nat → Nat} {f_thrown : Int32} {f_text : Nat → Int32} {f_textSize : Int32} {f_place : Int32} {f_chips : Int32} {f_gates : Int32} {f_kind : Nat → Int32} {f_source : Nat → Int32} {f_second : Nat → Int32} {f_clock : Nat → Int32} {f_readChips : Int32} {f_readPins : Int32} {f_readGates : Int32} {f_readKind : Nat → Int32} {f_readLies : Nat → Int32} {f_readSource : Nat → Int32} {f_readSecond : Nat → Int32} {f_readClock : Nat → Int32} {f_page : Nat → Int32} {f_trial : Nat → Int32} {f_book : Nat → Int32} {f_doings : Int32} {f_kept : Nat → Int32} {f_isKept : Nat → Int32} {f_seen : Int32} {f_seenBehind : Nat → Int32} {f_seenGate : Nat → Int32} {f_seenWorth : Nat → Int32} {f_seenWas : Nat → Int32} {f_seed : Int64} {f_worth : Nat → Int32} {f_known : Int32} {f_hand : Nat → Int32} {f_goes : Nat → Int32} {f_takes : Int32} {f_crossed : Int32} {f_last : Int32} {f_lastNow : Int32} {f_states : Nat → Int32} {X : va_W} {Q : Int32 → Int32 → Int32 → Prop} (h : wp_X10_wipe f_textSize f_thrown Q) : CtI l yX10_wipe cX10_wipe 2 (some .int) ({ frames := 0, cells := 0, slots := 0, locals := 0 } : Room) D [(cI, .int), (cZ, .boolean)] [.ref (ad 23)] (wM ad cI cZ f_thrown f_text f_textSize f_place f_chips f_gates f_kind f_source f_second f_clock f_readChips f_readPins f_readGates f_readKind f_readLies f_readSource f_readSecond f_readClock f_page f_trial f_book f_doings f_kept f_isKept f_seen f_seenBehind f_seenGate f_seenWorth f_seenWas f_seed f_worth f_known f_hand f_goes f_takes f_crossed f_last f_lastNow f_states X) (fun r u => ∃ w0 w1, u = (wM ad cI cZ w1 f_text w0 f_place f_chips f_gates f_kind f_source f_second f_clock f_readChips f_readPins f_readGates f_readKind f_readLies f_readSource f_readSecond f_readClock f_page f_trial f_book f_doings f_kept f_isKept f_seen f_seenBehind f_seenGate f_seenWorth f_seenWas f_seed f_worth f_known f_hand f_goes f_takes f_crossed f_last f_lastNow f_states X) ∧ Q r w0 w1) := by
  refine CtI.of (by decide) rfl (Nat.le_of_ble_eq_true rfl) ?_
  intro p e s m args below meth c A Z E hret ls hl hw
  have E : gE p m c cX10_wipe 2 s args RX10 D [(cI, .int), (cZ, .boolean)] A := E
  have hx := E.1.1
  have hb := E.1.2.1
  have hl : lv_has ls 2 [(0, .ref (ad 23))] := hl
  unfold wp_X10_wipe at h
  refine lv_aload_n hx hb dX10_wipe_0 rfl (lv_at hl 0 rfl) ?_
  refine lv_iconst (v := 0) hx hb dX10_wipe_1 (by decide) ?_
  refine pM_X10_84_main E hw dX10_wipe_2 (fun H locs hw => ?_)
  refine lv_aload_n hx hb dX10_wipe_5 rfl (lv_at hl 0 rfl) ?_
  refine gM_X10_96_main E hw dX10_wipe_6 ?_
  refine lv_istore_n (lv' := [(1, .int f_textSize), (0, .ref (ad 23))]) hx hb dX10_wipe_9 rfl hl (by decide) rfl (fun ls hl => ?_)
  refine lv_aload_n hx hb dX10_wipe_10 rfl (lv_at hl 1 rfl) ?_
  refine lv_iconst (v := 0) hx hb dX10_wipe_11 (by decide) ?_
  refine pM_X10_96_main E hw dX10_wipe_12 (fun H locs hw => ?_)
  refine lv_iload_n hx hb dX10_wipe_15 rfl (lv_at hl 0 rfl) ?_
  exact hret _ _ _ _ _ _ ⟨_, _, rfl, h⟩ hw dX10_wipe_16
set_option maxRecDepth 100000 in
set_option maxHeartbeats 4000000 in
theorem c_X10_figure {l : Launch} {D : va_G} {cI cZ : ClassId} {ad : Nat → Nat} {f_thrown : Int32} {f_text : Nat → Int32} {f_textSize : Int32} {f_place : Int32} {f_chips : Int32} {f_gates : Int32} {f_kind : Nat → Int32} {f_source : Nat → Int32} {f_second : Nat → Int32} {f_clock : Nat → Int32} {f_readChips : Int32} {f_readPins : Int32} {f_readGates : Int32} {f_readKind : Nat → Int32} {f_readLies : Nat → Int32} {f_readSource : Nat → Int32} {f_readSecond : Nat → Int32} {f_readClock : Nat → Int32} {f_page : Nat → Int32} {f_trial : Nat → Int32} {f_book : Nat → Int32} {f_doings : Int32} {f_kept : Nat → Int32} {f_isKept : Nat → Int32} {f_seen : Int32} {f_seenBehind : Nat → Int32} {f_seenGate : Nat → Int32} {f_seenWorth : Nat → Int32} {f_seenWas : Nat → Int32} {f_seed : Int64} {f_worth : Nat → Int32} {f_known : Int32} {f_hand : Nat → Int32} {f_goes : Nat → Int32} {f_takes : Int32} {f_crossed : Int32} {f_last : Int32} {f_lastNow : Int32} {f_states : Nat → Int32} {X : va_W} {p1 : Int32} {p2 : Int32} {Q : Int32 → Int32 → Prop} (h : wp_X10_figure f_place f_text f_textSize p1 p2 Q) : CtI l yX10_figure cX10_figure 4 (some .int) ({ frames := 1, cells := 0, slots := 0, locals := 25 } : Room) D [(cI, .int), (cZ, .boolean)] [.ref (ad 23), .int p1, .int p2] (wM ad cI cZ f_thrown f_text f_textSize f_place f_chips f_gates f_kind f_source f_second f_clock f_readChips f_readPins f_readGates f_readKind f_readLies f_readSource f_readSecond f_readClock f_page f_trial f_book f_doings f_kept f_isKept f_seen f_seenBehind f_seenGate f_seenWorth f_seenWas f_seed f_worth f_known f_hand f_goes f_takes f_crossed f_last f_lastNow f_states X) (fun r u => ∃ w0, u = (wM ad cI cZ f_thrown f_text f_textSize w0 f_chips f_gates f_kind f_source f_second f_clock f_readChips f_readPins f_readGates f_readKind f_readLies f_readSource f_readSecond f_readClock f_page f_trial f_book f_doings f_kept f_isKept f_seen f_seenBehind f_seenGate f_seenWorth f_seenWas f_seed f_worth f_known f_hand f_goes f_takes f_crossed f_last f_lastNow f_states X) ∧ Q r w0) := by
  refine CtI.of (by decide) rfl (Nat.le_of_ble_eq_true rfl) ?_
  intro p e s m args below meth c A Z E hret ls hl hw
  have E : gE p m c cX10_figure 4 s args RX10 D [(cI, .int), (cZ, .boolean)] A := E
  have hx := E.1.1
  have hb := E.1.2.1
  have hl : lv_has ls 4 [(0, .ref (ad 23)), (1, .int p1), (2, .int p2)] := hl
  have J28 : ∀ (s0 : Int32) (f_place : Int32) (H : Heap) (locs : List Loc) (ls : Array Slot), wp_X10_figure_b28 f_text f_textSize p1 p2 Q  s0 f_place → gW D s A (wM ad cI cZ f_thrown f_text f_textSize f_place f_chips f_gates f_kind f_source f_second f_clock f_readChips f_readPins f_readGates f_readKind f_readLies f_readSource f_readSecond f_readClock f_page f_trial f_book f_doings f_kept f_isKept f_seen f_seenBehind f_seenGate f_seenWorth f_seenWas f_seed f_worth f_known f_hand f_goes f_takes f_crossed f_last f_lastNow f_states X) H locs → lv_has ls 4 [(0, .ref (ad 23)), (1, .int p1), (2, .int p2)] → W p l e ({ frames := 1, cells := 0, slots := 0, locals := 25 } : Room) s m args below meth c H locs 0 0 Z (F0 m 28 ls [.int s0]) := by
    intro s0 f_place H locs ls h hw hl
    unfold wp_X10_figure_b28 at h
    refine lv_istore_n (lv' := [(3, .int s0), (0, .ref (ad 23)), (1, .int p1), (2, .int p2)]) hx hb dX10_figure_28 rfl hl (by decide) rfl (fun ls hl => ?_)
    refine lv_iload_n hx hb dX10_figure_29 rfl (lv_at hl 0 rfl) ?_
    refine lv_i2l hx hb dX10_figure_30 rfl ?_
    refine lv_iload_n hx hb dX10_figure_31 rfl (lv_at hl 2 rfl) ?_
    refine lv_i2l hx hb dX10_figure_32 rfl ?_
    refine lv_iload_n hx hb dX10_figure_33 rfl (lv_at hl 3 rfl) ?_
    refine lv_i2l hx hb dX10_figure_34 rfl ?_
    refine g_aI E hw (g_rS E hw (c_X10_in h _) ym_X10_in k_632 ⟨rfl, rfl⟩ ⟨Nat.le_of_ble_eq_true rfl, Nat.le_of_ble_eq_true rfl⟩ rfl hl.1 rfl (Nat.le_of_ble_eq_true rfl) ⟨Nat.zero_le _, Nat.zero_le _⟩ dX10_figure_35) (fun r1 u H locs hq hw => ?_)
    obtain ⟨hu, h⟩ := hq
    rw [hu] at hw
    refine lv_if_ne (tgt := 44) hx hb dX10_figure_38 (by decide) (fun c2 => ?_) (fun c2 => ?_)
    · have h := h.1 c2
      refine lv_aload_n hx hb dX10_figure_44 rfl (lv_at hl 1 rfl) ?_
      refine lv_dup hx hb dX10_figure_45 rfl ?_
      refine gM_X10_99_main E hw dX10_figure_46 ?_
      refine lv_iconst (v := 1) hx hb dX10_figure_49 (by decide) ?_
      refine lv_iadd hx hb dX10_figure_50 ?_
      refine lv_topi (fun v3 ev3 => ?_)
      have h := h v3 ev3
      refine pM_X10_99_main E hw dX10_figure_51 (fun H locs hw => ?_)
      refine lv_iload_n hx hb dX10_figure_54 rfl (lv_at hl 0 rfl) ?_
      exact hret _ _ _ _ _ _ ⟨_, rfl, h⟩ hw dX10_figure_55
    · have h := h.2 c2
      refine lv_bipush (v := -9) hx hb dX10_figure_41 (by decide) ?_
      exact hret _ _ _ _ _ _ ⟨_, rfl, h⟩ hw dX10_figure_43
  unfold wp_X10_figure at h
  refine lv_aload_n hx hb dX10_figure_0 rfl (lv_at hl 0 rfl) ?_
  refine gM_X10_99_main E hw dX10_figure_1 ?_
  refine lv_aload_n hx hb dX10_figure_4 rfl (lv_at hl 0 rfl) ?_
  refine gM_X10_96_main E hw dX10_figure_5 ?_
  refine lv_icmp_ge (tgt := 26) hx hb dX10_figure_8 (by decide) (fun c4 => ?_) (fun c4 => ?_)
  · have h := h.1 c4
    refine lv_bipush (v := -9) hx hb dX10_figure_26 (by decide) ?_
    exact J28 (-9 : Int32) f_place _ _ _ h hw (lv_sub hl [0, 1, 2] rfl)
  · have h := h.2 c4
    refine lv_aload_n hx hb dX10_figure_11 rfl (lv_at hl 0 rfl) ?_
    refine gM_X10_7_main E hw dX10_figure_12 ?_
    refine lv_aload_n hx hb dX10_figure_15 rfl (lv_at hl 0 rfl) ?_
    refine gM_X10_99_main E hw dX10_figure_16 ?_
    refine lM_text E hw h.1 dX10_figure_19 ?_
    have h := h.2
    refine lv_bipush (v := 48) hx hb dX10_figure_20 (by decide) ?_
    refine lv_isub hx hb dX10_figure_22 ?_
    refine lv_goto (tgt := 28) hx hb dX10_figure_23 (by decide) ?_
    exact J28 (((f_text (f_place).toNatClampNeg) - (48 : Int32))) f_place _ _ _ h hw (lv_sub hl [0, 1, 2] rfl)
set_option maxRecDepth 100000 in
set_option maxHeartbeats 4000000 in
theorem c_X10_readHead {l : Launch} {D : va_G} {cI cZ : ClassId} {ad : Nat → Nat} {f_thrown : Int32} {f_text : Nat → Int32} {f_textSize : Int32} {f_place : Int32} {f_chips : Int32} {f_gates : Int32} {f_kind : Nat → Int32} {f_source : Nat → Int32} {f_second : Nat → Int32} {f_clock : Nat → Int32} {f_readChips : Int32} {f_readPins : Int32} {f_readGates : Int32} {f_readKind : Nat → Int32} {f_readLies : Nat → Int32} {f_readSource : Nat → Int32} {f_readSecond : Nat → Int32} {f_readClock : Nat → Int32} {f_page : Nat → Int32} {f_trial : Nat → Int32} {f_book : Nat → Int32} {f_doings : Int32} {f_kept : Nat → Int32} {f_isKept : Nat → Int32} {f_seen : Int32} {f_seenBehind : Nat → Int32} {f_seenGate : Nat → Int32} {f_seenWorth : Nat → Int32} {f_seenWas : Nat → Int32} {f_seed : Int64} {f_worth : Nat → Int32} {f_known : Int32} {f_hand : Nat → Int32} {f_goes : Nat → Int32} {f_takes : Int32} {f_crossed : Int32} {f_last : Int32} {f_lastNow : Int32} {f_states : Nat → Int32} {X : va_W} {Q : Int32 → Int32 → Int32 → Int32 → Prop} (h : wp_X10_readHead f_place f_readChips f_readPins f_text f_textSize Q) : CtI l yX10_readHead cX10_readHead 1 (some .boolean) ({ frames := 2, cells := 0, slots := 0, locals := 48 } : Room) D [(cI, .int), (cZ, .boolean)] [.ref (ad 23)] (wM ad cI cZ f_thrown f_text f_textSize f_place f_chips f_gates f_kind f_source f_second f_clock f_readChips f_readPins f_readGates f_readKind f_readLies f_readSource f_readSecond f_readClock f_page f_trial f_book f_doings f_kept f_isKept f_seen f_seenBehind f_seenGate f_seenWorth f_seenWas f_seed f_worth f_known f_hand f_goes f_takes f_crossed f_last f_lastNow f_states X) (fun r u => ∃ w0 w1 w2, u = (wM ad cI cZ f_thrown f_text f_textSize w0 f_chips f_gates f_kind f_source f_second f_clock w1 w2 f_readGates f_readKind f_readLies f_readSource f_readSecond f_readClock f_page f_trial f_book f_doings f_kept f_isKept f_seen f_seenBehind f_seenGate f_seenWorth f_seenWas f_seed f_worth f_known f_hand f_goes f_takes f_crossed f_last f_lastNow f_states X) ∧ Q r w0 w1 w2) := by
  refine CtI.ofZ (by decide) rfl (Nat.le_of_ble_eq_true rfl) ?_
  intro p e s m args below meth c A Z E hret ls hl hw
  have E : gE p m c cX10_readHead 1 s args RX10 D [(cI, .int), (cZ, .boolean)] A := E
  have hx := E.1.1
  have hb := E.1.2.1
  have hl : lv_has ls 1 [(0, .ref (ad 23))] := hl
  unfold wp_X10_readHead at h
  refine lv_aload_n hx hb dX10_readHead_0 rfl (lv_at hl 0 rfl) ?_
  refine gM_X10_96_main E hw dX10_readHead_1 ?_
  refine lv_if_eq (tgt := 18) hx hb dX10_readHead_4 (by decide) (fun c1 => ?_) (fun c1 => ?_)
  · have h := h.1 c1
    refine lv_iconst (v := 0) hx hb dX10_readHead_18 (by decide) ?_
    exact hret _ _ _ _ _ _ (Or.inl rfl) ⟨_, _, _, rfl, h⟩ hw dX10_readHead_19
  · have h := h.2 c1
    refine lv_aload_n hx hb dX10_readHead_7 rfl (lv_at hl 0 rfl) ?_
    refine gM_X10_7_main E hw dX10_readHead_8 ?_
    refine lv_iconst (v := 0) hx hb dX10_readHead_11 (by decide) ?_
    refine lM_text E hw h.1 dX10_readHead_12 ?_
    have h := h.2
    refine lv_bipush (v := 66) hx hb dX10_readHead_13 (by decide) ?_
    refine lv_icmp_eq (tgt := 20) hx hb dX10_readHead_15 (by decide) (fun c2 => ?_) (fun c2 => ?_)
    · have h := h.1 c2
      refine lv_aload_n hx hb dX10_readHead_20 rfl (lv_at hl 0 rfl) ?_
      refine lv_iconst (v := 1) hx hb dX10_readHead_21 (by decide) ?_
      refine pM_X10_99_main E hw dX10_readHead_22 (fun H locs hw => ?_)
      refine lv_aload_n hx hb dX10_readHead_25 rfl (lv_at hl 0 rfl) ?_
      refine lv_aload_n hx hb dX10_readHead_26 rfl (lv_at hl 0 rfl) ?_
      refine lv_iconst (v := 1) hx hb dX10_readHead_27 (by decide) ?_
      refine lv_iconst (v := 4) hx hb dX10_readHead_28 (by decide) ?_
      refine g_aI E hw (g_rV E hw (c_X10_figure h _) ym_X10_figure k_649 ⟨rfl, rfl⟩ ⟨Nat.le_of_ble_eq_true rfl, Nat.le_of_ble_eq_true rfl⟩ 23 rfl rfl rfl rfl hl.1 rfl (Nat.le_of_ble_eq_true rfl) ⟨Nat.zero_le _, Nat.zero_le _⟩ dX10_readHead_29) (fun r3 u H locs hq hw => ?_)
      obtain ⟨y4, hu, h⟩ := hq
      rw [hu] at hw
      refine pM_X10_106_main E hw dX10_readHead_32 (fun H locs hw => ?_)
      refine lv_aload_n hx hb dX10_readHead_35 rfl (lv_at hl 0 rfl) ?_
      refine gM_X10_106_main E hw dX10_readHead_36 ?_
      refine lv_bipush (v := -9) hx hb dX10_readHead_39 (by decide) ?_
      refine lv_icmp_ne (tgt := 46) hx hb dX10_readHead_41 (by decide) (fun c5 => ?_) (fun c5 => ?_)
      · have h := h.1 c5
        refine lv_aload_n hx hb dX10_readHead_46 rfl (lv_at hl 0 rfl) ?_
        refine lv_aload_n hx hb dX10_readHead_47 rfl (lv_at hl 0 rfl) ?_
        refine lv_iconst (v := 1) hx hb dX10_readHead_48 (by decide) ?_
        refine lv_bipush (v := 9) hx hb dX10_readHead_49 (by decide) ?_
        refine g_aI E hw (g_rV E hw (c_X10_figure h _) ym_X10_figure k_649 ⟨rfl, rfl⟩ ⟨Nat.le_of_ble_eq_true rfl, Nat.le_of_ble_eq_true rfl⟩ 23 rfl rfl rfl rfl hl.1 rfl (Nat.le_of_ble_eq_true rfl) ⟨Nat.zero_le _, Nat.zero_le _⟩ dX10_readHead_51) (fun r6 u H locs hq hw => ?_)
        obtain ⟨y7, hu, h⟩ := hq
        rw [hu] at hw
        refine pM_X10_109_main E hw dX10_readHead_54 (fun H locs hw => ?_)
        refine lv_aload_n hx hb dX10_readHead_57 rfl (lv_at hl 0 rfl) ?_
        refine gM_X10_109_main E hw dX10_readHead_58 ?_
        refine lv_bipush (v := -9) hx hb dX10_readHead_61 (by decide) ?_
        refine lv_icmp_eq (tgt := 70) hx hb dX10_readHead_63 (by decide) (fun c8 => ?_) (fun c8 => ?_)
        · have h := h.1 c8
          refine lv_iconst (v := 0) hx hb dX10_readHead_70 (by decide) ?_
          exact hret _ _ _ _ _ _ (Or.inl rfl) ⟨_, _, _, rfl, h⟩ hw dX10_readHead_71
        · have h := h.2 c8
          refine lv_iconst (v := 1) hx hb dX10_readHead_66 (by decide) ?_
          refine lv_goto (tgt := 71) hx hb dX10_readHead_67 (by decide) ?_
          exact hret _ _ _ _ _ _ (Or.inr rfl) ⟨_, _, _, rfl, h⟩ hw dX10_readHead_71
      · have h := h.2 c5
        refine lv_iconst (v := 0) hx hb dX10_readHead_44 (by decide) ?_
        exact hret _ _ _ _ _ _ (Or.inl rfl) ⟨_, _, _, rfl, h⟩ hw dX10_readHead_45
    · have h := h.2 c2
      refine lv_iconst (v := 0) hx hb dX10_readHead_18 (by decide) ?_
      exact hret _ _ _ _ _ _ (Or.inl rfl) ⟨_, _, _, rfl, h⟩ hw dX10_readHead_19
set_option maxRecDepth 100000 in
set_option maxHeartbeats 4000000 in
theorem c_X10_readPart {l : Launch} {D : va_G} {cI cZ : ClassId} {ad : Nat → Nat} {f_thrown : Int32} {f_text : Nat → Int32} {f_textSize : Int32} {f_place : Int32} {f_chips : Int32} {f_gates : Int32} {f_kind : Nat → Int32} {f_source : Nat → Int32} {f_second : Nat → Int32} {f_clock : Nat → Int32} {f_readChips : Int32} {f_readPins : Int32} {f_readGates : Int32} {f_readKind : Nat → Int32} {f_readLies : Nat → Int32} {f_readSource : Nat → Int32} {f_readSecond : Nat → Int32} {f_readClock : Nat → Int32} {f_page : Nat → Int32} {f_trial : Nat → Int32} {f_book : Nat → Int32} {f_doings : Int32} {f_kept : Nat → Int32} {f_isKept : Nat → Int32} {f_seen : Int32} {f_seenBehind : Nat → Int32} {f_seenGate : Nat → Int32} {f_seenWorth : Nat → Int32} {f_seenWas : Nat → Int32} {f_seed : Int64} {f_worth : Nat → Int32} {f_known : Int32} {f_hand : Nat → Int32} {f_goes : Nat → Int32} {f_takes : Int32} {f_crossed : Int32} {f_last : Int32} {f_lastNow : Int32} {f_states : Nat → Int32} {X : va_W} {Q : Int32 → Int32 → (Nat → Int32) → Int32 → (Nat → Int32) → (Nat → Int32) → (Nat → Int32) → (Nat → Int32) → Prop} (h : wp_X10_readPart f_place f_readChips f_readClock f_readGates f_readKind f_readLies f_readSecond f_readSource f_text f_textSize Q) : CtI l yX10_readPart cX10_readPart 3 (some .boolean) ({ frames := 2, cells := 0, slots := 0, locals := 48 } : Room) D [(cI, .int), (cZ, .boolean)] [.ref (ad 23)] (wM ad cI cZ f_thrown f_text f_textSize f_place f_chips f_gates f_kind f_source f_second f_clock f_readChips f_readPins f_readGates f_readKind f_readLies f_readSource f_readSecond f_readClock f_page f_trial f_book f_doings f_kept f_isKept f_seen f_seenBehind f_seenGate f_seenWorth f_seenWas f_seed f_worth f_known f_hand f_goes f_takes f_crossed f_last f_lastNow f_states X) (fun r u => ∃ w0 w1 w2 w3 w4 w5 w6, u = (wM ad cI cZ f_thrown f_text f_textSize w0 f_chips f_gates f_kind f_source f_second f_clock f_readChips f_readPins w2 w3 w4 w6 w5 w1 f_page f_trial f_book f_doings f_kept f_isKept f_seen f_seenBehind f_seenGate f_seenWorth f_seenWas f_seed f_worth f_known f_hand f_goes f_takes f_crossed f_last f_lastNow f_states X) ∧ Q r w0 w1 w2 w3 w4 w5 w6) := by
  refine CtI.ofZ (by decide) rfl (Nat.le_of_ble_eq_true rfl) ?_
  intro p e s m args below meth c A Z E hret ls hl hw
  have E : gE p m c cX10_readPart 3 s args RX10 D [(cI, .int), (cZ, .boolean)] A := E
  have hx := E.1.1
  have hb := E.1.2.1
  have hl : lv_has ls 3 [(0, .ref (ad 23))] := hl
  have J206 : ∀ (f_place : Int32) (f_readClock : Nat → Int32) (f_readGates : Int32) (f_readKind : Nat → Int32) (f_readLies : Nat → Int32) (f_readSecond : Nat → Int32) (f_readSource : Nat → Int32) (H : Heap) (locs : List Loc) (ls : Array Slot), wp_X10_readPart_b206 f_readChips f_text f_textSize Q  f_place f_readClock f_readGates f_readKind f_readLies f_readSecond f_readSource → gW D s A (wM ad cI cZ f_thrown f_text f_textSize f_place f_chips f_gates f_kind f_source f_second f_clock f_readChips f_readPins f_readGates f_readKind f_readLies f_readSource f_readSecond f_readClock f_page f_trial f_book f_doings f_kept f_isKept f_seen f_seenBehind f_seenGate f_seenWorth f_seenWas f_seed f_worth f_known f_hand f_goes f_takes f_crossed f_last f_lastNow f_states X) H locs → lv_has ls 3 [(0, .ref (ad 23))] → W p l e ({ frames := 2, cells := 0, slots := 0, locals := 48 } : Room) s m args below meth c H locs 0 0 Z (F0 m 206 ls []) := by
    intro f_place f_readClock f_readGates f_readKind f_readLies f_readSecond f_readSource H locs ls h hw hl
    unfold wp_X10_readPart_b206 at h
    refine lv_aload_n hx hb dX10_readPart_206 rfl (lv_at hl 0 rfl) ?_
    refine lv_dup hx hb dX10_readPart_207 rfl ?_
    refine gM_X10_116_main E hw dX10_readPart_208 ?_
    refine lv_iconst (v := 1) hx hb dX10_readPart_211 (by decide) ?_
    refine lv_iadd hx hb dX10_readPart_212 ?_
    refine lv_topi (fun v1 ev1 => ?_)
    have h := h v1 ev1
    refine pM_X10_116_main E hw dX10_readPart_213 (fun H locs hw => ?_)
    refine lv_iconst (v := 1) hx hb dX10_readPart_216 (by decide) ?_
    exact hret _ _ _ _ _ _ (Or.inr rfl) ⟨_, _, _, _, _, _, _, rfl, h⟩ hw dX10_readPart_217
  have J176 : ∀ (x1 : Int32) (x2 : Int32) (f_place : Int32) (f_readClock : Nat → Int32) (f_readGates : Int32) (f_readKind : Nat → Int32) (f_readLies : Nat → Int32) (f_readSecond : Nat → Int32) (f_readSource : Nat → Int32) (H : Heap) (locs : List Loc) (ls : Array Slot), wp_X10_readPart_b176 f_readChips f_text f_textSize Q  x1 x2 f_place f_readClock f_readGates f_readKind f_readLies f_readSecond f_readSource → gW D s A (wM ad cI cZ f_thrown f_text f_textSize f_place f_chips f_gates f_kind f_source f_second f_clock f_readChips f_readPins f_readGates f_readKind f_readLies f_readSource f_readSecond f_readClock f_page f_trial f_book f_doings f_kept f_isKept f_seen f_seenBehind f_seenGate f_seenWorth f_seenWas f_seed f_worth f_known f_hand f_goes f_takes f_crossed f_last f_lastNow f_states X) H locs → lv_has ls 3 [(0, .ref (ad 23)), (1, .int x1), (2, .int x2)] → W p l e ({ frames := 2, cells := 0, slots := 0, locals := 48 } : Room) s m args below meth c H locs 0 0 Z (F0 m 176 ls []) := by
    intro x1 x2 f_place f_readClock f_readGates f_readKind f_readLies f_readSecond f_readSource H locs ls h hw hl
    unfold wp_X10_readPart_b176 at h
    refine lv_iload_n hx hb dX10_readPart_176 rfl (lv_at hl 1 rfl) ?_
    refine lv_iconst (v := 5) hx hb dX10_readPart_177 (by decide) ?_
    refine lv_icmp_ne (tgt := 206) hx hb dX10_readPart_178 (by decide) (fun c2 => ?_) (fun c2 => ?_)
    · have h := h.1 c2
      exact J206 f_place f_readClock f_readGates f_readKind f_readLies f_readSecond f_readSource _ _ _ h hw (lv_sub hl [0] rfl)
    · have h := h.2 c2
      refine lv_aload_n hx hb dX10_readPart_181 rfl (lv_at hl 0 rfl) ?_
      refine gM_X10_41_main E hw dX10_readPart_182 ?_
      refine lv_iload_n hx hb dX10_readPart_185 rfl (lv_at hl 2 rfl) ?_
      refine lv_aload_n hx hb dX10_readPart_186 rfl (lv_at hl 0 rfl) ?_
      refine lv_iconst (v := 0) hx hb dX10_readPart_187 (by decide) ?_
      refine lv_iconst (v := 1) hx hb dX10_readPart_188 (by decide) ?_
      refine g_aI E hw (g_rV E hw (c_X10_figure h _) ym_X10_figure k_649 ⟨rfl, rfl⟩ ⟨Nat.le_of_ble_eq_true rfl, Nat.le_of_ble_eq_true rfl⟩ 23 rfl rfl rfl rfl hl.1 rfl (Nat.le_of_ble_eq_true rfl) ⟨Nat.zero_le _, Nat.zero_le _⟩ dX10_readPart_189) (fun r3 u H locs hq hw => ?_)
      obtain ⟨y4, hu, h⟩ := hq
      rw [hu] at hw
      refine sM_readClock E hw h.1 dX10_readPart_192 (fun y5 ey5 H locs hw => ?_)
      have h := h.2 y5 ey5
      refine lv_aload_n hx hb dX10_readPart_193 rfl (lv_at hl 0 rfl) ?_
      refine gM_X10_41_main E hw dX10_readPart_194 ?_
      refine lv_iload_n hx hb dX10_readPart_197 rfl (lv_at hl 2 rfl) ?_
      refine lM_readClock E hw h.1 dX10_readPart_198 ?_
      have h := h.2
      refine lv_bipush (v := -9) hx hb dX10_readPart_199 (by decide) ?_
      refine lv_icmp_ne (tgt := 206) hx hb dX10_readPart_201 (by decide) (fun c6 => ?_) (fun c6 => ?_)
      · have h := h.1 c6
        exact J206 y4 y5 f_readGates f_readKind f_readLies f_readSecond f_readSource _ _ _ h hw (lv_sub hl [0] rfl)
      · have h := h.2 c6
        refine lv_iconst (v := 0) hx hb dX10_readPart_204 (by decide) ?_
        exact hret _ _ _ _ _ _ (Or.inl rfl) ⟨_, _, _, _, _, _, _, rfl, h⟩ hw dX10_readPart_205
  have J136 : ∀ (x1 : Int32) (x2 : Int32) (f_place : Int32) (f_readClock : Nat → Int32) (f_readGates : Int32) (f_readKind : Nat → Int32) (f_readLies : Nat → Int32) (f_readSecond : Nat → Int32) (f_readSource : Nat → Int32) (H : Heap) (locs : List Loc) (ls : Array Slot), wp_X10_readPart_b136 f_readChips f_text f_textSize Q  x1 x2 f_place f_readClock f_readGates f_readKind f_readLies f_readSecond f_readSource → gW D s A (wM ad cI cZ f_thrown f_text f_textSize f_place f_chips f_gates f_kind f_source f_second f_clock f_readChips f_readPins f_readGates f_readKind f_readLies f_readSource f_readSecond f_readClock f_page f_trial f_book f_doings f_kept f_isKept f_seen f_seenBehind f_seenGate f_seenWorth f_seenWas f_seed f_worth f_known f_hand f_goes f_takes f_crossed f_last f_lastNow f_states X) H locs → lv_has ls 3 [(0, .ref (ad 23)), (1, .int x1), (2, .int x2)] → W p l e ({ frames := 2, cells := 0, slots := 0, locals := 48 } : Room) s m args below meth c H locs 0 0 Z (F0 m 136 ls []) := by
    intro x1 x2 f_place f_readClock f_readGates f_readKind f_readLies f_readSecond f_readSource H locs ls h hw hl
    unfold wp_X10_readPart_b136 at h
    refine lv_iload_n hx hb dX10_readPart_136 rfl (lv_at hl 1 rfl) ?_
    refine lv_i2l hx hb dX10_readPart_137 rfl ?_
    refine lv_ldc2 (v := 2) hx hb E.1.2.2.2.1 (E.1.2.2.2.2 _ k_658) dX10_readPart_138 ?_
    refine lv_ldc2 (v := 4) hx hb E.1.2.2.2.1 (E.1.2.2.2.2 _ k_659) dX10_readPart_141 ?_
    refine g_aI E hw (g_rS E hw (c_X10_in h _) ym_X10_in k_632 ⟨rfl, rfl⟩ ⟨Nat.le_of_ble_eq_true rfl, Nat.le_of_ble_eq_true rfl⟩ rfl hl.1 rfl (Nat.le_of_ble_eq_true rfl) ⟨Nat.zero_le _, Nat.zero_le _⟩ dX10_readPart_144) (fun r7 u H locs hq hw => ?_)
    obtain ⟨hu, h⟩ := hq
    rw [hu] at hw
    refine lv_if_eq (tgt := 176) hx hb dX10_readPart_147 (by decide) (fun c8 => ?_) (fun c8 => ?_)
    · have h := h.1 c8
      exact J176 x1 x2 f_place f_readClock f_readGates f_readKind f_readLies f_readSecond f_readSource _ _ _ h hw (lv_sub hl [0, 1, 2] rfl)
    · have h := h.2 c8
      refine lv_aload_n hx hb dX10_readPart_150 rfl (lv_at hl 0 rfl) ?_
      refine gM_X10_38_main E hw dX10_readPart_151 ?_
      refine lv_iload_n hx hb dX10_readPart_154 rfl (lv_at hl 2 rfl) ?_
      refine lv_aload_n hx hb dX10_readPart_155 rfl (lv_at hl 0 rfl) ?_
      refine lv_iconst (v := 0) hx hb dX10_readPart_156 (by decide) ?_
      refine lv_bipush (v := 9) hx hb dX10_readPart_157 (by decide) ?_
      refine g_aI E hw (g_rV E hw (c_X10_figure h _) ym_X10_figure k_649 ⟨rfl, rfl⟩ ⟨Nat.le_of_ble_eq_true rfl, Nat.le_of_ble_eq_true rfl⟩ 23 rfl rfl rfl rfl hl.1 rfl (Nat.le_of_ble_eq_true rfl) ⟨Nat.zero_le _, Nat.zero_le _⟩ dX10_readPart_159) (fun r9 u H locs hq hw => ?_)
      obtain ⟨y10, hu, h⟩ := hq
      rw [hu] at hw
      refine sM_readSecond E hw h.1 dX10_readPart_162 (fun y11 ey11 H locs hw => ?_)
      have h := h.2 y11 ey11
      refine lv_aload_n hx hb dX10_readPart_163 rfl (lv_at hl 0 rfl) ?_
      refine gM_X10_38_main E hw dX10_readPart_164 ?_
      refine lv_iload_n hx hb dX10_readPart_167 rfl (lv_at hl 2 rfl) ?_
      refine lM_readSecond E hw h.1 dX10_readPart_168 ?_
      have h := h.2
      refine lv_bipush (v := -9) hx hb dX10_readPart_169 (by decide) ?_
      refine lv_icmp_ne (tgt := 176) hx hb dX10_readPart_171 (by decide) (fun c12 => ?_) (fun c12 => ?_)
      · have h := h.1 c12
        exact J176 x1 x2 y10 f_readClock f_readGates f_readKind f_readLies y11 f_readSource _ _ _ h hw (lv_sub hl [0, 1, 2] rfl)
      · have h := h.2 c12
        refine lv_iconst (v := 0) hx hb dX10_readPart_174 (by decide) ?_
        exact hret _ _ _ _ _ _ (Or.inl rfl) ⟨_, _, _, _, _, _, _, rfl, h⟩ hw dX10_readPart_175
  unfold wp_X10_readPart at h
  refine lv_aload_n hx hb dX10_readPart_0 rfl (lv_at hl 0 rfl) ?_
  refine gM_X10_7_main E hw dX10_readPart_1 ?_
  refine lv_aload_n hx hb dX10_readPart_4 rfl (lv_at hl 0 rfl) ?_
  refine gM_X10_99_main E hw dX10_readPart_5 ?_
  refine lM_text E hw h.1 dX10_readPart_8 ?_
  have h := h.2
  refine g_aI E hw (g_rS E hw (c_X10_kindOf h _) ym_X10_kindOf k_655 ⟨rfl, rfl⟩ ⟨Nat.le_of_ble_eq_true rfl, Nat.le_of_ble_eq_true rfl⟩ rfl hl.1 rfl (Nat.le_of_ble_eq_true rfl) ⟨Nat.zero_le _, Nat.zero_le _⟩ dX10_readPart_9) (fun r13 u H locs hq hw => ?_)
  obtain ⟨hu, h⟩ := hq
  rw [hu] at hw
  refine lv_istore_n (lv' := [(1, .int r13), (0, .ref (ad 23))]) hx hb dX10_readPart_12 rfl hl (by decide) rfl (fun ls hl => ?_)
  refine lv_iload_n hx hb dX10_readPart_13 rfl (lv_at hl 0 rfl) ?_
  refine lv_bipush (v := -9) hx hb dX10_readPart_14 (by decide) ?_
  refine lv_icmp_eq (tgt := 28) hx hb dX10_readPart_16 (by decide) (fun c14 => ?_) (fun c14 => ?_)
  · have h := h.1 c14
    refine lv_iconst (v := 0) hx hb dX10_readPart_28 (by decide) ?_
    exact hret _ _ _ _ _ _ (Or.inl rfl) ⟨_, _, _, _, _, _, _, rfl, h⟩ hw dX10_readPart_29
  · have h := h.2 c14
    refine lv_aload_n hx hb dX10_readPart_19 rfl (lv_at hl 1 rfl) ?_
    refine gM_X10_116_main E hw dX10_readPart_20 ?_
    refine lv_bipush (v := 10) hx hb dX10_readPart_23 (by decide) ?_
    refine lv_icmp_ne (tgt := 30) hx hb dX10_readPart_25 (by decide) (fun c15 => ?_) (fun c15 => ?_)
    · have h := h.1 c15
      refine lv_aload_n hx hb dX10_readPart_30 rfl (lv_at hl 1 rfl) ?_
      refine lv_dup hx hb dX10_readPart_31 rfl ?_
      refine gM_X10_99_main E hw dX10_readPart_32 ?_
      refine lv_iconst (v := 1) hx hb dX10_readPart_35 (by decide) ?_
      refine lv_iadd hx hb dX10_readPart_36 ?_
      refine lv_topi (fun v16 ev16 => ?_)
      have h := h v16 ev16
      refine pM_X10_99_main E hw dX10_readPart_37 (fun H locs hw => ?_)
      refine lv_aload_n hx hb dX10_readPart_40 rfl (lv_at hl 1 rfl) ?_
      refine gM_X10_116_main E hw dX10_readPart_41 ?_
      refine lv_istore_n (lv' := [(2, .int f_readGates), (1, .int r13), (0, .ref (ad 23))]) hx hb dX10_readPart_44 rfl hl (by decide) rfl (fun ls hl => ?_)
      refine lv_aload_n hx hb dX10_readPart_45 rfl (lv_at hl 2 rfl) ?_
      refine gM_X10_29_main E hw dX10_readPart_46 ?_
      refine lv_iload_n hx hb dX10_readPart_49 rfl (lv_at hl 0 rfl) ?_
      refine lv_iload_n hx hb dX10_readPart_50 rfl (lv_at hl 1 rfl) ?_
      refine sM_readKind E hw h.1 dX10_readPart_51 (fun y17 ey17 H locs hw => ?_)
      have h := h.2 y17 ey17
      refine lv_aload_n hx hb dX10_readPart_52 rfl (lv_at hl 2 rfl) ?_
      refine gM_X10_35_main E hw dX10_readPart_53 ?_
      refine lv_iload_n hx hb dX10_readPart_56 rfl (lv_at hl 0 rfl) ?_
      refine lv_bipush (v := -9) hx hb dX10_readPart_57 (by decide) ?_
      refine sM_readSource E hw h.1 dX10_readPart_59 (fun y18 ey18 H locs hw => ?_)
      have h := h.2 y18 ey18
      refine lv_aload_n hx hb dX10_readPart_60 rfl (lv_at hl 2 rfl) ?_
      refine gM_X10_38_main E hw dX10_readPart_61 ?_
      refine lv_iload_n hx hb dX10_readPart_64 rfl (lv_at hl 0 rfl) ?_
      refine lv_bipush (v := -9) hx hb dX10_readPart_65 (by decide) ?_
      refine sM_readSecond E hw h.1 dX10_readPart_67 (fun y19 ey19 H locs hw => ?_)
      have h := h.2 y19 ey19
      refine lv_aload_n hx hb dX10_readPart_68 rfl (lv_at hl 2 rfl) ?_
      refine gM_X10_41_main E hw dX10_readPart_69 ?_
      refine lv_iload_n hx hb dX10_readPart_72 rfl (lv_at hl 0 rfl) ?_
      refine lv_bipush (v := -9) hx hb dX10_readPart_73 (by decide) ?_
      refine sM_readClock E hw h.1 dX10_readPart_75 (fun y20 ey20 H locs hw => ?_)
      have h := h.2 y20 ey20
      refine lv_aload_n hx hb dX10_readPart_76 rfl (lv_at hl 2 rfl) ?_
      refine gM_X10_32_main E hw dX10_readPart_77 ?_
      refine lv_iload_n hx hb dX10_readPart_80 rfl (lv_at hl 0 rfl) ?_
      refine lv_aload_n hx hb dX10_readPart_81 rfl (lv_at hl 2 rfl) ?_
      refine lv_iconst (v := 0) hx hb dX10_readPart_82 (by decide) ?_
      refine lv_aload_n hx hb dX10_readPart_83 rfl (lv_at hl 2 rfl) ?_
      refine gM_X10_106_main E hw dX10_readPart_84 ?_
      refine lv_iconst (v := 1) hx hb dX10_readPart_87 (by decide) ?_
      refine lv_isub hx hb dX10_readPart_88 ?_
      refine g_aI E hw (g_rV E hw (c_X10_figure h _) ym_X10_figure k_649 ⟨rfl, rfl⟩ ⟨Nat.le_of_ble_eq_true rfl, Nat.le_of_ble_eq_true rfl⟩ 23 rfl rfl rfl rfl hl.1 rfl (Nat.le_of_ble_eq_true rfl) ⟨Nat.zero_le _, Nat.zero_le _⟩ dX10_readPart_89) (fun r21 u H locs hq hw => ?_)
      obtain ⟨y22, hu, h⟩ := hq
      rw [hu] at hw
      refine sM_readLies E hw h.1 dX10_readPart_92 (fun y23 ey23 H locs hw => ?_)
      have h := h.2 y23 ey23
      refine lv_aload_n hx hb dX10_readPart_93 rfl (lv_at hl 2 rfl) ?_
      refine gM_X10_32_main E hw dX10_readPart_94 ?_
      refine lv_iload_n hx hb dX10_readPart_97 rfl (lv_at hl 0 rfl) ?_
      refine lM_readLies E hw h.1 dX10_readPart_98 ?_
      have h := h.2
      refine lv_bipush (v := -9) hx hb dX10_readPart_99 (by decide) ?_
      refine lv_icmp_ne (tgt := 106) hx hb dX10_readPart_101 (by decide) (fun c24 => ?_) (fun c24 => ?_)
      · have h := h.1 c24
        refine lv_iload_n hx hb dX10_readPart_106 rfl (lv_at hl 1 rfl) ?_
        refine lv_if_eq (tgt := 136) hx hb dX10_readPart_107 (by decide) (fun c25 => ?_) (fun c25 => ?_)
        · have h := h.1 c25
          exact J136 r13 f_readGates y22 y20 f_readGates y17 y23 y19 y18 _ _ _ h hw (lv_sub hl [2, 1, 0] rfl)
        · have h := h.2 c25
          refine lv_aload_n hx hb dX10_readPart_110 rfl (lv_at hl 2 rfl) ?_
          refine gM_X10_35_main E hw dX10_readPart_111 ?_
          refine lv_iload_n hx hb dX10_readPart_114 rfl (lv_at hl 0 rfl) ?_
          refine lv_aload_n hx hb dX10_readPart_115 rfl (lv_at hl 2 rfl) ?_
          refine lv_iconst (v := 0) hx hb dX10_readPart_116 (by decide) ?_
          refine lv_bipush (v := 9) hx hb dX10_readPart_117 (by decide) ?_
          refine g_aI E hw (g_rV E hw (c_X10_figure h _) ym_X10_figure k_649 ⟨rfl, rfl⟩ ⟨Nat.le_of_ble_eq_true rfl, Nat.le_of_ble_eq_true rfl⟩ 23 rfl rfl rfl rfl hl.1 rfl (Nat.le_of_ble_eq_true rfl) ⟨Nat.zero_le _, Nat.zero_le _⟩ dX10_readPart_119) (fun r26 u H locs hq hw => ?_)
          obtain ⟨y27, hu, h⟩ := hq
          rw [hu] at hw
          refine sM_readSource E hw h.1 dX10_readPart_122 (fun y28 ey28 H locs hw => ?_)
          have h := h.2 y28 ey28
          refine lv_aload_n hx hb dX10_readPart_123 rfl (lv_at hl 2 rfl) ?_
          refine gM_X10_35_main E hw dX10_readPart_124 ?_
          refine lv_iload_n hx hb dX10_readPart_127 rfl (lv_at hl 0 rfl) ?_
          refine lM_readSource E hw h.1 dX10_readPart_128 ?_
          have h := h.2
          refine lv_bipush (v := -9) hx hb dX10_readPart_129 (by decide) ?_
          refine lv_icmp_ne (tgt := 136) hx hb dX10_readPart_131 (by decide) (fun c29 => ?_) (fun c29 => ?_)
          · have h := h.1 c29
            exact J136 r13 f_readGates y27 y20 f_readGates y17 y23 y19 y28 _ _ _ h hw (lv_sub hl [2, 1, 0] rfl)
          · have h := h.2 c29
            refine lv_iconst (v := 0) hx hb dX10_readPart_134 (by decide) ?_
            exact hret _ _ _ _ _ _ (Or.inl rfl) ⟨_, _, _, _, _, _, _, rfl, h⟩ hw dX10_readPart_135
      · have h := h.2 c24
        refine lv_iconst (v := 0) hx hb dX10_readPart_104 (by decide) ?_
        exact hret _ _ _ _ _ _ (Or.inl rfl) ⟨_, _, _, _, _, _, _, rfl, h⟩ hw dX10_readPart_105
    · have h := h.2 c15
      refine lv_iconst (v := 0) hx hb dX10_readPart_28 (by decide) ?_
      exact hret _ _ _ _ _ _ (Or.inl rfl) ⟨_, _, _, _, _, _, _, rfl, h⟩ hw dX10_readPart_29
set_option maxRecDepth 100000 in
set_option maxHeartbeats 4000000 in
theorem c_X10_readBoard {l : Launch} {D : va_G} {cI cZ : ClassId} {ad : Nat → Nat} {f_thrown : Int32} {f_text : Nat → Int32} {f_textSize : Int32} {f_place : Int32} {f_chips : Int32} {f_gates : Int32} {f_kind : Nat → Int32} {f_source : Nat → Int32} {f_second : Nat → Int32} {f_clock : Nat → Int32} {f_readChips : Int32} {f_readPins : Int32} {f_readGates : Int32} {f_readKind : Nat → Int32} {f_readLies : Nat → Int32} {f_readSource : Nat → Int32} {f_readSecond : Nat → Int32} {f_readClock : Nat → Int32} {f_page : Nat → Int32} {f_trial : Nat → Int32} {f_book : Nat → Int32} {f_doings : Int32} {f_kept : Nat → Int32} {f_isKept : Nat → Int32} {f_seen : Int32} {f_seenBehind : Nat → Int32} {f_seenGate : Nat → Int32} {f_seenWorth : Nat → Int32} {f_seenWas : Nat → Int32} {f_seed : Int64} {f_worth : Nat → Int32} {f_known : Int32} {f_hand : Nat → Int32} {f_goes : Nat → Int32} {f_takes : Int32} {f_crossed : Int32} {f_last : Int32} {f_lastNow : Int32} {f_states : Nat → Int32} {X : va_W} {Q : Int32 → Int32 → Int32 → (Nat → Int32) → Int32 → (Nat → Int32) → (Nat → Int32) → Int32 → (Nat → Int32) → (Nat → Int32) → Prop} (h : wp_X10_readBoard f_place f_readChips f_readClock f_readGates f_readKind f_readLies f_readPins f_readSecond f_readSource f_text f_textSize Q) : CtI l yX10_readBoard cX10_readBoard 3 (some .int) ({ frames := 3, cells := 0, slots := 0, locals := 70 } : Room) D [(cI, .int), (cZ, .boolean)] [.ref (ad 23)] (wM ad cI cZ f_thrown f_text f_textSize f_place f_chips f_gates f_kind f_source f_second f_clock f_readChips f_readPins f_readGates f_readKind f_readLies f_readSource f_readSecond f_readClock f_page f_trial f_book f_doings f_kept f_isKept f_seen f_seenBehind f_seenGate f_seenWorth f_seenWas f_seed f_worth f_known f_hand f_goes f_takes f_crossed f_last f_lastNow f_states X) (fun r u => ∃ w0 w1 w2 w3 w4 w5 w6 w7 w8, u = (wM ad cI cZ f_thrown f_text f_textSize w0 f_chips f_gates f_kind f_source f_second f_clock w1 w6 w3 w4 w5 w8 w7 w2 f_page f_trial f_book f_doings f_kept f_isKept f_seen f_seenBehind f_seenGate f_seenWorth f_seenWas f_seed f_worth f_known f_hand f_goes f_takes f_crossed f_last f_lastNow f_states X) ∧ Q r w0 w1 w2 w3 w4 w5 w6 w7 w8) := by
  refine CtI.of (by decide) rfl (Nat.le_of_ble_eq_true rfl) ?_
  intro p e s m args below meth c A Z E hret ls hl hw
  have E : gE p m c cX10_readBoard 3 s args RX10 D [(cI, .int), (cZ, .boolean)] A := E
  have hx := E.1.1
  have hb := E.1.2.1
  have hl : lv_has ls 3 [(0, .ref (ad 23))] := hl
  have L49 : ∀ (n : Nat) (x1 : Int32) (x2 : Int32) (f_place : Int32) (f_readChips : Int32) (f_readClock : Nat → Int32) (f_readGates : Int32) (f_readKind : Nat → Int32) (f_readLies : Nat → Int32) (f_readPins : Int32) (f_readSecond : Nat → Int32) (f_readSource : Nat → Int32) (H : Heap) (locs : List Loc) (ls : Array Slot), wp_X10_readBoard_h49 f_text f_textSize Q  n x1 x2 f_place f_readChips f_readClock f_readGates f_readKind f_readLies f_readPins f_readSecond f_readSource → gW D s A (wM ad cI cZ f_thrown f_text f_textSize f_place f_chips f_gates f_kind f_source f_second f_clock f_readChips f_readPins f_readGates f_readKind f_readLies f_readSource f_readSecond f_readClock f_page f_trial f_book f_doings f_kept f_isKept f_seen f_seenBehind f_seenGate f_seenWorth f_seenWas f_seed f_worth f_known f_hand f_goes f_takes f_crossed f_last f_lastNow f_states X) H locs → lv_has ls 3 [(0, .ref (ad 23)), (1, .int x1), (2, .int x2)] → W p l e ({ frames := 3, cells := 0, slots := 0, locals := 70 } : Room) s m args below meth c H locs 0 0 Z (F0 m 49 ls []) := by
    intro n
    induction n with
    | zero => intro x1 x2 f_place f_readChips f_readClock f_readGates f_readKind f_readLies f_readPins f_readSecond f_readSource H locs ls h; exact False.elim h
    | succ n49 ih49 =>
      intro x1 x2 f_place f_readChips f_readClock f_readGates f_readKind f_readLies f_readPins f_readSecond f_readSource H locs ls h hw hl
      have h : wp_X10_readBoard_b49 f_text f_textSize Q (wp_X10_readBoard_h49 f_text f_textSize Q  n49) x1 x2 f_place f_readChips f_readClock f_readGates f_readKind f_readLies f_readPins f_readSecond f_readSource := h
      have J92 : ∀ (x2 : Int32) (s0 : Int32) (f_place : Int32) (f_readChips : Int32) (f_readClock : Nat → Int32) (f_readGates : Int32) (f_readKind : Nat → Int32) (f_readLies : Nat → Int32) (f_readPins : Int32) (f_readSecond : Nat → Int32) (f_readSource : Nat → Int32) (H : Heap) (locs : List Loc) (ls : Array Slot), wp_X10_readBoard_b92 f_text f_textSize Q (wp_X10_readBoard_h49 f_text f_textSize Q  n49) x2 s0 f_place f_readChips f_readClock f_readGates f_readKind f_readLies f_readPins f_readSecond f_readSource → gW D s A (wM ad cI cZ f_thrown f_text f_textSize f_place f_chips f_gates f_kind f_source f_second f_clock f_readChips f_readPins f_readGates f_readKind f_readLies f_readSource f_readSecond f_readClock f_page f_trial f_book f_doings f_kept f_isKept f_seen f_seenBehind f_seenGate f_seenWorth f_seenWas f_seed f_worth f_known f_hand f_goes f_takes f_crossed f_last f_lastNow f_states X) H locs → lv_has ls 3 [(0, .ref (ad 23)), (2, .int x2)] → W p l e ({ frames := 3, cells := 0, slots := 0, locals := 70 } : Room) s m args below meth c H locs 0 0 Z (F0 m 92 ls [.int s0]) := by
        intro x2 s0 f_place f_readChips f_readClock f_readGates f_readKind f_readLies f_readPins f_readSecond f_readSource H locs ls h hw hl
        unfold wp_X10_readBoard_b92 at h
        refine lv_istore_n (lv' := [(1, .int s0), (0, .ref (ad 23)), (2, .int x2)]) hx hb dX10_readBoard_92 rfl hl (by decide) rfl (fun ls hl => ?_)
        obtain ⟨v1, ev1⟩ : ∃ y : Int32, y = x2 + 1 := ⟨_, rfl⟩
        have h := h v1 ev1
        refine lv_iinc (v := v1) (lv' := [(2, .int v1), (1, .int s0), (0, .ref (ad 23))]) hx hb dX10_readBoard_93 hl (k := 2) rfl (by rw [ev1]; rfl) (by decide) rfl (fun ls hl => ?_)
        refine lv_goto (tgt := 49) hx hb dX10_readBoard_96 (by decide) ?_
        exact ih49 s0 v1 f_place f_readChips f_readClock f_readGates f_readKind f_readLies f_readPins f_readSecond f_readSource _ _ _ h hw (lv_sub hl [2, 1, 0] rfl)
      have J91 : ∀ (x2 : Int32) (f_place : Int32) (f_readChips : Int32) (f_readClock : Nat → Int32) (f_readGates : Int32) (f_readKind : Nat → Int32) (f_readLies : Nat → Int32) (f_readPins : Int32) (f_readSecond : Nat → Int32) (f_readSource : Nat → Int32) (H : Heap) (locs : List Loc) (ls : Array Slot), wp_X10_readBoard_b91 f_text f_textSize Q (wp_X10_readBoard_h49 f_text f_textSize Q  n49) x2 f_place f_readChips f_readClock f_readGates f_readKind f_readLies f_readPins f_readSecond f_readSource → gW D s A (wM ad cI cZ f_thrown f_text f_textSize f_place f_chips f_gates f_kind f_source f_second f_clock f_readChips f_readPins f_readGates f_readKind f_readLies f_readSource f_readSecond f_readClock f_page f_trial f_book f_doings f_kept f_isKept f_seen f_seenBehind f_seenGate f_seenWorth f_seenWas f_seed f_worth f_known f_hand f_goes f_takes f_crossed f_last f_lastNow f_states X) H locs → lv_has ls 3 [(0, .ref (ad 23)), (2, .int x2)] → W p l e ({ frames := 3, cells := 0, slots := 0, locals := 70 } : Room) s m args below meth c H locs 0 0 Z (F0 m 91 ls []) := by
        intro x2 f_place f_readChips f_readClock f_readGates f_readKind f_readLies f_readPins f_readSecond f_readSource H locs ls h hw hl
        unfold wp_X10_readBoard_b91 at h
        refine lv_iconst (v := 0) hx hb dX10_readBoard_91 (by decide) ?_
        exact J92 x2 (0 : Int32) f_place f_readChips f_readClock f_readGates f_readKind f_readLies f_readPins f_readSecond f_readSource _ _ _ h hw (lv_sub hl [0, 1] rfl)
      unfold wp_X10_readBoard_b49 at h
      refine lv_iload_n hx hb dX10_readBoard_49 rfl (lv_at hl 2 rfl) ?_
      refine lv_aload_n hx hb dX10_readBoard_50 rfl (lv_at hl 0 rfl) ?_
      refine gM_X10_116_main E hw dX10_readBoard_51 ?_
      refine lv_icmp_ge (tgt := 99) hx hb dX10_readBoard_54 (by decide) (fun c2 => ?_) (fun c2 => ?_)
      · have h := h.1 c2
        refine lv_iload_n hx hb dX10_readBoard_99 rfl (lv_at hl 1 rfl) ?_
        refine lv_if_eq (tgt := 108) hx hb dX10_readBoard_100 (by decide) (fun c3 => ?_) (fun c3 => ?_)
        · have h := h.1 c3
          refine lv_aload_n hx hb dX10_readBoard_108 rfl (lv_at hl 0 rfl) ?_
          refine gM_X10_96_main E hw dX10_readBoard_109 ?_
          exact hret _ _ _ _ _ _ ⟨_, _, _, _, _, _, _, _, _, rfl, h⟩ hw dX10_readBoard_112
        · have h := h.2 c3
          refine lv_bipush (v := -9) hx hb dX10_readBoard_103 (by decide) ?_
          refine lv_goto (tgt := 112) hx hb dX10_readBoard_105 (by decide) ?_
          exact hret _ _ _ _ _ _ ⟨_, _, _, _, _, _, _, _, _, rfl, h⟩ hw dX10_readBoard_112
      · have h := h.2 c2
        refine lv_iload_n hx hb dX10_readBoard_57 rfl (lv_at hl 1 rfl) ?_
        refine lv_if_eq (tgt := 91) hx hb dX10_readBoard_58 (by decide) (fun c4 => ?_) (fun c4 => ?_)
        · have h := h.1 c4
          exact J91 x2 f_place f_readChips f_readClock f_readGates f_readKind f_readLies f_readPins f_readSecond f_readSource _ _ _ h hw (lv_sub hl [0, 2] rfl)
        · have h := h.2 c4
          refine lv_aload_n hx hb dX10_readBoard_61 rfl (lv_at hl 0 rfl) ?_
          refine gM_X10_35_main E hw dX10_readBoard_62 ?_
          refine lv_iload_n hx hb dX10_readBoard_65 rfl (lv_at hl 2 rfl) ?_
          refine lM_readSource E hw h.1 dX10_readBoard_66 ?_
          have h := h.2
          refine lv_aload_n hx hb dX10_readBoard_67 rfl (lv_at hl 0 rfl) ?_
          refine gM_X10_116_main E hw dX10_readBoard_68 ?_
          refine lv_icmp_ge (tgt := 91) hx hb dX10_readBoard_71 (by decide) (fun c5 => ?_) (fun c5 => ?_)
          · have h := h.1 c5
            exact J91 x2 f_place f_readChips f_readClock f_readGates f_readKind f_readLies f_readPins f_readSecond f_readSource _ _ _ h hw (lv_sub hl [0, 2] rfl)
          · have h := h.2 c5
            refine lv_aload_n hx hb dX10_readBoard_74 rfl (lv_at hl 0 rfl) ?_
            refine gM_X10_38_main E hw dX10_readBoard_75 ?_
            refine lv_iload_n hx hb dX10_readBoard_78 rfl (lv_at hl 2 rfl) ?_
            refine lM_readSecond E hw h.1 dX10_readBoard_79 ?_
            have h := h.2
            refine lv_aload_n hx hb dX10_readBoard_80 rfl (lv_at hl 0 rfl) ?_
            refine gM_X10_116_main E hw dX10_readBoard_81 ?_
            refine lv_icmp_ge (tgt := 91) hx hb dX10_readBoard_84 (by decide) (fun c6 => ?_) (fun c6 => ?_)
            · have h := h.1 c6
              exact J91 x2 f_place f_readChips f_readClock f_readGates f_readKind f_readLies f_readPins f_readSecond f_readSource _ _ _ h hw (lv_sub hl [0, 2] rfl)
            · have h := h.2 c6
              refine lv_iconst (v := 1) hx hb dX10_readBoard_87 (by decide) ?_
              refine lv_goto (tgt := 92) hx hb dX10_readBoard_88 (by decide) ?_
              exact J92 x2 (1 : Int32) f_place f_readChips f_readClock f_readGates f_readKind f_readLies f_readPins f_readSecond f_readSource _ _ _ h hw (lv_sub hl [0, 2] rfl)
  have L22 : ∀ (n : Nat) (f_place : Int32) (f_readChips : Int32) (f_readClock : Nat → Int32) (f_readGates : Int32) (f_readKind : Nat → Int32) (f_readLies : Nat → Int32) (f_readPins : Int32) (f_readSecond : Nat → Int32) (f_readSource : Nat → Int32) (H : Heap) (locs : List Loc) (ls : Array Slot), wp_X10_readBoard_h22 f_text f_textSize Q  n f_place f_readChips f_readClock f_readGates f_readKind f_readLies f_readPins f_readSecond f_readSource → gW D s A (wM ad cI cZ f_thrown f_text f_textSize f_place f_chips f_gates f_kind f_source f_second f_clock f_readChips f_readPins f_readGates f_readKind f_readLies f_readSource f_readSecond f_readClock f_page f_trial f_book f_doings f_kept f_isKept f_seen f_seenBehind f_seenGate f_seenWorth f_seenWas f_seed f_worth f_known f_hand f_goes f_takes f_crossed f_last f_lastNow f_states X) H locs → lv_has ls 3 [(0, .ref (ad 23))] → W p l e ({ frames := 3, cells := 0, slots := 0, locals := 70 } : Room) s m args below meth c H locs 0 0 Z (F0 m 22 ls []) := by
    intro n
    induction n with
    | zero => intro f_place f_readChips f_readClock f_readGates f_readKind f_readLies f_readPins f_readSecond f_readSource H locs ls h; exact False.elim h
    | succ n22 ih22 =>
      intro f_place f_readChips f_readClock f_readGates f_readKind f_readLies f_readPins f_readSecond f_readSource H locs ls h hw hl
      have h : wp_X10_readBoard_b22 f_text f_textSize Q (wp_X10_readBoard_h22 f_text f_textSize Q  n22) f_place f_readChips f_readClock f_readGates f_readKind f_readLies f_readPins f_readSecond f_readSource := h
      unfold wp_X10_readBoard_b22 at h
      refine lv_aload_n hx hb dX10_readBoard_22 rfl (lv_at hl 0 rfl) ?_
      refine gM_X10_99_main E hw dX10_readBoard_23 ?_
      refine lv_aload_n hx hb dX10_readBoard_26 rfl (lv_at hl 0 rfl) ?_
      refine gM_X10_96_main E hw dX10_readBoard_27 ?_
      refine lv_icmp_ge (tgt := 45) hx hb dX10_readBoard_30 (by decide) (fun c7 => ?_) (fun c7 => ?_)
      · have h := h.1 c7
        refine lv_iconst (v := 1) hx hb dX10_readBoard_45 (by decide) ?_
        refine lv_istore_n (lv' := [(1, .int (1 : Int32)), (0, .ref (ad 23))]) hx hb dX10_readBoard_46 rfl hl (by decide) rfl (fun ls hl => ?_)
        refine lv_iconst (v := 0) hx hb dX10_readBoard_47 (by decide) ?_
        refine lv_istore_n (lv' := [(2, .int (0 : Int32)), (1, .int (1 : Int32)), (0, .ref (ad 23))]) hx hb dX10_readBoard_48 rfl hl (by decide) rfl (fun ls hl => ?_)
        obtain ⟨n, h⟩ := h
        exact L49 n (1 : Int32) (0 : Int32) f_place f_readChips f_readClock f_readGates f_readKind f_readLies f_readPins f_readSecond f_readSource _ _ _ h hw (lv_sub hl [2, 1, 0] rfl)
      · have h := h.2 c7
        refine lv_aload_n hx hb dX10_readBoard_33 rfl (lv_at hl 0 rfl) ?_
        refine g_aI E hw (g_rV E hw (c_X10_readPart h _) ym_X10_readPart k_652 ⟨rfl, rfl⟩ ⟨Nat.le_of_ble_eq_true rfl, Nat.le_of_ble_eq_true rfl⟩ 23 rfl rfl rfl rfl hl.1 rfl (Nat.le_of_ble_eq_true rfl) ⟨Nat.zero_le _, Nat.zero_le _⟩ dX10_readBoard_34) (fun r8 u H locs hq hw => ?_)
        obtain ⟨y9, y10, y11, y12, y13, y14, y15, hu, h⟩ := hq
        rw [hu] at hw
        refine lv_if_ne (tgt := 22) hx hb dX10_readBoard_37 (by decide) (fun c16 => ?_) (fun c16 => ?_)
        · have h := h.1 c16
          exact ih22 y9 f_readChips y10 y11 y12 y13 f_readPins y14 y15 _ _ _ h hw (lv_sub hl [0] rfl)
        · have h := h.2 c16
          refine lv_aload_n hx hb dX10_readBoard_40 rfl (lv_at hl 0 rfl) ?_
          refine gM_X10_99_main E hw dX10_readBoard_41 ?_
          exact hret _ _ _ _ _ _ ⟨_, _, _, _, _, _, _, _, _, rfl, h⟩ hw dX10_readBoard_44
  unfold wp_X10_readBoard at h
  refine lv_aload_n hx hb dX10_readBoard_0 rfl (lv_at hl 0 rfl) ?_
  refine lv_iconst (v := 0) hx hb dX10_readBoard_1 (by decide) ?_
  refine pM_X10_116_main E hw dX10_readBoard_2 (fun H locs hw => ?_)
  refine lv_aload_n hx hb dX10_readBoard_5 rfl (lv_at hl 0 rfl) ?_
  refine lv_iconst (v := 0) hx hb dX10_readBoard_6 (by decide) ?_
  refine pM_X10_99_main E hw dX10_readBoard_7 (fun H locs hw => ?_)
  refine lv_aload_n hx hb dX10_readBoard_10 rfl (lv_at hl 0 rfl) ?_
  refine g_aI E hw (g_rV E hw (c_X10_readHead h _) ym_X10_readHead k_646 ⟨rfl, rfl⟩ ⟨Nat.le_of_ble_eq_true rfl, Nat.le_of_ble_eq_true rfl⟩ 23 rfl rfl rfl rfl hl.1 rfl (Nat.le_of_ble_eq_true rfl) ⟨Nat.zero_le _, Nat.zero_le _⟩ dX10_readBoard_11) (fun r17 u H locs hq hw => ?_)
  obtain ⟨y18, y19, y20, hu, h⟩ := hq
  rw [hu] at hw
  refine lv_if_ne (tgt := 22) hx hb dX10_readBoard_14 (by decide) (fun c21 => ?_) (fun c21 => ?_)
  · have h := h.1 c21
    obtain ⟨n, h⟩ := h
    exact L22 n y18 y19 f_readClock (0 : Int32) f_readKind f_readLies y20 f_readSecond f_readSource _ _ _ h hw (lv_sub hl [0] rfl)
  · have h := h.2 c21
    refine lv_aload_n hx hb dX10_readBoard_17 rfl (lv_at hl 0 rfl) ?_
    refine gM_X10_99_main E hw dX10_readBoard_18 ?_
    exact hret _ _ _ _ _ _ ⟨_, _, _, _, _, _, _, _, _, rfl, h⟩ hw dX10_readBoard_21
set_option maxRecDepth 100000 in
set_option maxHeartbeats 4000000 in
theorem c_X10_fault {l : Launch} {D : va_G} {cI cZ : ClassId} {ad : Nat → Nat} {f_thrown : Int32} {f_text : Nat → Int32} {f_textSize : Int32} {f_place : Int32} {f_chips : Int32} {f_gates : Int32} {f_kind : Nat → Int32} {f_source : Nat → Int32} {f_second : Nat → Int32} {f_clock : Nat → Int32} {f_readChips : Int32} {f_readPins : Int32} {f_readGates : Int32} {f_readKind : Nat → Int32} {f_readLies : Nat → Int32} {f_readSource : Nat → Int32} {f_readSecond : Nat → Int32} {f_readClock : Nat → Int32} {f_page : Nat → Int32} {f_trial : Nat → Int32} {f_book : Nat → Int32} {f_doings : Int32} {f_kept : Nat → Int32} {f_isKept : Nat → Int32} {f_seen : Int32} {f_seenBehind : Nat → Int32} {f_seenGate : Nat → Int32} {f_seenWorth : Nat → Int32} {f_seenWas : Nat → Int32} {f_seed : Int64} {f_worth : Nat → Int32} {f_known : Int32} {f_hand : Nat → Int32} {f_goes : Nat → Int32} {f_takes : Int32} {f_crossed : Int32} {f_last : Int32} {f_lastNow : Int32} {f_states : Nat → Int32} {X : va_W} {Q : Int32 → Int32 → Int32 → (Nat → Int32) → Int32 → (Nat → Int32) → (Nat → Int32) → Int32 → (Nat → Int32) → (Nat → Int32) → Int32 → Prop} (h : wp_X10_fault f_place f_readChips f_readClock f_readGates f_readKind f_readLies f_readPins f_readSecond f_readSource f_text f_textSize f_thrown Q) : CtI l yX10_fault cX10_fault 1 (some .int) ({ frames := 4, cells := 0, slots := 0, locals := 92 } : Room) D [(cI, .int), (cZ, .boolean)] [.ref (ad 23)] (wM ad cI cZ f_thrown f_text f_textSize f_place f_chips f_gates f_kind f_source f_second f_clock f_readChips f_readPins f_readGates f_readKind f_readLies f_readSource f_readSecond f_readClock f_page f_trial f_book f_doings f_kept f_isKept f_seen f_seenBehind f_seenGate f_seenWorth f_seenWas f_seed f_worth f_known f_hand f_goes f_takes f_crossed f_last f_lastNow f_states X) (fun r u => ∃ w0 w1 w2 w3 w4 w5 w6 w7 w8 w9, u = (wM ad cI cZ w9 f_text f_textSize w0 f_chips f_gates f_kind f_source f_second f_clock w1 w6 w3 w4 w5 w8 w7 w2 f_page f_trial f_book f_doings f_kept f_isKept f_seen f_seenBehind f_seenGate f_seenWorth f_seenWas f_seed f_worth f_known f_hand f_goes f_takes f_crossed f_last f_lastNow f_states X) ∧ Q r w0 w1 w2 w3 w4 w5 w6 w7 w8 w9) := by
  refine CtI.of (by decide) rfl (Nat.le_of_ble_eq_true rfl) ?_
  intro p e s m args below meth c A Z E hret ls hl hw
  have E : gE p m c cX10_fault 1 s args RX10 D [(cI, .int), (cZ, .boolean)] A := E
  have hx := E.1.1
  have hb := E.1.2.1
  have hl : lv_has ls 1 [(0, .ref (ad 23))] := hl
  unfold wp_X10_fault at h
  refine lv_aload_n hx hb dX10_fault_0 rfl (lv_at hl 0 rfl) ?_
  refine lv_iconst (v := 0) hx hb dX10_fault_1 (by decide) ?_
  refine pM_X10_84_main E hw dX10_fault_2 (fun H locs hw => ?_)
  refine lv_aload_n hx hb dX10_fault_5 rfl (lv_at hl 0 rfl) ?_
  refine g_aI E hw (g_rV E hw (c_X10_readBoard h _) ym_X10_readBoard k_643 ⟨rfl, rfl⟩ ⟨Nat.le_of_ble_eq_true rfl, Nat.le_of_ble_eq_true rfl⟩ 23 rfl rfl rfl rfl hl.1 rfl (Nat.le_of_ble_eq_true rfl) ⟨Nat.zero_le _, Nat.zero_le _⟩ dX10_fault_6) (fun r1 u H locs hq hw => ?_)
  obtain ⟨y2, y3, y4, y5, y6, y7, y8, y9, y10, hu, h⟩ := hq
  rw [hu] at hw
  exact hret _ _ _ _ _ _ ⟨_, _, _, _, _, _, _, _, _, _, rfl, h⟩ hw dX10_fault_9
set_option maxRecDepth 100000 in
set_option maxHeartbeats 4000000 in
theorem c_X10_board {l : Launch} {D : va_G} {cI cZ : ClassId} {ad : Nat → Nat} {f_thrown : Int32} {f_text : Nat → Int32} {f_textSize : Int32} {f_place : Int32} {f_chips : Int32} {f_gates : Int32} {f_kind : Nat → Int32} {f_source : Nat → Int32} {f_second : Nat → Int32} {f_clock : Nat → Int32} {f_readChips : Int32} {f_readPins : Int32} {f_readGates : Int32} {f_readKind : Nat → Int32} {f_readLies : Nat → Int32} {f_readSource : Nat → Int32} {f_readSecond : Nat → Int32} {f_readClock : Nat → Int32} {f_page : Nat → Int32} {f_trial : Nat → Int32} {f_book : Nat → Int32} {f_doings : Int32} {f_kept : Nat → Int32} {f_isKept : Nat → Int32} {f_seen : Int32} {f_seenBehind : Nat → Int32} {f_seenGate : Nat → Int32} {f_seenWorth : Nat → Int32} {f_seenWas : Nat → Int32} {f_seed : Int64} {f_worth : Nat → Int32} {f_known : Int32} {f_hand : Nat → Int32} {f_goes : Nat → Int32} {f_takes : Int32} {f_crossed : Int32} {f_last : Int32} {f_lastNow : Int32} {f_states : Nat → Int32} {X : va_W} {Q : Int32 → Int32 → (Nat → Int32) → Int32 → Int32 → (Nat → Int32) → (Nat → Int32) → (Nat → Int32) → Int32 → Int32 → (Nat → Int32) → Int32 → (Nat → Int32) → (Nat → Int32) → Int32 → (Nat → Int32) → (Nat → Int32) → (Nat → Int32) → (Nat → Int32) → Int32 → Prop} (h : wp_X10_board f_chips f_clock f_doings f_gates f_isKept f_kind f_page f_place f_readChips f_readClock f_readGates f_readKind f_readLies f_readPins f_readSecond f_readSource f_second f_source f_text f_textSize f_thrown Q) : CtI l yX10_board cX10_board 2 (some .int) ({ frames := 4, cells := 0, slots := 0, locals := 92 } : Room) D [(cI, .int), (cZ, .boolean)] [.ref (ad 23)] (wM ad cI cZ f_thrown f_text f_textSize f_place f_chips f_gates f_kind f_source f_second f_clock f_readChips f_readPins f_readGates f_readKind f_readLies f_readSource f_readSecond f_readClock f_page f_trial f_book f_doings f_kept f_isKept f_seen f_seenBehind f_seenGate f_seenWorth f_seenWas f_seed f_worth f_known f_hand f_goes f_takes f_crossed f_last f_lastNow f_states X) (fun r u => ∃ w0 w1 w2 w3 w4 w5 w6 w7 w8 w9 w10 w11 w12 w13 w14 w15 w16 w17 w18, u = (wM ad cI cZ w18 f_text f_textSize w7 w0 w3 w5 w17 w16 w1 w8 w13 w10 w11 w12 w15 w14 w9 w6 f_trial f_book w2 f_kept w4 f_seen f_seenBehind f_seenGate f_seenWorth f_seenWas f_seed f_worth f_known f_hand f_goes f_takes f_crossed f_last f_lastNow f_states X) ∧ Q r w0 w1 w2 w3 w4 w5 w6 w7 w8 w9 w10 w11 w12 w13 w14 w15 w16 w17 w18) := by
  refine CtI.of (by decide) rfl (Nat.le_of_ble_eq_true rfl) ?_
  intro p e s m args below meth c A Z E hret ls hl hw
  have E : gE p m c cX10_board 2 s args RX10 D [(cI, .int), (cZ, .boolean)] A := E
  have hx := E.1.1
  have hb := E.1.2.1
  have hl : lv_has ls 2 [(0, .ref (ad 23))] := hl
  have L67 : ∀ (n : Nat) (x1 : Int32) (f_chips : Int32) (f_clock : Nat → Int32) (f_doings : Int32) (f_gates : Int32) (f_isKept : Nat → Int32) (f_kind : Nat → Int32) (f_page : Nat → Int32) (f_place : Int32) (f_readChips : Int32) (f_readClock : Nat → Int32) (f_readGates : Int32) (f_readKind : Nat → Int32) (f_readLies : Nat → Int32) (f_readPins : Int32) (f_readSecond : Nat → Int32) (f_readSource : Nat → Int32) (f_second : Nat → Int32) (f_source : Nat → Int32) (f_thrown : Int32) (H : Heap) (locs : List Loc) (ls : Array Slot), wp_X10_board_h67 f_text f_textSize Q  n x1 f_chips f_clock f_doings f_gates f_isKept f_kind f_page f_place f_readChips f_readClock f_readGates f_readKind f_readLies f_readPins f_readSecond f_readSource f_second f_source f_thrown → gW D s A (wM ad cI cZ f_thrown f_text f_textSize f_place f_chips f_gates f_kind f_source f_second f_clock f_readChips f_readPins f_readGates f_readKind f_readLies f_readSource f_readSecond f_readClock f_page f_trial f_book f_doings f_kept f_isKept f_seen f_seenBehind f_seenGate f_seenWorth f_seenWas f_seed f_worth f_known f_hand f_goes f_takes f_crossed f_last f_lastNow f_states X) H locs → lv_has ls 2 [(0, .ref (ad 23)), (1, .int x1)] → W p l e ({ frames := 4, cells := 0, slots := 0, locals := 92 } : Room) s m args below meth c H locs 0 0 Z (F0 m 67 ls []) := by
    intro n
    induction n with
    | zero => intro x1 f_chips f_clock f_doings f_gates f_isKept f_kind f_page f_place f_readChips f_readClock f_readGates f_readKind f_readLies f_readPins f_readSecond f_readSource f_second f_source f_thrown H locs ls h; exact False.elim h
    | succ n67 ih67 =>
      intro x1 f_chips f_clock f_doings f_gates f_isKept f_kind f_page f_place f_readChips f_readClock f_readGates f_readKind f_readLies f_readPins f_readSecond f_readSource f_second f_source f_thrown H locs ls h hw hl
      have h : wp_X10_board_b67 f_text f_textSize Q (wp_X10_board_h67 f_text f_textSize Q  n67) x1 f_chips f_clock f_doings f_gates f_isKept f_kind f_page f_place f_readChips f_readClock f_readGates f_readKind f_readLies f_readPins f_readSecond f_readSource f_second f_source f_thrown := h
      unfold wp_X10_board_b67 at h
      refine lv_iload_n hx hb dX10_board_67 rfl (lv_at hl 1 rfl) ?_
      refine lv_aload_n hx hb dX10_board_68 rfl (lv_at hl 0 rfl) ?_
      refine gM_X10_87_main E hw dX10_board_69 ?_
      refine lv_icmp_ge (tgt := 144) hx hb dX10_board_72 (by decide) (fun c1 => ?_) (fun c1 => ?_)
      · have h := h.1 c1
        refine lv_aload_n hx hb dX10_board_144 rfl (lv_at hl 0 rfl) ?_
        refine lv_iconst (v := 0) hx hb dX10_board_145 (by decide) ?_
        refine pM_X10_134_main E hw dX10_board_146 (fun H locs hw => ?_)
        refine lv_aload_n hx hb dX10_board_149 rfl (lv_at hl 0 rfl) ?_
        refine gM_X10_56_main E hw dX10_board_150 ?_
        refine lv_iconst (v := 0) hx hb dX10_board_153 (by decide) ?_
        refine lv_iconst (v := 0) hx hb dX10_board_154 (by decide) ?_
        refine sM_isKept E hw (Or.inl rfl) h.1 dX10_board_155 (fun y2 ey2 H locs hw => ?_)
        have h := h.2 y2 ey2
        refine lv_aload_n hx hb dX10_board_156 rfl (lv_at hl 0 rfl) ?_
        refine gM_X10_56_main E hw dX10_board_157 ?_
        refine lv_iconst (v := 1) hx hb dX10_board_160 (by decide) ?_
        refine lv_iconst (v := 0) hx hb dX10_board_161 (by decide) ?_
        refine sM_isKept E hw (Or.inl rfl) h.1 dX10_board_162 (fun y3 ey3 H locs hw => ?_)
        have h := h.2 y3 ey3
        refine lv_aload_n hx hb dX10_board_163 rfl (lv_at hl 0 rfl) ?_
        refine gM_X10_87_main E hw dX10_board_164 ?_
        exact hret _ _ _ _ _ _ ⟨_, _, _, _, _, _, _, _, _, _, _, _, _, _, _, _, _, _, _, rfl, h⟩ hw dX10_board_167
      · have h := h.2 c1
        refine lv_aload_n hx hb dX10_board_75 rfl (lv_at hl 0 rfl) ?_
        refine gM_X10_17_main E hw dX10_board_76 ?_
        refine lv_iload_n hx hb dX10_board_79 rfl (lv_at hl 1 rfl) ?_
        refine lv_aload_n hx hb dX10_board_80 rfl (lv_at hl 0 rfl) ?_
        refine gM_X10_29_main E hw dX10_board_81 ?_
        refine lv_iload_n hx hb dX10_board_84 rfl (lv_at hl 1 rfl) ?_
        refine lM_readKind E hw h.1 dX10_board_85 ?_
        have h := h.2
        refine lv_topi (fun v4 ev4 => ?_)
        have h := h v4 ev4
        refine sM_kind E hw h.1 dX10_board_86 (fun y5 ey5 H locs hw => ?_)
        have h := h.2 y5 ey5
        refine lv_aload_n hx hb dX10_board_87 rfl (lv_at hl 0 rfl) ?_
        refine gM_X10_20_main E hw dX10_board_88 ?_
        refine lv_iload_n hx hb dX10_board_91 rfl (lv_at hl 1 rfl) ?_
        refine lv_aload_n hx hb dX10_board_92 rfl (lv_at hl 0 rfl) ?_
        refine gM_X10_35_main E hw dX10_board_93 ?_
        refine lv_iload_n hx hb dX10_board_96 rfl (lv_at hl 1 rfl) ?_
        refine lM_readSource E hw h.1 dX10_board_97 ?_
        have h := h.2
        refine lv_topi (fun v6 ev6 => ?_)
        have h := h v6 ev6
        refine sM_source E hw h.1 dX10_board_98 (fun y7 ey7 H locs hw => ?_)
        have h := h.2 y7 ey7
        refine lv_aload_n hx hb dX10_board_99 rfl (lv_at hl 0 rfl) ?_
        refine gM_X10_23_main E hw dX10_board_100 ?_
        refine lv_iload_n hx hb dX10_board_103 rfl (lv_at hl 1 rfl) ?_
        refine lv_aload_n hx hb dX10_board_104 rfl (lv_at hl 0 rfl) ?_
        refine gM_X10_38_main E hw dX10_board_105 ?_
        refine lv_iload_n hx hb dX10_board_108 rfl (lv_at hl 1 rfl) ?_
        refine lM_readSecond E hw h.1 dX10_board_109 ?_
        have h := h.2
        refine lv_topi (fun v8 ev8 => ?_)
        have h := h v8 ev8
        refine sM_second E hw h.1 dX10_board_110 (fun y9 ey9 H locs hw => ?_)
        have h := h.2 y9 ey9
        refine lv_aload_n hx hb dX10_board_111 rfl (lv_at hl 0 rfl) ?_
        refine gM_X10_26_main E hw dX10_board_112 ?_
        refine lv_iload_n hx hb dX10_board_115 rfl (lv_at hl 1 rfl) ?_
        refine lv_aload_n hx hb dX10_board_116 rfl (lv_at hl 0 rfl) ?_
        refine gM_X10_41_main E hw dX10_board_117 ?_
        refine lv_iload_n hx hb dX10_board_120 rfl (lv_at hl 1 rfl) ?_
        refine lM_readClock E hw h.1 dX10_board_121 ?_
        have h := h.2
        refine lv_topi (fun v10 ev10 => ?_)
        have h := h v10 ev10
        refine sM_clock E hw h.1 dX10_board_122 (fun y11 ey11 H locs hw => ?_)
        have h := h.2 y11 ey11
        refine lv_aload_n hx hb dX10_board_123 rfl (lv_at hl 0 rfl) ?_
        refine gM_X10_44_main E hw dX10_board_124 ?_
        refine lv_bipush (v := 10) hx hb dX10_board_127 (by decide) ?_
        refine lv_iload_n hx hb dX10_board_129 rfl (lv_at hl 1 rfl) ?_
        refine lv_iadd hx hb dX10_board_130 ?_
        refine lv_aload_n hx hb dX10_board_131 rfl (lv_at hl 0 rfl) ?_
        refine gM_X10_32_main E hw dX10_board_132 ?_
        refine lv_iload_n hx hb dX10_board_135 rfl (lv_at hl 1 rfl) ?_
        refine lM_readLies E hw h.1 dX10_board_136 ?_
        have h := h.2
        refine lv_topi (fun v12 ev12 => ?_)
        have h := h v12 ev12
        refine sM_page E hw h.1 dX10_board_137 (fun y13 ey13 H locs hw => ?_)
        have h := h.2 y13 ey13
        obtain ⟨v14, ev14⟩ : ∃ y : Int32, y = x1 + 1 := ⟨_, rfl⟩
        have h := h v14 ev14
        refine lv_iinc (v := v14) (lv' := [(1, .int v14), (0, .ref (ad 23))]) hx hb dX10_board_138 hl (k := 1) rfl (by rw [ev14]; rfl) (by decide) rfl (fun ls hl => ?_)
        refine lv_goto (tgt := 67) hx hb dX10_board_141 (by decide) ?_
        exact ih67 v14 f_chips y11 f_doings f_gates f_isKept y5 y13 f_place f_readChips f_readClock f_readGates f_readKind f_readLies f_readPins f_readSecond f_readSource y9 y7 f_thrown _ _ _ h hw (lv_sub hl [1, 0] rfl)
  have L35 : ∀ (n : Nat) (x1 : Int32) (f_chips : Int32) (f_clock : Nat → Int32) (f_doings : Int32) (f_gates : Int32) (f_isKept : Nat → Int32) (f_kind : Nat → Int32) (f_page : Nat → Int32) (f_place : Int32) (f_readChips : Int32) (f_readClock : Nat → Int32) (f_readGates : Int32) (f_readKind : Nat → Int32) (f_readLies : Nat → Int32) (f_readPins : Int32) (f_readSecond : Nat → Int32) (f_readSource : Nat → Int32) (f_second : Nat → Int32) (f_source : Nat → Int32) (f_thrown : Int32) (H : Heap) (locs : List Loc) (ls : Array Slot), wp_X10_board_h35 f_text f_textSize Q  n x1 f_chips f_clock f_doings f_gates f_isKept f_kind f_page f_place f_readChips f_readClock f_readGates f_readKind f_readLies f_readPins f_readSecond f_readSource f_second f_source f_thrown → gW D s A (wM ad cI cZ f_thrown f_text f_textSize f_place f_chips f_gates f_kind f_source f_second f_clock f_readChips f_readPins f_readGates f_readKind f_readLies f_readSource f_readSecond f_readClock f_page f_trial f_book f_doings f_kept f_isKept f_seen f_seenBehind f_seenGate f_seenWorth f_seenWas f_seed f_worth f_known f_hand f_goes f_takes f_crossed f_last f_lastNow f_states X) H locs → lv_has ls 2 [(0, .ref (ad 23)), (1, .int x1)] → W p l e ({ frames := 4, cells := 0, slots := 0, locals := 92 } : Room) s m args below meth c H locs 0 0 Z (F0 m 35 ls []) := by
    intro n
    induction n with
    | zero => intro x1 f_chips f_clock f_doings f_gates f_isKept f_kind f_page f_place f_readChips f_readClock f_readGates f_readKind f_readLies f_readPins f_readSecond f_readSource f_second f_source f_thrown H locs ls h; exact False.elim h
    | succ n35 ih35 =>
      intro x1 f_chips f_clock f_doings f_gates f_isKept f_kind f_page f_place f_readChips f_readClock f_readGates f_readKind f_readLies f_readPins f_readSecond f_readSource f_second f_source f_thrown H locs ls h hw hl
      have h : wp_X10_board_b35 f_text f_textSize Q (wp_X10_board_h35 f_text f_textSize Q  n35) x1 f_chips f_clock f_doings f_gates f_isKept f_kind f_page f_place f_readChips f_readClock f_readGates f_readKind f_readLies f_readPins f_readSecond f_readSource f_second f_source f_thrown := h
      unfold wp_X10_board_b35 at h
      refine lv_iload_n hx hb dX10_board_35 rfl (lv_at hl 1 rfl) ?_
      refine lv_bipush (v := 22) hx hb dX10_board_36 (by decide) ?_
      refine lv_icmp_ge (tgt := 54) hx hb dX10_board_38 (by decide) (fun c15 => ?_) (fun c15 => ?_)
      · have h := h.1 c15
        refine lv_aload_n hx hb dX10_board_54 rfl (lv_at hl 0 rfl) ?_
        refine gM_X10_44_main E hw dX10_board_55 ?_
        refine lv_bipush (v := 20) hx hb dX10_board_58 (by decide) ?_
        refine lv_aload_n hx hb dX10_board_60 rfl (lv_at hl 0 rfl) ?_
        refine gM_X10_109_main E hw dX10_board_61 ?_
        refine sM_page E hw h.1 dX10_board_64 (fun y16 ey16 H locs hw => ?_)
        have h := h.2 y16 ey16
        refine lv_iconst (v := 0) hx hb dX10_board_65 (by decide) ?_
        refine lv_istore_n (lv' := [(1, .int (0 : Int32)), (0, .ref (ad 23))]) hx hb dX10_board_66 rfl hl (by decide) rfl (fun ls hl => ?_)
        obtain ⟨n, h⟩ := h
        exact L67 n (0 : Int32) f_chips f_clock f_doings f_gates f_isKept f_kind y16 f_place f_readChips f_readClock f_readGates f_readKind f_readLies f_readPins f_readSecond f_readSource f_second f_source f_thrown _ _ _ h hw (lv_sub hl [1, 0] rfl)
      · have h := h.2 c15
        refine lv_aload_n hx hb dX10_board_41 rfl (lv_at hl 0 rfl) ?_
        refine gM_X10_44_main E hw dX10_board_42 ?_
        refine lv_iload_n hx hb dX10_board_45 rfl (lv_at hl 1 rfl) ?_
        refine lv_iconst (v := 0) hx hb dX10_board_46 (by decide) ?_
        refine sM_page E hw h.1 dX10_board_47 (fun y17 ey17 H locs hw => ?_)
        have h := h.2 y17 ey17
        obtain ⟨v18, ev18⟩ : ∃ y : Int32, y = x1 + 1 := ⟨_, rfl⟩
        have h := h v18 ev18
        refine lv_iinc (v := v18) (lv' := [(1, .int v18), (0, .ref (ad 23))]) hx hb dX10_board_48 hl (k := 1) rfl (by rw [ev18]; rfl) (by decide) rfl (fun ls hl => ?_)
        refine lv_goto (tgt := 35) hx hb dX10_board_51 (by decide) ?_
        exact ih35 v18 f_chips f_clock f_doings f_gates f_isKept f_kind y17 f_place f_readChips f_readClock f_readGates f_readKind f_readLies f_readPins f_readSecond f_readSource f_second f_source f_thrown _ _ _ h hw (lv_sub hl [1, 0] rfl)
  unfold wp_X10_board at h
  refine lv_aload_n hx hb dX10_board_0 rfl (lv_at hl 0 rfl) ?_
  refine lv_iconst (v := 0) hx hb dX10_board_1 (by decide) ?_
  refine pM_X10_84_main E hw dX10_board_2 (fun H locs hw => ?_)
  refine lv_aload_n hx hb dX10_board_5 rfl (lv_at hl 0 rfl) ?_
  refine g_aI E hw (g_rV E hw (c_X10_readBoard h _) ym_X10_readBoard k_643 ⟨rfl, rfl⟩ ⟨Nat.le_of_ble_eq_true rfl, Nat.le_of_ble_eq_true rfl⟩ 23 rfl rfl rfl rfl hl.1 rfl (Nat.le_of_ble_eq_true rfl) ⟨Nat.zero_le _, Nat.zero_le _⟩ dX10_board_6) (fun r19 u H locs hq hw => ?_)
  obtain ⟨y20, y21, y22, y23, y24, y25, y26, y27, y28, hu, h⟩ := hq
  rw [hu] at hw
  refine lv_bipush (v := -9) hx hb dX10_board_9 (by decide) ?_
  refine lv_icmp_eq (tgt := 17) hx hb dX10_board_11 (by decide) (fun c29 => ?_) (fun c29 => ?_)
  · have h := h.1 c29
    refine lv_aload_n hx hb dX10_board_17 rfl (lv_at hl 0 rfl) ?_
    refine lv_aload_n hx hb dX10_board_18 rfl (lv_at hl 0 rfl) ?_
    refine gM_X10_106_main E hw dX10_board_19 ?_
    refine pM_X10_13_main E hw dX10_board_22 (fun H locs hw => ?_)
    refine lv_aload_n hx hb dX10_board_25 rfl (lv_at hl 0 rfl) ?_
    refine lv_aload_n hx hb dX10_board_26 rfl (lv_at hl 0 rfl) ?_
    refine gM_X10_116_main E hw dX10_board_27 ?_
    refine pM_X10_87_main E hw dX10_board_30 (fun H locs hw => ?_)
    refine lv_iconst (v := 0) hx hb dX10_board_33 (by decide) ?_
    refine lv_istore_n (lv' := [(1, .int (0 : Int32)), (0, .ref (ad 23))]) hx hb dX10_board_34 rfl hl (by decide) rfl (fun ls hl => ?_)
    obtain ⟨n, h⟩ := h
    exact L35 n (0 : Int32) y21 f_clock f_doings y23 f_isKept f_kind f_page y20 y21 y22 y23 y24 y25 y26 y27 y28 f_second f_source (0 : Int32) _ _ _ h hw (lv_sub hl [1, 0] rfl)
  · have h := h.2 c29
    refine lv_bipush (v := -3) hx hb dX10_board_14 (by decide) ?_
    exact hret _ _ _ _ _ _ ⟨_, _, _, _, _, _, _, _, _, _, _, _, _, _, _, _, _, _, _, rfl, h⟩ hw dX10_board_16
set_option maxRecDepth 100000 in
set_option maxHeartbeats 4000000 in
theorem c_X10_stands {l : Launch} {D : va_G} {cI cZ : ClassId} {ad : Nat → Nat} {f_thrown : Int32} {f_text : Nat → Int32} {f_textSize : Int32} {f_place : Int32} {f_chips : Int32} {f_gates : Int32} {f_kind : Nat → Int32} {f_source : Nat → Int32} {f_second : Nat → Int32} {f_clock : Nat → Int32} {f_readChips : Int32} {f_readPins : Int32} {f_readGates : Int32} {f_readKind : Nat → Int32} {f_readLies : Nat → Int32} {f_readSource : Nat → Int32} {f_readSecond : Nat → Int32} {f_readClock : Nat → Int32} {f_page : Nat → Int32} {f_trial : Nat → Int32} {f_book : Nat → Int32} {f_doings : Int32} {f_kept : Nat → Int32} {f_isKept : Nat → Int32} {f_seen : Int32} {f_seenBehind : Nat → Int32} {f_seenGate : Nat → Int32} {f_seenWorth : Nat → Int32} {f_seenWas : Nat → Int32} {f_seed : Int64} {f_worth : Nat → Int32} {f_known : Int32} {f_hand : Nat → Int32} {f_goes : Nat → Int32} {f_takes : Int32} {f_crossed : Int32} {f_last : Int32} {f_lastNow : Int32} {f_states : Nat → Int32} {X : va_W} {p1 : Int32} {Q : Int32 → Prop} (h : wp_X10_stands f_kind p1 Q) : CtI l yX10_stands cX10_stands 2 (some .boolean) ({ frames := 0, cells := 0, slots := 0, locals := 0 } : Room) D [(cI, .int), (cZ, .boolean)] [.ref (ad 23), .int p1] (wM ad cI cZ f_thrown f_text f_textSize f_place f_chips f_gates f_kind f_source f_second f_clock f_readChips f_readPins f_readGates f_readKind f_readLies f_readSource f_readSecond f_readClock f_page f_trial f_book f_doings f_kept f_isKept f_seen f_seenBehind f_seenGate f_seenWorth f_seenWas f_seed f_worth f_known f_hand f_goes f_takes f_crossed f_last f_lastNow f_states X) (fun r u => u = (wM ad cI cZ f_thrown f_text f_textSize f_place f_chips f_gates f_kind f_source f_second f_clock f_readChips f_readPins f_readGates f_readKind f_readLies f_readSource f_readSecond f_readClock f_page f_trial f_book f_doings f_kept f_isKept f_seen f_seenBehind f_seenGate f_seenWorth f_seenWas f_seed f_worth f_known f_hand f_goes f_takes f_crossed f_last f_lastNow f_states X) ∧ Q r) := by
  refine CtI.ofZ (by decide) rfl (Nat.le_of_ble_eq_true rfl) ?_
  intro p e s m args below meth c A Z E hret ls hl hw
  have E : gE p m c cX10_stands 2 s args RX10 D [(cI, .int), (cZ, .boolean)] A := E
  have hx := E.1.1
  have hb := E.1.2.1
  have hl : lv_has ls 2 [(0, .ref (ad 23)), (1, .int p1)] := hl
  have J19 : ∀  (H : Heap) (locs : List Loc) (ls : Array Slot), wp_X10_stands_b19 f_kind p1 Q   → gW D s A (wM ad cI cZ f_thrown f_text f_textSize f_place f_chips f_gates f_kind f_source f_second f_clock f_readChips f_readPins f_readGates f_readKind f_readLies f_readSource f_readSecond f_readClock f_page f_trial f_book f_doings f_kept f_isKept f_seen f_seenBehind f_seenGate f_seenWorth f_seenWas f_seed f_worth f_known f_hand f_goes f_takes f_crossed f_last f_lastNow f_states X) H locs → lv_has ls 2 [] → W p l e ({ frames := 0, cells := 0, slots := 0, locals := 0 } : Room) s m args below meth c H locs 0 0 Z (F0 m 19 ls []) := by
    intro  H locs ls h hw hl
    unfold wp_X10_stands_b19 at h
    refine lv_iconst (v := 1) hx hb dX10_stands_19 (by decide) ?_
    refine lv_goto (tgt := 24) hx hb dX10_stands_20 (by decide) ?_
    exact hret _ _ _ _ _ _ (Or.inr rfl) ⟨rfl, h⟩ hw dX10_stands_24
  unfold wp_X10_stands at h
  refine lv_aload_n hx hb dX10_stands_0 rfl (lv_at hl 0 rfl) ?_
  refine gM_X10_17_main E hw dX10_stands_1 ?_
  refine lv_iload_n hx hb dX10_stands_4 rfl (lv_at hl 1 rfl) ?_
  refine lM_kind E hw h.1 dX10_stands_5 ?_
  have h := h.2
  refine lv_if_eq (tgt := 19) hx hb dX10_stands_6 (by decide) (fun c1 => ?_) (fun c1 => ?_)
  · have h := h.1 c1
    exact J19  _ _ _ h hw (lv_sub hl [] rfl)
  · have h := h.2 c1
    refine lv_aload_n hx hb dX10_stands_9 rfl (lv_at hl 0 rfl) ?_
    refine gM_X10_17_main E hw dX10_stands_10 ?_
    refine lv_iload_n hx hb dX10_stands_13 rfl (lv_at hl 1 rfl) ?_
    refine lM_kind E hw h.1 dX10_stands_14 ?_
    have h := h.2
    refine lv_iconst (v := 5) hx hb dX10_stands_15 (by decide) ?_
    refine lv_icmp_ne (tgt := 23) hx hb dX10_stands_16 (by decide) (fun c2 => ?_) (fun c2 => ?_)
    · have h := h.1 c2
      refine lv_iconst (v := 0) hx hb dX10_stands_23 (by decide) ?_
      exact hret _ _ _ _ _ _ (Or.inl rfl) ⟨rfl, h⟩ hw dX10_stands_24
    · have h := h.2 c2
      exact J19  _ _ _ h hw (lv_sub hl [] rfl)
set_option maxRecDepth 100000 in
set_option maxHeartbeats 4000000 in
theorem c_X10_worthBy {l : Launch} {D : va_G} {cI cZ : ClassId} {ad : Nat → Nat} {f_thrown : Int32} {f_text : Nat → Int32} {f_textSize : Int32} {f_place : Int32} {f_chips : Int32} {f_gates : Int32} {f_kind : Nat → Int32} {f_source : Nat → Int32} {f_second : Nat → Int32} {f_clock : Nat → Int32} {f_readChips : Int32} {f_readPins : Int32} {f_readGates : Int32} {f_readKind : Nat → Int32} {f_readLies : Nat → Int32} {f_readSource : Nat → Int32} {f_readSecond : Nat → Int32} {f_readClock : Nat → Int32} {f_page : Nat → Int32} {f_trial : Nat → Int32} {f_book : Nat → Int32} {f_doings : Int32} {f_kept : Nat → Int32} {f_isKept : Nat → Int32} {f_seen : Int32} {f_seenBehind : Nat → Int32} {f_seenGate : Nat → Int32} {f_seenWorth : Nat → Int32} {f_seenWas : Nat → Int32} {f_seed : Int64} {f_worth : Nat → Int32} {f_known : Int32} {f_hand : Nat → Int32} {f_goes : Nat → Int32} {f_takes : Int32} {f_crossed : Int32} {f_last : Int32} {f_lastNow : Int32} {f_states : Nat → Int32} {X : va_W} {p1 : Int32} {p2 : Int32} {p3 : Int32} {Q : Int32 → Prop} (h : wp_X10_worthBy p1 p2 p3 Q) : CtI l yX10_worthBy cX10_worthBy 4 (some .int) ({ frames := 0, cells := 0, slots := 0, locals := 0 } : Room) D [(cI, .int), (cZ, .boolean)] [.ref (ad 23), .int p1, .int p2, .int p3] (wM ad cI cZ f_thrown f_text f_textSize f_place f_chips f_gates f_kind f_source f_second f_clock f_readChips f_readPins f_readGates f_readKind f_readLies f_readSource f_readSecond f_readClock f_page f_trial f_book f_doings f_kept f_isKept f_seen f_seenBehind f_seenGate f_seenWorth f_seenWas f_seed f_worth f_known f_hand f_goes f_takes f_crossed f_last f_lastNow f_states X) (fun r u => u = (wM ad cI cZ f_thrown f_text f_textSize f_place f_chips f_gates f_kind f_source f_second f_clock f_readChips f_readPins f_readGates f_readKind f_readLies f_readSource f_readSecond f_readClock f_page f_trial f_book f_doings f_kept f_isKept f_seen f_seenBehind f_seenGate f_seenWorth f_seenWas f_seed f_worth f_known f_hand f_goes f_takes f_crossed f_last f_lastNow f_states X) ∧ Q r) := by
  refine CtI.of (by decide) rfl (Nat.le_of_ble_eq_true rfl) ?_
  intro p e s m args below meth c A Z E hret ls hl hw
  have E : gE p m c cX10_worthBy 4 s args RX10 D [(cI, .int), (cZ, .boolean)] A := E
  have hx := E.1.1
  have hb := E.1.2.1
  have hl : lv_has ls 4 [(0, .ref (ad 23)), (1, .int p1), (2, .int p2), (3, .int p3)] := hl
  have J96 : ∀  (H : Heap) (locs : List Loc) (ls : Array Slot), wp_X10_worthBy_b96 p1 p2 p3 Q   → gW D s A (wM ad cI cZ f_thrown f_text f_textSize f_place f_chips f_gates f_kind f_source f_second f_clock f_readChips f_readPins f_readGates f_readKind f_readLies f_readSource f_readSecond f_readClock f_page f_trial f_book f_doings f_kept f_isKept f_seen f_seenBehind f_seenGate f_seenWorth f_seenWas f_seed f_worth f_known f_hand f_goes f_takes f_crossed f_last f_lastNow f_states X) H locs → lv_has ls 4 [] → W p l e ({ frames := 0, cells := 0, slots := 0, locals := 0 } : Room) s m args below meth c H locs 0 0 Z (F0 m 96 ls []) := by
    intro  H locs ls h hw hl
    unfold wp_X10_worthBy_b96 at h
    refine lv_iconst (v := 2) hx hb dX10_worthBy_96 (by decide) ?_
    refine lv_goto (tgt := 103) hx hb dX10_worthBy_97 (by decide) ?_
    exact hret _ _ _ _ _ _ ⟨rfl, h⟩ hw dX10_worthBy_103
  have J66 : ∀  (H : Heap) (locs : List Loc) (ls : Array Slot), wp_X10_worthBy_b66 p1 p2 p3 Q   → gW D s A (wM ad cI cZ f_thrown f_text f_textSize f_place f_chips f_gates f_kind f_source f_second f_clock f_readChips f_readPins f_readGates f_readKind f_readLies f_readSource f_readSecond f_readClock f_page f_trial f_book f_doings f_kept f_isKept f_seen f_seenBehind f_seenGate f_seenWorth f_seenWas f_seed f_worth f_known f_hand f_goes f_takes f_crossed f_last f_lastNow f_states X) H locs → lv_has ls 4 [] → W p l e ({ frames := 0, cells := 0, slots := 0, locals := 0 } : Room) s m args below meth c H locs 0 0 Z (F0 m 66 ls []) := by
    intro  H locs ls h hw hl
    unfold wp_X10_worthBy_b66 at h
    refine lv_iconst (v := 1) hx hb dX10_worthBy_66 (by decide) ?_
    refine lv_goto (tgt := 85) hx hb dX10_worthBy_67 (by decide) ?_
    exact hret _ _ _ _ _ _ ⟨rfl, h⟩ hw dX10_worthBy_85
  have J80 : ∀  (H : Heap) (locs : List Loc) (ls : Array Slot), wp_X10_worthBy_b80 p1 p2 p3 Q   → gW D s A (wM ad cI cZ f_thrown f_text f_textSize f_place f_chips f_gates f_kind f_source f_second f_clock f_readChips f_readPins f_readGates f_readKind f_readLies f_readSource f_readSecond f_readClock f_page f_trial f_book f_doings f_kept f_isKept f_seen f_seenBehind f_seenGate f_seenWorth f_seenWas f_seed f_worth f_known f_hand f_goes f_takes f_crossed f_last f_lastNow f_states X) H locs → lv_has ls 4 [] → W p l e ({ frames := 0, cells := 0, slots := 0, locals := 0 } : Room) s m args below meth c H locs 0 0 Z (F0 m 80 ls []) := by
    intro  H locs ls h hw hl
    unfold wp_X10_worthBy_b80 at h
    refine lv_iconst (v := 2) hx hb dX10_worthBy_80 (by decide) ?_
    refine lv_goto (tgt := 85) hx hb dX10_worthBy_81 (by decide) ?_
    exact hret _ _ _ _ _ _ ⟨rfl, h⟩ hw dX10_worthBy_85
  have J31 : ∀  (H : Heap) (locs : List Loc) (ls : Array Slot), wp_X10_worthBy_b31 p1 p2 p3 Q   → gW D s A (wM ad cI cZ f_thrown f_text f_textSize f_place f_chips f_gates f_kind f_source f_second f_clock f_readChips f_readPins f_readGates f_readKind f_readLies f_readSource f_readSecond f_readClock f_page f_trial f_book f_doings f_kept f_isKept f_seen f_seenBehind f_seenGate f_seenWorth f_seenWas f_seed f_worth f_known f_hand f_goes f_takes f_crossed f_last f_lastNow f_states X) H locs → lv_has ls 4 [] → W p l e ({ frames := 0, cells := 0, slots := 0, locals := 0 } : Room) s m args below meth c H locs 0 0 Z (F0 m 31 ls []) := by
    intro  H locs ls h hw hl
    unfold wp_X10_worthBy_b31 at h
    refine lv_iconst (v := 0) hx hb dX10_worthBy_31 (by decide) ?_
    refine lv_goto (tgt := 50) hx hb dX10_worthBy_32 (by decide) ?_
    exact hret _ _ _ _ _ _ ⟨rfl, h⟩ hw dX10_worthBy_50
  have J45 : ∀  (H : Heap) (locs : List Loc) (ls : Array Slot), wp_X10_worthBy_b45 p1 p2 p3 Q   → gW D s A (wM ad cI cZ f_thrown f_text f_textSize f_place f_chips f_gates f_kind f_source f_second f_clock f_readChips f_readPins f_readGates f_readKind f_readLies f_readSource f_readSecond f_readClock f_page f_trial f_book f_doings f_kept f_isKept f_seen f_seenBehind f_seenGate f_seenWorth f_seenWas f_seed f_worth f_known f_hand f_goes f_takes f_crossed f_last f_lastNow f_states X) H locs → lv_has ls 4 [] → W p l e ({ frames := 0, cells := 0, slots := 0, locals := 0 } : Room) s m args below meth c H locs 0 0 Z (F0 m 45 ls []) := by
    intro  H locs ls h hw hl
    unfold wp_X10_worthBy_b45 at h
    refine lv_iconst (v := 2) hx hb dX10_worthBy_45 (by decide) ?_
    refine lv_goto (tgt := 50) hx hb dX10_worthBy_46 (by decide) ?_
    exact hret _ _ _ _ _ _ ⟨rfl, h⟩ hw dX10_worthBy_50
  unfold wp_X10_worthBy at h
  refine lv_iload_n hx hb dX10_worthBy_0 rfl (lv_at hl 1 rfl) ?_
  refine lv_iconst (v := 1) hx hb dX10_worthBy_1 (by decide) ?_
  refine lv_icmp_ne (tgt := 18) hx hb dX10_worthBy_2 (by decide) (fun c1 => ?_) (fun c1 => ?_)
  · have h := h.1 c1
    refine lv_iload_n hx hb dX10_worthBy_18 rfl (lv_at hl 1 rfl) ?_
    refine lv_iconst (v := 2) hx hb dX10_worthBy_19 (by decide) ?_
    refine lv_icmp_ne (tgt := 51) hx hb dX10_worthBy_20 (by decide) (fun c2 => ?_) (fun c2 => ?_)
    · have h := h.1 c2
      refine lv_iload_n hx hb dX10_worthBy_51 rfl (lv_at hl 1 rfl) ?_
      refine lv_iconst (v := 3) hx hb dX10_worthBy_52 (by decide) ?_
      refine lv_icmp_ne (tgt := 86) hx hb dX10_worthBy_53 (by decide) (fun c3 => ?_) (fun c3 => ?_)
      · have h := h.1 c3
        refine lv_iload_n hx hb dX10_worthBy_86 rfl (lv_at hl 2 rfl) ?_
        refine lv_iconst (v := 2) hx hb dX10_worthBy_87 (by decide) ?_
        refine lv_icmp_eq (tgt := 96) hx hb dX10_worthBy_88 (by decide) (fun c4 => ?_) (fun c4 => ?_)
        · have h := h.1 c4
          exact J96  _ _ _ h hw (lv_sub hl [] rfl)
        · have h := h.2 c4
          refine lv_iload_n hx hb dX10_worthBy_91 rfl (lv_at hl 3 rfl) ?_
          refine lv_iconst (v := 2) hx hb dX10_worthBy_92 (by decide) ?_
          refine lv_icmp_ne (tgt := 100) hx hb dX10_worthBy_93 (by decide) (fun c5 => ?_) (fun c5 => ?_)
          · have h := h.1 c5
            refine lv_iload_n hx hb dX10_worthBy_100 rfl (lv_at hl 2 rfl) ?_
            refine lv_iload_n hx hb dX10_worthBy_101 rfl (lv_at hl 3 rfl) ?_
            refine lv_ixor hx hb dX10_worthBy_102 ?_
            exact hret _ _ _ _ _ _ ⟨rfl, h⟩ hw dX10_worthBy_103
          · have h := h.2 c5
            exact J96  _ _ _ h hw (lv_sub hl [] rfl)
      · have h := h.2 c3
        refine lv_iload_n hx hb dX10_worthBy_56 rfl (lv_at hl 2 rfl) ?_
        refine lv_iconst (v := 1) hx hb dX10_worthBy_57 (by decide) ?_
        refine lv_icmp_eq (tgt := 66) hx hb dX10_worthBy_58 (by decide) (fun c6 => ?_) (fun c6 => ?_)
        · have h := h.1 c6
          exact J66  _ _ _ h hw (lv_sub hl [] rfl)
        · have h := h.2 c6
          refine lv_iload_n hx hb dX10_worthBy_61 rfl (lv_at hl 3 rfl) ?_
          refine lv_iconst (v := 1) hx hb dX10_worthBy_62 (by decide) ?_
          refine lv_icmp_ne (tgt := 70) hx hb dX10_worthBy_63 (by decide) (fun c7 => ?_) (fun c7 => ?_)
          · have h := h.1 c7
            refine lv_iload_n hx hb dX10_worthBy_70 rfl (lv_at hl 2 rfl) ?_
            refine lv_iconst (v := 2) hx hb dX10_worthBy_71 (by decide) ?_
            refine lv_icmp_eq (tgt := 80) hx hb dX10_worthBy_72 (by decide) (fun c8 => ?_) (fun c8 => ?_)
            · have h := h.1 c8
              exact J80  _ _ _ h hw (lv_sub hl [] rfl)
            · have h := h.2 c8
              refine lv_iload_n hx hb dX10_worthBy_75 rfl (lv_at hl 3 rfl) ?_
              refine lv_iconst (v := 2) hx hb dX10_worthBy_76 (by decide) ?_
              refine lv_icmp_ne (tgt := 84) hx hb dX10_worthBy_77 (by decide) (fun c9 => ?_) (fun c9 => ?_)
              · have h := h.1 c9
                refine lv_iconst (v := 0) hx hb dX10_worthBy_84 (by decide) ?_
                exact hret _ _ _ _ _ _ ⟨rfl, h⟩ hw dX10_worthBy_85
              · have h := h.2 c9
                exact J80  _ _ _ h hw (lv_sub hl [] rfl)
          · have h := h.2 c7
            exact J66  _ _ _ h hw (lv_sub hl [] rfl)
    · have h := h.2 c2
      refine lv_iload_n hx hb dX10_worthBy_23 rfl (lv_at hl 2 rfl) ?_
      refine lv_if_eq (tgt := 31) hx hb dX10_worthBy_24 (by decide) (fun c10 => ?_) (fun c10 => ?_)
      · have h := h.1 c10
        exact J31  _ _ _ h hw (lv_sub hl [] rfl)
      · have h := h.2 c10
        refine lv_iload_n hx hb dX10_worthBy_27 rfl (lv_at hl 3 rfl) ?_
        refine lv_if_ne (tgt := 35) hx hb dX10_worthBy_28 (by decide) (fun c11 => ?_) (fun c11 => ?_)
        · have h := h.1 c11
          refine lv_iload_n hx hb dX10_worthBy_35 rfl (lv_at hl 2 rfl) ?_
          refine lv_iconst (v := 2) hx hb dX10_worthBy_36 (by decide) ?_
          refine lv_icmp_eq (tgt := 45) hx hb dX10_worthBy_37 (by decide) (fun c12 => ?_) (fun c12 => ?_)
          · have h := h.1 c12
            exact J45  _ _ _ h hw (lv_sub hl [] rfl)
          · have h := h.2 c12
            refine lv_iload_n hx hb dX10_worthBy_40 rfl (lv_at hl 3 rfl) ?_
            refine lv_iconst (v := 2) hx hb dX10_worthBy_41 (by decide) ?_
            refine lv_icmp_ne (tgt := 49) hx hb dX10_worthBy_42 (by decide) (fun c13 => ?_) (fun c13 => ?_)
            · have h := h.1 c13
              refine lv_iconst (v := 1) hx hb dX10_worthBy_49 (by decide) ?_
              exact hret _ _ _ _ _ _ ⟨rfl, h⟩ hw dX10_worthBy_50
            · have h := h.2 c13
              exact J45  _ _ _ h hw (lv_sub hl [] rfl)
        · have h := h.2 c11
          exact J31  _ _ _ h hw (lv_sub hl [] rfl)
  · have h := h.2 c1
    refine lv_iload_n hx hb dX10_worthBy_5 rfl (lv_at hl 2 rfl) ?_
    refine lv_iconst (v := 2) hx hb dX10_worthBy_6 (by decide) ?_
    refine lv_icmp_ne (tgt := 14) hx hb dX10_worthBy_7 (by decide) (fun c14 => ?_) (fun c14 => ?_)
    · have h := h.1 c14
      refine lv_iconst (v := 1) hx hb dX10_worthBy_14 (by decide) ?_
      refine lv_iload_n hx hb dX10_worthBy_15 rfl (lv_at hl 2 rfl) ?_
      refine lv_isub hx hb dX10_worthBy_16 ?_
      exact hret _ _ _ _ _ _ ⟨rfl, h⟩ hw dX10_worthBy_17
    · have h := h.2 c14
      refine lv_iconst (v := 2) hx hb dX10_worthBy_10 (by decide) ?_
      refine lv_goto (tgt := 17) hx hb dX10_worthBy_11 (by decide) ?_
      exact hret _ _ _ _ _ _ ⟨rfl, h⟩ hw dX10_worthBy_17
set_option maxRecDepth 100000 in
set_option maxHeartbeats 4000000 in
theorem c_X10_isAt {l : Launch} {D : va_G} {cI cZ : ClassId} {ad : Nat → Nat} {f_thrown : Int32} {f_text : Nat → Int32} {f_textSize : Int32} {f_place : Int32} {f_chips : Int32} {f_gates : Int32} {f_kind : Nat → Int32} {f_source : Nat → Int32} {f_second : Nat → Int32} {f_clock : Nat → Int32} {f_readChips : Int32} {f_readPins : Int32} {f_readGates : Int32} {f_readKind : Nat → Int32} {f_readLies : Nat → Int32} {f_readSource : Nat → Int32} {f_readSecond : Nat → Int32} {f_readClock : Nat → Int32} {f_page : Nat → Int32} {f_trial : Nat → Int32} {f_book : Nat → Int32} {f_doings : Int32} {f_kept : Nat → Int32} {f_isKept : Nat → Int32} {f_seen : Int32} {f_seenBehind : Nat → Int32} {f_seenGate : Nat → Int32} {f_seenWorth : Nat → Int32} {f_seenWas : Nat → Int32} {f_seed : Int64} {f_worth : Nat → Int32} {f_known : Int32} {f_hand : Nat → Int32} {f_goes : Nat → Int32} {f_takes : Int32} {f_crossed : Int32} {f_last : Int32} {f_lastNow : Int32} {f_states : Nat → Int32} {X : va_W} {p1 : Int32} {p2 : Int32} {Q : Int32 → Prop} (h : wp_X10_isAt f_hand p1 p2 Q) : CtI l yX10_isAt cX10_isAt 3 (some .boolean) ({ frames := 0, cells := 0, slots := 0, locals := 0 } : Room) D [(cI, .int), (cZ, .boolean)] [.ref (ad 23), .int p1, .int p2] (wM ad cI cZ f_thrown f_text f_textSize f_place f_chips f_gates f_kind f_source f_second f_clock f_readChips f_readPins f_readGates f_readKind f_readLies f_readSource f_readSecond f_readClock f_page f_trial f_book f_doings f_kept f_isKept f_seen f_seenBehind f_seenGate f_seenWorth f_seenWas f_seed f_worth f_known f_hand f_goes f_takes f_crossed f_last f_lastNow f_states X) (fun r u => u = (wM ad cI cZ f_thrown f_text f_textSize f_place f_chips f_gates f_kind f_source f_second f_clock f_readChips f_readPins f_readGates f_readKind f_readLies f_readSource f_readSecond f_readClock f_page f_trial f_book f_doings f_kept f_isKept f_seen f_seenBehind f_seenGate f_seenWorth f_seenWas f_seed f_worth f_known f_hand f_goes f_takes f_crossed f_last f_lastNow f_states X) ∧ Q r) := by
  refine CtI.ofZ (by decide) rfl (Nat.le_of_ble_eq_true rfl) ?_
  intro p e s m args below meth c A Z E hret ls hl hw
  have E : gE p m c cX10_isAt 3 s args RX10 D [(cI, .int), (cZ, .boolean)] A := E
  have hx := E.1.1
  have hb := E.1.2.1
  have hl : lv_has ls 3 [(0, .ref (ad 23)), (1, .int p1), (2, .int p2)] := hl
  unfold wp_X10_isAt at h
  refine lv_aload_n hx hb dX10_isAt_0 rfl (lv_at hl 0 rfl) ?_
  refine gM_X10_75_main E hw dX10_isAt_1 ?_
  refine lv_iconst (v := 4) hx hb dX10_isAt_4 (by decide) ?_
  refine lv_iload_n hx hb dX10_isAt_5 rfl (lv_at hl 1 rfl) ?_
  refine lv_imul hx hb dX10_isAt_6 ?_
  refine lv_iload_n hx hb dX10_isAt_7 rfl (lv_at hl 2 rfl) ?_
  refine lv_iadd hx hb dX10_isAt_8 ?_
  refine lM_hand E hw h.1 dX10_isAt_9 ?_
  have h := h.2
  refine lv_bipush (v := -9) hx hb dX10_isAt_10 (by decide) ?_
  refine lv_icmp_eq (tgt := 19) hx hb dX10_isAt_12 (by decide) (fun c1 => ?_) (fun c1 => ?_)
  · have h := h.1 c1
    refine lv_iconst (v := 0) hx hb dX10_isAt_19 (by decide) ?_
    exact hret _ _ _ _ _ _ (Or.inl rfl) ⟨rfl, h⟩ hw dX10_isAt_20
  · have h := h.2 c1
    refine lv_iconst (v := 1) hx hb dX10_isAt_15 (by decide) ?_
    refine lv_goto (tgt := 20) hx hb dX10_isAt_16 (by decide) ?_
    exact hret _ _ _ _ _ _ (Or.inr rfl) ⟨rfl, h⟩ hw dX10_isAt_20
set_option maxRecDepth 100000 in
set_option maxHeartbeats 4000000 in
theorem c_X10_usedBy {l : Launch} {D : va_G} {cI cZ : ClassId} {ad : Nat → Nat} {f_thrown : Int32} {f_text : Nat → Int32} {f_textSize : Int32} {f_place : Int32} {f_chips : Int32} {f_gates : Int32} {f_kind : Nat → Int32} {f_source : Nat → Int32} {f_second : Nat → Int32} {f_clock : Nat → Int32} {f_readChips : Int32} {f_readPins : Int32} {f_readGates : Int32} {f_readKind : Nat → Int32} {f_readLies : Nat → Int32} {f_readSource : Nat → Int32} {f_readSecond : Nat → Int32} {f_readClock : Nat → Int32} {f_page : Nat → Int32} {f_trial : Nat → Int32} {f_book : Nat → Int32} {f_doings : Int32} {f_kept : Nat → Int32} {f_isKept : Nat → Int32} {f_seen : Int32} {f_seenBehind : Nat → Int32} {f_seenGate : Nat → Int32} {f_seenWorth : Nat → Int32} {f_seenWas : Nat → Int32} {f_seed : Int64} {f_worth : Nat → Int32} {f_known : Int32} {f_hand : Nat → Int32} {f_goes : Nat → Int32} {f_takes : Int32} {f_crossed : Int32} {f_last : Int32} {f_lastNow : Int32} {f_states : Nat → Int32} {X : va_W} {p1 : Int32} {Q : Int32 → Prop} (h : wp_X10_usedBy f_gates f_second f_source p1 Q) : CtI l yX10_usedBy cX10_usedBy 4 (some .int) ({ frames := 0, cells := 0, slots := 0, locals := 0 } : Room) D [(cI, .int), (cZ, .boolean)] [.ref (ad 23), .int p1] (wM ad cI cZ f_thrown f_text f_textSize f_place f_chips f_gates f_kind f_source f_second f_clock f_readChips f_readPins f_readGates f_readKind f_readLies f_readSource f_readSecond f_readClock f_page f_trial f_book f_doings f_kept f_isKept f_seen f_seenBehind f_seenGate f_seenWorth f_seenWas f_seed f_worth f_known f_hand f_goes f_takes f_crossed f_last f_lastNow f_states X) (fun r u => u = (wM ad cI cZ f_thrown f_text f_textSize f_place f_chips f_gates f_kind f_source f_second f_clock f_readChips f_readPins f_readGates f_readKind f_readLies f_readSource f_readSecond f_readClock f_page f_trial f_book f_doings f_kept f_isKept f_seen f_seenBehind f_seenGate f_seenWorth f_seenWas f_seed f_worth f_known f_hand f_goes f_takes f_crossed f_last f_lastNow f_states X) ∧ Q r) := by
  refine CtI.of (by decide) rfl (Nat.le_of_ble_eq_true rfl) ?_
  intro p e s m args below meth c A Z E hret ls hl hw
  have E : gE p m c cX10_usedBy 4 s args RX10 D [(cI, .int), (cZ, .boolean)] A := E
  have hx := E.1.1
  have hb := E.1.2.1
  have hl : lv_has ls 4 [(0, .ref (ad 23)), (1, .int p1)] := hl
  have L4 : ∀ (n : Nat) (x2 : Int32) (x3 : Int32) (H : Heap) (locs : List Loc) (ls : Array Slot), wp_X10_usedBy_h4 f_gates f_second f_source p1 Q  n x2 x3 → gW D s A (wM ad cI cZ f_thrown f_text f_textSize f_place f_chips f_gates f_kind f_source f_second f_clock f_readChips f_readPins f_readGates f_readKind f_readLies f_readSource f_readSecond f_readClock f_page f_trial f_book f_doings f_kept f_isKept f_seen f_seenBehind f_seenGate f_seenWorth f_seenWas f_seed f_worth f_known f_hand f_goes f_takes f_crossed f_last f_lastNow f_states X) H locs → lv_has ls 4 [(0, .ref (ad 23)), (1, .int p1), (2, .int x2), (3, .int x3)] → W p l e ({ frames := 0, cells := 0, slots := 0, locals := 0 } : Room) s m args below meth c H locs 0 0 Z (F0 m 4 ls []) := by
    intro n
    induction n with
    | zero => intro x2 x3 H locs ls h; exact False.elim h
    | succ n4 ih4 =>
      intro x2 x3 H locs ls h hw hl
      have h : wp_X10_usedBy_b4 f_gates f_second f_source p1 Q (wp_X10_usedBy_h4 f_gates f_second f_source p1 Q  n4) x2 x3 := h
      have J40 : ∀ (x3 : Int32) (s0 : Int32) (s1 : Int32) (H : Heap) (locs : List Loc) (ls : Array Slot), wp_X10_usedBy_b40 f_gates f_second f_source p1 Q (wp_X10_usedBy_h4 f_gates f_second f_source p1 Q  n4) x3 s0 s1 → gW D s A (wM ad cI cZ f_thrown f_text f_textSize f_place f_chips f_gates f_kind f_source f_second f_clock f_readChips f_readPins f_readGates f_readKind f_readLies f_readSource f_readSecond f_readClock f_page f_trial f_book f_doings f_kept f_isKept f_seen f_seenBehind f_seenGate f_seenWorth f_seenWas f_seed f_worth f_known f_hand f_goes f_takes f_crossed f_last f_lastNow f_states X) H locs → lv_has ls 4 [(0, .ref (ad 23)), (1, .int p1), (3, .int x3)] → W p l e ({ frames := 0, cells := 0, slots := 0, locals := 0 } : Room) s m args below meth c H locs 0 0 Z (F0 m 40 ls [.int s1, .int s0]) := by
        intro x3 s0 s1 H locs ls h hw hl
        unfold wp_X10_usedBy_b40 at h
        refine lv_ior hx hb dX10_usedBy_40 ?_
        refine lv_topi (fun v1 ev1 => ?_)
        have h := h v1 ev1
        refine lv_istore_n (lv' := [(2, .int v1), (0, .ref (ad 23)), (1, .int p1), (3, .int x3)]) hx hb dX10_usedBy_41 rfl hl (by decide) rfl (fun ls hl => ?_)
        obtain ⟨v2, ev2⟩ : ∃ y : Int32, y = x3 + 1 := ⟨_, rfl⟩
        have h := h v2 ev2
        refine lv_iinc (v := v2) (lv' := [(3, .int v2), (2, .int v1), (0, .ref (ad 23)), (1, .int p1)]) hx hb dX10_usedBy_42 hl (k := 3) rfl (by rw [ev2]; rfl) (by decide) rfl (fun ls hl => ?_)
        refine lv_goto (tgt := 4) hx hb dX10_usedBy_45 (by decide) ?_
        exact ih4 v1 v2 _ _ _ h hw (lv_sub hl [2, 3, 1, 0] rfl)
      have J33 : ∀ (x3 : Int32) (s0 : Int32) (H : Heap) (locs : List Loc) (ls : Array Slot), wp_X10_usedBy_b33 f_gates f_second f_source p1 Q (wp_X10_usedBy_h4 f_gates f_second f_source p1 Q  n4) x3 s0 → gW D s A (wM ad cI cZ f_thrown f_text f_textSize f_place f_chips f_gates f_kind f_source f_second f_clock f_readChips f_readPins f_readGates f_readKind f_readLies f_readSource f_readSecond f_readClock f_page f_trial f_book f_doings f_kept f_isKept f_seen f_seenBehind f_seenGate f_seenWorth f_seenWas f_seed f_worth f_known f_hand f_goes f_takes f_crossed f_last f_lastNow f_states X) H locs → lv_has ls 4 [(0, .ref (ad 23)), (1, .int p1), (3, .int x3)] → W p l e ({ frames := 0, cells := 0, slots := 0, locals := 0 } : Room) s m args below meth c H locs 0 0 Z (F0 m 33 ls [.int s0]) := by
        intro x3 s0 H locs ls h hw hl
        unfold wp_X10_usedBy_b33 at h
        refine lv_iconst (v := 1) hx hb dX10_usedBy_33 (by decide) ?_
        refine lv_iload_n hx hb dX10_usedBy_34 rfl (lv_at hl 2 rfl) ?_
        refine lv_ishl hx hb dX10_usedBy_35 ?_
        refine lv_goto (tgt := 40) hx hb dX10_usedBy_36 (by decide) ?_
        exact J40 x3 s0 (((1 : Int32) <<< (x3 &&& 31))) _ _ _ h hw (lv_sub hl [0, 1, 2] rfl)
      unfold wp_X10_usedBy_b4 at h
      refine lv_iload_n hx hb dX10_usedBy_4 rfl (lv_at hl 3 rfl) ?_
      refine lv_aload_n hx hb dX10_usedBy_5 rfl (lv_at hl 0 rfl) ?_
      refine gM_X10_87_main E hw dX10_usedBy_6 ?_
      refine lv_icmp_ge (tgt := 48) hx hb dX10_usedBy_9 (by decide) (fun c3 => ?_) (fun c3 => ?_)
      · have h := h.1 c3
        refine lv_iload_n hx hb dX10_usedBy_48 rfl (lv_at hl 2 rfl) ?_
        exact hret _ _ _ _ _ _ ⟨rfl, h⟩ hw dX10_usedBy_49
      · have h := h.2 c3
        refine lv_iload_n hx hb dX10_usedBy_12 rfl (lv_at hl 2 rfl) ?_
        refine lv_aload_n hx hb dX10_usedBy_13 rfl (lv_at hl 0 rfl) ?_
        refine gM_X10_20_main E hw dX10_usedBy_14 ?_
        refine lv_iload_n hx hb dX10_usedBy_17 rfl (lv_at hl 3 rfl) ?_
        refine lM_source E hw h.1 dX10_usedBy_18 ?_
        have h := h.2
        refine lv_iload_n hx hb dX10_usedBy_19 rfl (lv_at hl 1 rfl) ?_
        refine lv_icmp_eq (tgt := 33) hx hb dX10_usedBy_20 (by decide) (fun c4 => ?_) (fun c4 => ?_)
        · have h := h.1 c4
          exact J33 x3 x2 _ _ _ h hw (lv_sub hl [0, 1, 3] rfl)
        · have h := h.2 c4
          refine lv_aload_n hx hb dX10_usedBy_23 rfl (lv_at hl 0 rfl) ?_
          refine gM_X10_23_main E hw dX10_usedBy_24 ?_
          refine lv_iload_n hx hb dX10_usedBy_27 rfl (lv_at hl 3 rfl) ?_
          refine lM_second E hw h.1 dX10_usedBy_28 ?_
          have h := h.2
          refine lv_iload_n hx hb dX10_usedBy_29 rfl (lv_at hl 1 rfl) ?_
          refine lv_icmp_ne (tgt := 39) hx hb dX10_usedBy_30 (by decide) (fun c5 => ?_) (fun c5 => ?_)
          · have h := h.1 c5
            refine lv_iconst (v := 0) hx hb dX10_usedBy_39 (by decide) ?_
            exact J40 x3 x2 (0 : Int32) _ _ _ h hw (lv_sub hl [0, 1, 3] rfl)
          · have h := h.2 c5
            exact J33 x3 x2 _ _ _ h hw (lv_sub hl [0, 1, 3] rfl)
  unfold wp_X10_usedBy at h
  refine lv_iconst (v := 0) hx hb dX10_usedBy_0 (by decide) ?_
  refine lv_istore_n (lv' := [(2, .int (0 : Int32)), (0, .ref (ad 23)), (1, .int p1)]) hx hb dX10_usedBy_1 rfl hl (by decide) rfl (fun ls hl => ?_)
  refine lv_iconst (v := 0) hx hb dX10_usedBy_2 (by decide) ?_
  refine lv_istore_n (lv' := [(3, .int (0 : Int32)), (2, .int (0 : Int32)), (0, .ref (ad 23)), (1, .int p1)]) hx hb dX10_usedBy_3 rfl hl (by decide) rfl (fun ls hl => ?_)
  obtain ⟨n, h⟩ := h
  exact L4 n (0 : Int32) (0 : Int32) _ _ _ h hw (lv_sub hl [2, 3, 1, 0] rfl)
set_option maxRecDepth 100000 in
set_option maxHeartbeats 4000000 in
theorem c_X10_layWorth_page {l : Launch} {D : va_G} {cI cZ : ClassId} {ad : Nat → Nat} {f_thrown : Int32} {f_text : Nat → Int32} {f_textSize : Int32} {f_place : Int32} {f_chips : Int32} {f_gates : Int32} {f_kind : Nat → Int32} {f_source : Nat → Int32} {f_second : Nat → Int32} {f_clock : Nat → Int32} {f_readChips : Int32} {f_readPins : Int32} {f_readGates : Int32} {f_readKind : Nat → Int32} {f_readLies : Nat → Int32} {f_readSource : Nat → Int32} {f_readSecond : Nat → Int32} {f_readClock : Nat → Int32} {f_page : Nat → Int32} {f_trial : Nat → Int32} {f_book : Nat → Int32} {f_doings : Int32} {f_kept : Nat → Int32} {f_isKept : Nat → Int32} {f_seen : Int32} {f_seenBehind : Nat → Int32} {f_seenGate : Nat → Int32} {f_seenWorth : Nat → Int32} {f_seenWas : Nat → Int32} {f_seed : Int64} {f_worth : Nat → Int32} {f_known : Int32} {f_hand : Nat → Int32} {f_goes : Nat → Int32} {f_takes : Int32} {f_crossed : Int32} {f_last : Int32} {f_lastNow : Int32} {f_states : Nat → Int32} {X : va_W} {p2 : Int32} {Q : Int32 → (Nat → Int32) → Prop} (h : wp_X10_layWorth f_gates f_kind f_known f_second f_source f_worth f_page p2 Q) : CtV l yX10_layWorth cX10_layWorth 5 none ({ frames := 1, cells := 0, slots := 0, locals := 23 } : Room) D [(cI, .int), (cZ, .boolean)] [.ref (ad 23), .ref (ad 12), .int p2] (wM ad cI cZ f_thrown f_text f_textSize f_place f_chips f_gates f_kind f_source f_second f_clock f_readChips f_readPins f_readGates f_readKind f_readLies f_readSource f_readSecond f_readClock f_page f_trial f_book f_doings f_kept f_isKept f_seen f_seenBehind f_seenGate f_seenWorth f_seenWas f_seed f_worth f_known f_hand f_goes f_takes f_crossed f_last f_lastNow f_states X) (fun  u => ∃ w0 w1, u = (wM ad cI cZ f_thrown f_text f_textSize f_place f_chips f_gates f_kind f_source f_second f_clock f_readChips f_readPins f_readGates f_readKind f_readLies f_readSource f_readSecond f_readClock f_page f_trial f_book f_doings f_kept f_isKept f_seen f_seenBehind f_seenGate f_seenWorth f_seenWas f_seed w1 w0 f_hand f_goes f_takes f_crossed f_last f_lastNow f_states X) ∧ Q w0 w1) := by
  refine CtV.of (by decide) rfl (Nat.le_of_ble_eq_true rfl) ?_
  intro p e s m args below meth c A Z E hret ls hl hw
  have E : gE p m c cX10_layWorth 5 s args RX10 D [(cI, .int), (cZ, .boolean)] A := E
  have hx := E.1.1
  have hb := E.1.2.1
  have hl : lv_has ls 5 [(0, .ref (ad 23)), (1, .ref (ad 12)), (2, .int p2)] := hl
  have L94 : ∀ (n : Nat) (x3 : Int32) (f_known : Int32) (f_worth : Nat → Int32) (H : Heap) (locs : List Loc) (ls : Array Slot), wp_X10_layWorth_h94 f_gates f_kind f_second f_source f_page p2 Q  n x3 f_known f_worth → gW D s A (wM ad cI cZ f_thrown f_text f_textSize f_place f_chips f_gates f_kind f_source f_second f_clock f_readChips f_readPins f_readGates f_readKind f_readLies f_readSource f_readSecond f_readClock f_page f_trial f_book f_doings f_kept f_isKept f_seen f_seenBehind f_seenGate f_seenWorth f_seenWas f_seed f_worth f_known f_hand f_goes f_takes f_crossed f_last f_lastNow f_states X) H locs → lv_has ls 5 [(0, .ref (ad 23)), (3, .int x3)] → W p l e ({ frames := 1, cells := 0, slots := 0, locals := 23 } : Room) s m args below meth c H locs 0 0 Z (F0 m 94 ls []) := by
    intro n
    induction n with
    | zero => intro x3 f_known f_worth H locs ls h; exact False.elim h
    | succ n94 ih94 =>
      intro x3 f_known f_worth H locs ls h hw hl
      have h : wp_X10_layWorth_b94 f_gates f_kind f_second f_source f_page p2 Q (wp_X10_layWorth_h94 f_gates f_kind f_second f_source f_page p2 Q  n94) x3 f_known f_worth := h
      have L105 : ∀ (n : Nat) (x3 : Int32) (x4 : Int32) (f_known : Int32) (f_worth : Nat → Int32) (H : Heap) (locs : List Loc) (ls : Array Slot), wp_X10_layWorth_h105 f_gates f_kind f_second f_source f_page p2 Q (wp_X10_layWorth_h94 f_gates f_kind f_second f_source f_page p2 Q  n94) n x3 x4 f_known f_worth → gW D s A (wM ad cI cZ f_thrown f_text f_textSize f_place f_chips f_gates f_kind f_source f_second f_clock f_readChips f_readPins f_readGates f_readKind f_readLies f_readSource f_readSecond f_readClock f_page f_trial f_book f_doings f_kept f_isKept f_seen f_seenBehind f_seenGate f_seenWorth f_seenWas f_seed f_worth f_known f_hand f_goes f_takes f_crossed f_last f_lastNow f_states X) H locs → lv_has ls 5 [(0, .ref (ad 23)), (3, .int x3), (4, .int x4)] → W p l e ({ frames := 1, cells := 0, slots := 0, locals := 23 } : Room) s m args below meth c H locs 0 0 Z (F0 m 105 ls []) := by
        intro n
        induction n with
        | zero => intro x3 x4 f_known f_worth H locs ls h; exact False.elim h
        | succ n105 ih105 =>
          intro x3 x4 f_known f_worth H locs ls h hw hl
          have h : wp_X10_layWorth_b105 f_gates f_kind f_second f_source f_page p2 Q (wp_X10_layWorth_h94 f_gates f_kind f_second f_source f_page p2 Q  n94) (wp_X10_layWorth_h105 f_gates f_kind f_second f_source f_page p2 Q (wp_X10_layWorth_h94 f_gates f_kind f_second f_source f_page p2 Q  n94) n105) x3 x4 f_known f_worth := h
          have J243 : ∀ (x3 : Int32) (x4 : Int32) (f_known : Int32) (f_worth : Nat → Int32) (H : Heap) (locs : List Loc) (ls : Array Slot), wp_X10_layWorth_b243 f_gates f_kind f_second f_source f_page p2 Q (wp_X10_layWorth_h94 f_gates f_kind f_second f_source f_page p2 Q  n94) (wp_X10_layWorth_h105 f_gates f_kind f_second f_source f_page p2 Q (wp_X10_layWorth_h94 f_gates f_kind f_second f_source f_page p2 Q  n94) n105) x3 x4 f_known f_worth → gW D s A (wM ad cI cZ f_thrown f_text f_textSize f_place f_chips f_gates f_kind f_source f_second f_clock f_readChips f_readPins f_readGates f_readKind f_readLies f_readSource f_readSecond f_readClock f_page f_trial f_book f_doings f_kept f_isKept f_seen f_seenBehind f_seenGate f_seenWorth f_seenWas f_seed f_worth f_known f_hand f_goes f_takes f_crossed f_last f_lastNow f_states X) H locs → lv_has ls 5 [(0, .ref (ad 23)), (3, .int x3), (4, .int x4)] → W p l e ({ frames := 1, cells := 0, slots := 0, locals := 23 } : Room) s m args below meth c H locs 0 0 Z (F0 m 243 ls []) := by
            intro x3 x4 f_known f_worth H locs ls h hw hl
            unfold wp_X10_layWorth_b243 at h
            obtain ⟨v1, ev1⟩ : ∃ y : Int32, y = x4 + 1 := ⟨_, rfl⟩
            have h := h v1 ev1
            refine lv_iinc (v := v1) (lv' := [(4, .int v1), (0, .ref (ad 23)), (3, .int x3)]) hx hb dX10_layWorth_243 hl (k := 2) rfl (by rw [ev1]; rfl) (by decide) rfl (fun ls hl => ?_)
            refine lv_goto (tgt := 105) hx hb dX10_layWorth_246 (by decide) ?_
            exact ih105 x3 v1 f_known f_worth _ _ _ h hw (lv_sub hl [1, 2, 0] rfl)
          have J226 : ∀ (x3 : Int32) (x4 : Int32) (s1 : Int32) (s3 : Int32) (s4 : Int32) (s5 : Int32) (f_known : Int32) (f_worth : Nat → Int32) (H : Heap) (locs : List Loc) (ls : Array Slot), wp_X10_layWorth_b226 f_gates f_kind f_second f_source f_page p2 Q (wp_X10_layWorth_h94 f_gates f_kind f_second f_source f_page p2 Q  n94) (wp_X10_layWorth_h105 f_gates f_kind f_second f_source f_page p2 Q (wp_X10_layWorth_h94 f_gates f_kind f_second f_source f_page p2 Q  n94) n105) x3 x4 s1 s3 s4 s5 f_known f_worth → gW D s A (wM ad cI cZ f_thrown f_text f_textSize f_place f_chips f_gates f_kind f_source f_second f_clock f_readChips f_readPins f_readGates f_readKind f_readLies f_readSource f_readSecond f_readClock f_page f_trial f_book f_doings f_kept f_isKept f_seen f_seenBehind f_seenGate f_seenWorth f_seenWas f_seed f_worth f_known f_hand f_goes f_takes f_crossed f_last f_lastNow f_states X) H locs → lv_has ls 5 [(0, .ref (ad 23)), (3, .int x3), (4, .int x4)] → W p l e ({ frames := 1, cells := 0, slots := 0, locals := 23 } : Room) s m args below meth c H locs 0 0 Z (F0 m 226 ls [.int s5, .int s4, .int s3, .ref (ad 23), .int s1, .ref (ad 3)]) := by
            intro x3 x4 s1 s3 s4 s5 f_known f_worth H locs ls h hw hl
            unfold wp_X10_layWorth_b226 at h
            refine g_aI E hw (g_rV E hw (c_X10_worthBy h _) ym_X10_worthBy k_683 ⟨rfl, rfl⟩ ⟨Nat.le_of_ble_eq_true rfl, Nat.le_of_ble_eq_true rfl⟩ 23 rfl rfl rfl rfl hl.1 rfl (Nat.le_of_ble_eq_true rfl) ⟨Nat.zero_le _, Nat.zero_le _⟩ dX10_layWorth_226) (fun r2 u H locs hq hw => ?_)
            obtain ⟨hu, h⟩ := hq
            rw [hu] at hw
            refine sM_worth E hw h.1 dX10_layWorth_229 (fun y3 ey3 H locs hw => ?_)
            have h := h.2 y3 ey3
            refine lv_aload_n hx hb dX10_layWorth_230 rfl (lv_at hl 0 rfl) ?_
            refine lv_dup hx hb dX10_layWorth_231 rfl ?_
            refine gM_X10_137_main E hw dX10_layWorth_232 ?_
            refine lv_iconst (v := 1) hx hb dX10_layWorth_235 (by decide) ?_
            refine lv_iload hx hb dX10_layWorth_236 (lv_at hl 2 rfl) ?_
            refine lv_ishl hx hb dX10_layWorth_238 ?_
            refine lv_ior hx hb dX10_layWorth_239 ?_
            refine lv_topi (fun v4 ev4 => ?_)
            have h := h v4 ev4
            refine pM_X10_137_main E hw dX10_layWorth_240 (fun H locs hw => ?_)
            exact J243 x3 x4 v4 y3 _ _ _ h hw (lv_sub hl [0, 1, 2] rfl)
          have J172 : ∀ (x3 : Int32) (x4 : Int32) (f_known : Int32) (f_worth : Nat → Int32) (H : Heap) (locs : List Loc) (ls : Array Slot), wp_X10_layWorth_b172 f_gates f_kind f_second f_source f_page p2 Q (wp_X10_layWorth_h94 f_gates f_kind f_second f_source f_page p2 Q  n94) (wp_X10_layWorth_h105 f_gates f_kind f_second f_source f_page p2 Q (wp_X10_layWorth_h94 f_gates f_kind f_second f_source f_page p2 Q  n94) n105) x3 x4 f_known f_worth → gW D s A (wM ad cI cZ f_thrown f_text f_textSize f_place f_chips f_gates f_kind f_source f_second f_clock f_readChips f_readPins f_readGates f_readKind f_readLies f_readSource f_readSecond f_readClock f_page f_trial f_book f_doings f_kept f_isKept f_seen f_seenBehind f_seenGate f_seenWorth f_seenWas f_seed f_worth f_known f_hand f_goes f_takes f_crossed f_last f_lastNow f_states X) H locs → lv_has ls 5 [(0, .ref (ad 23)), (3, .int x3), (4, .int x4)] → W p l e ({ frames := 1, cells := 0, slots := 0, locals := 23 } : Room) s m args below meth c H locs 0 0 Z (F0 m 172 ls []) := by
            intro x3 x4 f_known f_worth H locs ls h hw hl
            unfold wp_X10_layWorth_b172 at h
            refine lv_aload_n hx hb dX10_layWorth_172 rfl (lv_at hl 0 rfl) ?_
            refine gM_X10_72_main E hw dX10_layWorth_173 ?_
            refine lv_iload hx hb dX10_layWorth_176 (lv_at hl 2 rfl) ?_
            refine lv_aload_n hx hb dX10_layWorth_178 rfl (lv_at hl 0 rfl) ?_
            refine lv_aload_n hx hb dX10_layWorth_179 rfl (lv_at hl 0 rfl) ?_
            refine gM_X10_17_main E hw dX10_layWorth_180 ?_
            refine lv_iload hx hb dX10_layWorth_183 (lv_at hl 2 rfl) ?_
            refine lM_kind E hw h.1 dX10_layWorth_185 ?_
            have h := h.2
            refine lv_aload_n hx hb dX10_layWorth_186 rfl (lv_at hl 0 rfl) ?_
            refine gM_X10_72_main E hw dX10_layWorth_187 ?_
            refine lv_aload_n hx hb dX10_layWorth_190 rfl (lv_at hl 0 rfl) ?_
            refine gM_X10_20_main E hw dX10_layWorth_191 ?_
            refine lv_iload hx hb dX10_layWorth_194 (lv_at hl 2 rfl) ?_
            refine lM_source E hw h.1 dX10_layWorth_196 ?_
            have h := h.2
            refine lM_worth E hw h.1 dX10_layWorth_197 ?_
            have h := h.2
            refine lv_aload_n hx hb dX10_layWorth_198 rfl (lv_at hl 0 rfl) ?_
            refine gM_X10_23_main E hw dX10_layWorth_199 ?_
            refine lv_iload hx hb dX10_layWorth_202 (lv_at hl 2 rfl) ?_
            refine lM_second E hw h.1 dX10_layWorth_204 ?_
            have h := h.2
            refine lv_bipush (v := -9) hx hb dX10_layWorth_205 (by decide) ?_
            refine lv_icmp_ne (tgt := 214) hx hb dX10_layWorth_207 (by decide) (fun c5 => ?_) (fun c5 => ?_)
            · have h := h.1 c5
              refine lv_aload_n hx hb dX10_layWorth_214 rfl (lv_at hl 0 rfl) ?_
              refine gM_X10_72_main E hw dX10_layWorth_215 ?_
              refine lv_aload_n hx hb dX10_layWorth_218 rfl (lv_at hl 0 rfl) ?_
              refine gM_X10_23_main E hw dX10_layWorth_219 ?_
              refine lv_iload hx hb dX10_layWorth_222 (lv_at hl 2 rfl) ?_
              refine lM_second E hw h.1 dX10_layWorth_224 ?_
              have h := h.2
              refine lM_worth E hw h.1 dX10_layWorth_225 ?_
              have h := h.2
              exact J226 x3 x4 x4 ((f_kind (x4).toNatClampNeg)) ((f_worth ((f_source (x4).toNatClampNeg)).toNatClampNeg)) ((f_worth ((f_second (x4).toNatClampNeg)).toNatClampNeg)) f_known f_worth _ _ _ h hw (lv_sub hl [0, 1, 2] rfl)
            · have h := h.2 c5
              refine lv_iconst (v := 0) hx hb dX10_layWorth_210 (by decide) ?_
              refine lv_goto (tgt := 226) hx hb dX10_layWorth_211 (by decide) ?_
              exact J226 x3 x4 x4 ((f_kind (x4).toNatClampNeg)) ((f_worth ((f_source (x4).toNatClampNeg)).toNatClampNeg)) (0 : Int32) f_known f_worth _ _ _ h hw (lv_sub hl [0, 1, 2] rfl)
          unfold wp_X10_layWorth_b105 at h
          refine lv_iload hx hb dX10_layWorth_105 (lv_at hl 2 rfl) ?_
          refine lv_aload_n hx hb dX10_layWorth_107 rfl (lv_at hl 0 rfl) ?_
          refine gM_X10_87_main E hw dX10_layWorth_108 ?_
          refine lv_icmp_ge (tgt := 249) hx hb dX10_layWorth_111 (by decide) (fun c6 => ?_) (fun c6 => ?_)
          · have h := h.1 c6
            obtain ⟨v7, ev7⟩ : ∃ y : Int32, y = x3 + 1 := ⟨_, rfl⟩
            have h := h v7 ev7
            refine lv_iinc (v := v7) (lv' := [(3, .int v7), (0, .ref (ad 23)), (4, .int x4)]) hx hb dX10_layWorth_249 hl (k := 1) rfl (by rw [ev7]; rfl) (by decide) rfl (fun ls hl => ?_)
            refine lv_goto (tgt := 94) hx hb dX10_layWorth_252 (by decide) ?_
            exact ih94 v7 f_known f_worth _ _ _ h hw (lv_sub hl [1, 0] rfl)
          · have h := h.2 c6
            refine lv_aload_n hx hb dX10_layWorth_114 rfl (lv_at hl 0 rfl) ?_
            refine gM_X10_137_main E hw dX10_layWorth_115 ?_
            refine lv_iload hx hb dX10_layWorth_118 (lv_at hl 2 rfl) ?_
            refine g_aI E hw (g_rS E hw (c_X10_has h _) ym_X10_has k_680 ⟨rfl, rfl⟩ ⟨Nat.le_of_ble_eq_true rfl, Nat.le_of_ble_eq_true rfl⟩ rfl hl.1 rfl (Nat.le_of_ble_eq_true rfl) ⟨Nat.zero_le _, Nat.zero_le _⟩ dX10_layWorth_120) (fun r8 u H locs hq hw => ?_)
            obtain ⟨hu, h⟩ := hq
            rw [hu] at hw
            refine lv_if_ne (tgt := 243) hx hb dX10_layWorth_123 (by decide) (fun c9 => ?_) (fun c9 => ?_)
            · have h := h.1 c9
              exact J243 x3 x4 f_known f_worth _ _ _ h hw (lv_sub hl [0, 1, 2] rfl)
            · have h := h.2 c9
              refine lv_aload_n hx hb dX10_layWorth_126 rfl (lv_at hl 0 rfl) ?_
              refine gM_X10_137_main E hw dX10_layWorth_127 ?_
              refine lv_aload_n hx hb dX10_layWorth_130 rfl (lv_at hl 0 rfl) ?_
              refine gM_X10_20_main E hw dX10_layWorth_131 ?_
              refine lv_iload hx hb dX10_layWorth_134 (lv_at hl 2 rfl) ?_
              refine lM_source E hw h.1 dX10_layWorth_136 ?_
              have h := h.2
              refine g_aI E hw (g_rS E hw (c_X10_has h _) ym_X10_has k_680 ⟨rfl, rfl⟩ ⟨Nat.le_of_ble_eq_true rfl, Nat.le_of_ble_eq_true rfl⟩ rfl hl.1 rfl (Nat.le_of_ble_eq_true rfl) ⟨Nat.zero_le _, Nat.zero_le _⟩ dX10_layWorth_137) (fun r10 u H locs hq hw => ?_)
              obtain ⟨hu, h⟩ := hq
              rw [hu] at hw
              refine lv_if_eq (tgt := 243) hx hb dX10_layWorth_140 (by decide) (fun c11 => ?_) (fun c11 => ?_)
              · have h := h.1 c11
                exact J243 x3 x4 f_known f_worth _ _ _ h hw (lv_sub hl [0, 1, 2] rfl)
              · have h := h.2 c11
                refine lv_aload_n hx hb dX10_layWorth_143 rfl (lv_at hl 0 rfl) ?_
                refine gM_X10_23_main E hw dX10_layWorth_144 ?_
                refine lv_iload hx hb dX10_layWorth_147 (lv_at hl 2 rfl) ?_
                refine lM_second E hw h.1 dX10_layWorth_149 ?_
                have h := h.2
                refine lv_bipush (v := -9) hx hb dX10_layWorth_150 (by decide) ?_
                refine lv_icmp_eq (tgt := 172) hx hb dX10_layWorth_152 (by decide) (fun c12 => ?_) (fun c12 => ?_)
                · have h := h.1 c12
                  exact J172 x3 x4 f_known f_worth _ _ _ h hw (lv_sub hl [0, 1, 2] rfl)
                · have h := h.2 c12
                  refine lv_aload_n hx hb dX10_layWorth_155 rfl (lv_at hl 0 rfl) ?_
                  refine gM_X10_137_main E hw dX10_layWorth_156 ?_
                  refine lv_aload_n hx hb dX10_layWorth_159 rfl (lv_at hl 0 rfl) ?_
                  refine gM_X10_23_main E hw dX10_layWorth_160 ?_
                  refine lv_iload hx hb dX10_layWorth_163 (lv_at hl 2 rfl) ?_
                  refine lM_second E hw h.1 dX10_layWorth_165 ?_
                  have h := h.2
                  refine g_aI E hw (g_rS E hw (c_X10_has h _) ym_X10_has k_680 ⟨rfl, rfl⟩ ⟨Nat.le_of_ble_eq_true rfl, Nat.le_of_ble_eq_true rfl⟩ rfl hl.1 rfl (Nat.le_of_ble_eq_true rfl) ⟨Nat.zero_le _, Nat.zero_le _⟩ dX10_layWorth_166) (fun r13 u H locs hq hw => ?_)
                  obtain ⟨hu, h⟩ := hq
                  rw [hu] at hw
                  refine lv_if_eq (tgt := 243) hx hb dX10_layWorth_169 (by decide) (fun c14 => ?_) (fun c14 => ?_)
                  · have h := h.1 c14
                    exact J243 x3 x4 f_known f_worth _ _ _ h hw (lv_sub hl [0, 1, 2] rfl)
                  · have h := h.2 c14
                    exact J172 x3 x4 f_known f_worth _ _ _ h hw (lv_sub hl [0, 1, 2] rfl)
      unfold wp_X10_layWorth_b94 at h
      refine lv_iload_n hx hb dX10_layWorth_94 rfl (lv_at hl 1 rfl) ?_
      refine lv_aload_n hx hb dX10_layWorth_95 rfl (lv_at hl 0 rfl) ?_
      refine gM_X10_87_main E hw dX10_layWorth_96 ?_
      refine lv_icmp_ge (tgt := 255) hx hb dX10_layWorth_99 (by decide) (fun c15 => ?_) (fun c15 => ?_)
      · have h := h.1 c15
        exact hret _ _ _ _ _ ⟨_, _, rfl, h⟩ hw dX10_layWorth_255
      · have h := h.2 c15
        refine lv_iconst (v := 0) hx hb dX10_layWorth_102 (by decide) ?_
        refine lv_istore (lv' := [(4, .int (0 : Int32)), (0, .ref (ad 23)), (3, .int x3)]) hx hb dX10_layWorth_103 hl (by decide) rfl (fun ls hl => ?_)
        obtain ⟨n, h⟩ := h
        exact L105 n x3 (0 : Int32) f_known f_worth _ _ _ h hw (lv_sub hl [1, 2, 0] rfl)
  have L7 : ∀ (n : Nat) (x3 : Int32) (f_known : Int32) (f_worth : Nat → Int32) (H : Heap) (locs : List Loc) (ls : Array Slot), wp_X10_layWorth_h7 f_gates f_kind f_second f_source f_page p2 Q  n x3 f_known f_worth → gW D s A (wM ad cI cZ f_thrown f_text f_textSize f_place f_chips f_gates f_kind f_source f_second f_clock f_readChips f_readPins f_readGates f_readKind f_readLies f_readSource f_readSecond f_readClock f_page f_trial f_book f_doings f_kept f_isKept f_seen f_seenBehind f_seenGate f_seenWorth f_seenWas f_seed f_worth f_known f_hand f_goes f_takes f_crossed f_last f_lastNow f_states X) H locs → lv_has ls 5 [(0, .ref (ad 23)), (1, .ref (ad 12)), (2, .int p2), (3, .int x3)] → W p l e ({ frames := 1, cells := 0, slots := 0, locals := 23 } : Room) s m args below meth c H locs 0 0 Z (F0 m 7 ls []) := by
    intro n
    induction n with
    | zero => intro x3 f_known f_worth H locs ls h; exact False.elim h
    | succ n7 ih7 =>
      intro x3 f_known f_worth H locs ls h hw hl
      have h : wp_X10_layWorth_b7 f_gates f_kind f_second f_source f_page p2 Q (wp_X10_layWorth_h7 f_gates f_kind f_second f_source f_page p2 Q  n7) x3 f_known f_worth := h
      have J82 : ∀ (x3 : Int32) (s1 : Int32) (s2 : Int32) (f_known : Int32) (f_worth : Nat → Int32) (H : Heap) (locs : List Loc) (ls : Array Slot), wp_X10_layWorth_b82 f_gates f_kind f_second f_source f_page p2 Q (wp_X10_layWorth_h7 f_gates f_kind f_second f_source f_page p2 Q  n7) x3 s1 s2 f_known f_worth → gW D s A (wM ad cI cZ f_thrown f_text f_textSize f_place f_chips f_gates f_kind f_source f_second f_clock f_readChips f_readPins f_readGates f_readKind f_readLies f_readSource f_readSecond f_readClock f_page f_trial f_book f_doings f_kept f_isKept f_seen f_seenBehind f_seenGate f_seenWorth f_seenWas f_seed f_worth f_known f_hand f_goes f_takes f_crossed f_last f_lastNow f_states X) H locs → lv_has ls 5 [(0, .ref (ad 23)), (1, .ref (ad 12)), (2, .int p2), (3, .int x3)] → W p l e ({ frames := 1, cells := 0, slots := 0, locals := 23 } : Room) s m args below meth c H locs 0 0 Z (F0 m 82 ls [.int s2, .int s1, .ref (ad 23)]) := by
        intro x3 s1 s2 f_known f_worth H locs ls h hw hl
        unfold wp_X10_layWorth_b82 at h
        refine lv_ior hx hb dX10_layWorth_82 ?_
        refine lv_topi (fun v16 ev16 => ?_)
        have h := h v16 ev16
        refine pM_X10_137_main E hw dX10_layWorth_83 (fun H locs hw => ?_)
        obtain ⟨v17, ev17⟩ : ∃ y : Int32, y = x3 + 1 := ⟨_, rfl⟩
        have h := h v17 ev17
        refine lv_iinc (v := v17) (lv' := [(3, .int v17), (0, .ref (ad 23)), (1, .ref (ad 12)), (2, .int p2)]) hx hb dX10_layWorth_86 hl (k := 3) rfl (by rw [ev17]; rfl) (by decide) rfl (fun ls hl => ?_)
        refine lv_goto (tgt := 7) hx hb dX10_layWorth_89 (by decide) ?_
        exact ih7 v17 v16 f_worth _ _ _ h hw (lv_sub hl [1, 2, 3, 0] rfl)
      have J64 : ∀ (x3 : Int32) (x4 : Int32) (s1 : Int32) (s2 : Int32) (f_known : Int32) (f_worth : Nat → Int32) (H : Heap) (locs : List Loc) (ls : Array Slot), wp_X10_layWorth_b64 f_gates f_kind f_second f_source f_page p2 Q (wp_X10_layWorth_h7 f_gates f_kind f_second f_source f_page p2 Q  n7) x3 x4 s1 s2 f_known f_worth → gW D s A (wM ad cI cZ f_thrown f_text f_textSize f_place f_chips f_gates f_kind f_source f_second f_clock f_readChips f_readPins f_readGates f_readKind f_readLies f_readSource f_readSecond f_readClock f_page f_trial f_book f_doings f_kept f_isKept f_seen f_seenBehind f_seenGate f_seenWorth f_seenWas f_seed f_worth f_known f_hand f_goes f_takes f_crossed f_last f_lastNow f_states X) H locs → lv_has ls 5 [(0, .ref (ad 23)), (1, .ref (ad 12)), (2, .int p2), (3, .int x3), (4, .int x4)] → W p l e ({ frames := 1, cells := 0, slots := 0, locals := 23 } : Room) s m args below meth c H locs 0 0 Z (F0 m 64 ls [.int s2, .int s1, .ref (ad 3)]) := by
        intro x3 x4 s1 s2 f_known f_worth H locs ls h hw hl
        unfold wp_X10_layWorth_b64 at h
        refine sM_worth E hw h.1 dX10_layWorth_64 (fun y18 ey18 H locs hw => ?_)
        have h := h.2 y18 ey18
        refine lv_aload_n hx hb dX10_layWorth_65 rfl (lv_at hl 0 rfl) ?_
        refine lv_dup hx hb dX10_layWorth_66 rfl ?_
        refine gM_X10_137_main E hw dX10_layWorth_67 ?_
        refine lv_iload hx hb dX10_layWorth_70 (lv_at hl 4 rfl) ?_
        refine lv_if_eq (tgt := 81) hx hb dX10_layWorth_72 (by decide) (fun c19 => ?_) (fun c19 => ?_)
        · have h := h.1 c19
          refine lv_iconst (v := 0) hx hb dX10_layWorth_81 (by decide) ?_
          exact J82 x3 f_known (0 : Int32) f_known y18 _ _ _ h hw (lv_sub hl [0, 1, 2, 3] rfl)
        · have h := h.2 c19
          refine lv_iconst (v := 1) hx hb dX10_layWorth_75 (by decide) ?_
          refine lv_iload_n hx hb dX10_layWorth_76 rfl (lv_at hl 3 rfl) ?_
          refine lv_ishl hx hb dX10_layWorth_77 ?_
          refine lv_goto (tgt := 82) hx hb dX10_layWorth_78 (by decide) ?_
          exact J82 x3 f_known (((1 : Int32) <<< (x3 &&& 31))) f_known y18 _ _ _ h hw (lv_sub hl [0, 1, 2, 3] rfl)
      have J33 : ∀ (x3 : Int32) (s0 : Int32) (f_known : Int32) (f_worth : Nat → Int32) (H : Heap) (locs : List Loc) (ls : Array Slot), wp_X10_layWorth_b33 f_gates f_kind f_second f_source f_page p2 Q (wp_X10_layWorth_h7 f_gates f_kind f_second f_source f_page p2 Q  n7) x3 s0 f_known f_worth → gW D s A (wM ad cI cZ f_thrown f_text f_textSize f_place f_chips f_gates f_kind f_source f_second f_clock f_readChips f_readPins f_readGates f_readKind f_readLies f_readSource f_readSecond f_readClock f_page f_trial f_book f_doings f_kept f_isKept f_seen f_seenBehind f_seenGate f_seenWorth f_seenWas f_seed f_worth f_known f_hand f_goes f_takes f_crossed f_last f_lastNow f_states X) H locs → lv_has ls 5 [(0, .ref (ad 23)), (1, .ref (ad 12)), (2, .int p2), (3, .int x3)] → W p l e ({ frames := 1, cells := 0, slots := 0, locals := 23 } : Room) s m args below meth c H locs 0 0 Z (F0 m 33 ls [.int s0]) := by
        intro x3 s0 f_known f_worth H locs ls h hw hl
        unfold wp_X10_layWorth_b33 at h
        refine lv_istore (lv' := [(4, .int s0), (0, .ref (ad 23)), (1, .ref (ad 12)), (2, .int p2), (3, .int x3)]) hx hb dX10_layWorth_33 hl (by decide) rfl (fun ls hl => ?_)
        refine lv_aload_n hx hb dX10_layWorth_35 rfl (lv_at hl 1 rfl) ?_
        refine gM_X10_72_main E hw dX10_layWorth_36 ?_
        refine lv_iload_n hx hb dX10_layWorth_39 rfl (lv_at hl 4 rfl) ?_
        refine lv_iload_n hx hb dX10_layWorth_40 rfl (lv_at hl 4 rfl) ?_
        refine lv_iload_n hx hb dX10_layWorth_41 rfl (lv_at hl 3 rfl) ?_
        refine lv_icmp_ne (tgt := 49) hx hb dX10_layWorth_42 (by decide) (fun c20 => ?_) (fun c20 => ?_)
        · have h := h.1 c20
          refine lv_aload_n hx hb dX10_layWorth_49 rfl (lv_at hl 1 rfl) ?_
          refine lv_iload_n hx hb dX10_layWorth_50 rfl (lv_at hl 4 rfl) ?_
          refine g_aI E hw (g_rV E hw (c_X10_stands h _) ym_X10_stands k_677 ⟨rfl, rfl⟩ ⟨Nat.le_of_ble_eq_true rfl, Nat.le_of_ble_eq_true rfl⟩ 23 rfl rfl rfl rfl hl.1 rfl (Nat.le_of_ble_eq_true rfl) ⟨Nat.zero_le _, Nat.zero_le _⟩ dX10_layWorth_51) (fun r21 u H locs hq hw => ?_)
          obtain ⟨hu, h⟩ := hq
          rw [hu] at hw
          refine lv_if_eq (tgt := 63) hx hb dX10_layWorth_54 (by decide) (fun c22 => ?_) (fun c22 => ?_)
          · have h := h.1 c22
            refine lv_iconst (v := 2) hx hb dX10_layWorth_63 (by decide) ?_
            exact J64 x3 s0 x3 (2 : Int32) f_known f_worth _ _ _ h hw (lv_sub hl [1, 2, 3, 4, 0] rfl)
          · have h := h.2 c22
            refine lv_aload_n hx hb dX10_layWorth_57 rfl (lv_at hl 2 rfl) ?_
            refine lv_iload_n hx hb dX10_layWorth_58 rfl (lv_at hl 4 rfl) ?_
            refine lM_page E hw h.1 dX10_layWorth_59 ?_
            have h := h.2
            refine lv_goto (tgt := 64) hx hb dX10_layWorth_60 (by decide) ?_
            exact J64 x3 s0 x3 ((f_page (x3).toNatClampNeg)) f_known f_worth _ _ _ h hw (lv_sub hl [1, 2, 3, 4, 0] rfl)
        · have h := h.2 c20
          refine lv_iconst (v := 0) hx hb dX10_layWorth_45 (by decide) ?_
          refine lv_goto (tgt := 64) hx hb dX10_layWorth_46 (by decide) ?_
          exact J64 x3 s0 x3 (0 : Int32) f_known f_worth _ _ _ h hw (lv_sub hl [1, 2, 3, 4, 0] rfl)
      have J28 : ∀ (x3 : Int32) (f_known : Int32) (f_worth : Nat → Int32) (H : Heap) (locs : List Loc) (ls : Array Slot), wp_X10_layWorth_b28 f_gates f_kind f_second f_source f_page p2 Q (wp_X10_layWorth_h7 f_gates f_kind f_second f_source f_page p2 Q  n7) x3 f_known f_worth → gW D s A (wM ad cI cZ f_thrown f_text f_textSize f_place f_chips f_gates f_kind f_source f_second f_clock f_readChips f_readPins f_readGates f_readKind f_readLies f_readSource f_readSecond f_readClock f_page f_trial f_book f_doings f_kept f_isKept f_seen f_seenBehind f_seenGate f_seenWorth f_seenWas f_seed f_worth f_known f_hand f_goes f_takes f_crossed f_last f_lastNow f_states X) H locs → lv_has ls 5 [(0, .ref (ad 23)), (1, .ref (ad 12)), (2, .int p2), (3, .int x3)] → W p l e ({ frames := 1, cells := 0, slots := 0, locals := 23 } : Room) s m args below meth c H locs 0 0 Z (F0 m 28 ls []) := by
        intro x3 f_known f_worth H locs ls h hw hl
        unfold wp_X10_layWorth_b28 at h
        refine lv_iconst (v := 1) hx hb dX10_layWorth_28 (by decide) ?_
        refine lv_goto (tgt := 33) hx hb dX10_layWorth_29 (by decide) ?_
        exact J33 x3 (1 : Int32) f_known f_worth _ _ _ h hw (lv_sub hl [0, 1, 2, 3] rfl)
      unfold wp_X10_layWorth_b7 at h
      refine lv_iload_n hx hb dX10_layWorth_7 rfl (lv_at hl 3 rfl) ?_
      refine lv_aload_n hx hb dX10_layWorth_8 rfl (lv_at hl 0 rfl) ?_
      refine gM_X10_87_main E hw dX10_layWorth_9 ?_
      refine lv_icmp_ge (tgt := 92) hx hb dX10_layWorth_12 (by decide) (fun c23 => ?_) (fun c23 => ?_)
      · have h := h.1 c23
        refine lv_iconst (v := 0) hx hb dX10_layWorth_92 (by decide) ?_
        refine lv_istore_n (lv' := [(3, .int (0 : Int32)), (0, .ref (ad 23)), (1, .ref (ad 12)), (2, .int p2)]) hx hb dX10_layWorth_93 rfl hl (by decide) rfl (fun ls hl => ?_)
        obtain ⟨n, h⟩ := h
        exact L94 n (0 : Int32) f_known f_worth _ _ _ h hw (lv_sub hl [1, 0] rfl)
      · have h := h.2 c23
        refine lv_iload_n hx hb dX10_layWorth_15 rfl (lv_at hl 3 rfl) ?_
        refine lv_iload_n hx hb dX10_layWorth_16 rfl (lv_at hl 2 rfl) ?_
        refine lv_icmp_eq (tgt := 28) hx hb dX10_layWorth_17 (by decide) (fun c24 => ?_) (fun c24 => ?_)
        · have h := h.1 c24
          exact J28 x3 f_known f_worth _ _ _ h hw (lv_sub hl [0, 1, 2, 3] rfl)
        · have h := h.2 c24
          refine lv_aload_n hx hb dX10_layWorth_20 rfl (lv_at hl 0 rfl) ?_
          refine lv_iload_n hx hb dX10_layWorth_21 rfl (lv_at hl 3 rfl) ?_
          refine g_aI E hw (g_rV E hw (c_X10_stands h _) ym_X10_stands k_677 ⟨rfl, rfl⟩ ⟨Nat.le_of_ble_eq_true rfl, Nat.le_of_ble_eq_true rfl⟩ 23 rfl rfl rfl rfl hl.1 rfl (Nat.le_of_ble_eq_true rfl) ⟨Nat.zero_le _, Nat.zero_le _⟩ dX10_layWorth_22) (fun r25 u H locs hq hw => ?_)
          obtain ⟨hu, h⟩ := hq
          rw [hu] at hw
          refine lv_if_eq (tgt := 32) hx hb dX10_layWorth_25 (by decide) (fun c26 => ?_) (fun c26 => ?_)
          · have h := h.1 c26
            refine lv_iconst (v := 0) hx hb dX10_layWorth_32 (by decide) ?_
            exact J33 x3 (0 : Int32) f_known f_worth _ _ _ h hw (lv_sub hl [0, 1, 2, 3] rfl)
          · have h := h.2 c26
            exact J28 x3 f_known f_worth _ _ _ h hw (lv_sub hl [0, 1, 2, 3] rfl)
  unfold wp_X10_layWorth at h
  refine lv_aload_n hx hb dX10_layWorth_0 rfl (lv_at hl 0 rfl) ?_
  refine lv_iconst (v := 0) hx hb dX10_layWorth_1 (by decide) ?_
  refine pM_X10_137_main E hw dX10_layWorth_2 (fun H locs hw => ?_)
  refine lv_iconst (v := 0) hx hb dX10_layWorth_5 (by decide) ?_
  refine lv_istore_n (lv' := [(3, .int (0 : Int32)), (0, .ref (ad 23)), (1, .ref (ad 12)), (2, .int p2)]) hx hb dX10_layWorth_6 rfl hl (by decide) rfl (fun ls hl => ?_)
  obtain ⟨n, h⟩ := h
  exact L7 n (0 : Int32) (0 : Int32) f_worth _ _ _ h hw (lv_sub hl [1, 2, 3, 0] rfl)
set_option maxRecDepth 100000 in
set_option maxHeartbeats 4000000 in
theorem c_X10_worthOf_page {l : Launch} {D : va_G} {cI cZ : ClassId} {ad : Nat → Nat} {f_thrown : Int32} {f_text : Nat → Int32} {f_textSize : Int32} {f_place : Int32} {f_chips : Int32} {f_gates : Int32} {f_kind : Nat → Int32} {f_source : Nat → Int32} {f_second : Nat → Int32} {f_clock : Nat → Int32} {f_readChips : Int32} {f_readPins : Int32} {f_readGates : Int32} {f_readKind : Nat → Int32} {f_readLies : Nat → Int32} {f_readSource : Nat → Int32} {f_readSecond : Nat → Int32} {f_readClock : Nat → Int32} {f_page : Nat → Int32} {f_trial : Nat → Int32} {f_book : Nat → Int32} {f_doings : Int32} {f_kept : Nat → Int32} {f_isKept : Nat → Int32} {f_seen : Int32} {f_seenBehind : Nat → Int32} {f_seenGate : Nat → Int32} {f_seenWorth : Nat → Int32} {f_seenWas : Nat → Int32} {f_seed : Int64} {f_worth : Nat → Int32} {f_known : Int32} {f_hand : Nat → Int32} {f_goes : Nat → Int32} {f_takes : Int32} {f_crossed : Int32} {f_last : Int32} {f_lastNow : Int32} {f_states : Nat → Int32} {X : va_W} {p2 : Int32} {Q : Int32 → Int32 → (Nat → Int32) → Prop} (h : wp_X10_worthOf f_gates f_kind f_known f_second f_source f_worth f_page p2 Q) : CtI l yX10_worthOf cX10_worthOf 3 (some .int) ({ frames := 2, cells := 0, slots := 0, locals := 47 } : Room) D [(cI, .int), (cZ, .boolean)] [.ref (ad 23), .ref (ad 12), .int p2] (wM ad cI cZ f_thrown f_text f_textSize f_place f_chips f_gates f_kind f_source f_second f_clock f_readChips f_readPins f_readGates f_readKind f_readLies f_readSource f_readSecond f_readClock f_page f_trial f_book f_doings f_kept f_isKept f_seen f_seenBehind f_seenGate f_seenWorth f_seenWas f_seed f_worth f_known f_hand f_goes f_takes f_crossed f_last f_lastNow f_states X) (fun r u => ∃ w0 w1, u = (wM ad cI cZ f_thrown f_text f_textSize f_place f_chips f_gates f_kind f_source f_second f_clock f_readChips f_readPins f_readGates f_readKind f_readLies f_readSource f_readSecond f_readClock f_page f_trial f_book f_doings f_kept f_isKept f_seen f_seenBehind f_seenGate f_seenWorth f_seenWas f_seed w1 w0 f_hand f_goes f_takes f_crossed f_last f_lastNow f_states X) ∧ Q r w0 w1) := by
  refine CtI.of (by decide) rfl (Nat.le_of_ble_eq_true rfl) ?_
  intro p e s m args below meth c A Z E hret ls hl hw
  have E : gE p m c cX10_worthOf 3 s args RX10 D [(cI, .int), (cZ, .boolean)] A := E
  have hx := E.1.1
  have hb := E.1.2.1
  have hl : lv_has ls 3 [(0, .ref (ad 23)), (1, .ref (ad 12)), (2, .int p2)] := hl
  unfold wp_X10_worthOf at h
  refine lv_aload_n hx hb dX10_worthOf_0 rfl (lv_at hl 0 rfl) ?_
  refine lv_aload_n hx hb dX10_worthOf_1 rfl (lv_at hl 1 rfl) ?_
  refine lv_bipush (v := -9) hx hb dX10_worthOf_2 (by decide) ?_
  refine g_aV E hw (g_rV E hw (c_X10_layWorth_page h _) ym_X10_layWorth k_674 ⟨rfl, rfl⟩ ⟨Nat.le_of_ble_eq_true rfl, Nat.le_of_ble_eq_true rfl⟩ 23 rfl rfl rfl rfl hl.1 rfl (Nat.le_of_ble_eq_true rfl) ⟨Nat.zero_le _, Nat.zero_le _⟩ dX10_worthOf_4) (fun u H locs hq hw => ?_)
  obtain ⟨y2, y3, hu, h⟩ := hq
  rw [hu] at hw
  refine lv_aload_n hx hb dX10_worthOf_7 rfl (lv_at hl 0 rfl) ?_
  refine gM_X10_72_main E hw dX10_worthOf_8 ?_
  refine lv_iload_n hx hb dX10_worthOf_11 rfl (lv_at hl 2 rfl) ?_
  refine lM_worth E hw h.1 dX10_worthOf_12 ?_
  have h := h.2
  exact hret _ _ _ _ _ _ ⟨_, _, rfl, h⟩ hw dX10_worthOf_13
set_option maxRecDepth 100000 in
set_option maxHeartbeats 4000000 in
theorem c_X10_gate {l : Launch} {D : va_G} {cI cZ : ClassId} {ad : Nat → Nat} {f_thrown : Int32} {f_text : Nat → Int32} {f_textSize : Int32} {f_place : Int32} {f_chips : Int32} {f_gates : Int32} {f_kind : Nat → Int32} {f_source : Nat → Int32} {f_second : Nat → Int32} {f_clock : Nat → Int32} {f_readChips : Int32} {f_readPins : Int32} {f_readGates : Int32} {f_readKind : Nat → Int32} {f_readLies : Nat → Int32} {f_readSource : Nat → Int32} {f_readSecond : Nat → Int32} {f_readClock : Nat → Int32} {f_page : Nat → Int32} {f_trial : Nat → Int32} {f_book : Nat → Int32} {f_doings : Int32} {f_kept : Nat → Int32} {f_isKept : Nat → Int32} {f_seen : Int32} {f_seenBehind : Nat → Int32} {f_seenGate : Nat → Int32} {f_seenWorth : Nat → Int32} {f_seenWas : Nat → Int32} {f_seed : Int64} {f_worth : Nat → Int32} {f_known : Int32} {f_hand : Nat → Int32} {f_goes : Nat → Int32} {f_takes : Int32} {f_crossed : Int32} {f_last : Int32} {f_lastNow : Int32} {f_states : Nat → Int32} {X : va_W} {p1 : Int32} {p2 : Int32} {Q : Int32 → Int32 → Int32 → (Nat → Int32) → Prop} (h : wp_X10_gate f_clock f_gates f_kind f_known f_page f_second f_source f_thrown f_worth p1 p2 Q) : CtI l yX10_gate cX10_gate 3 (some .int) ({ frames := 3, cells := 0, slots := 0, locals := 69 } : Room) D [(cI, .int), (cZ, .boolean)] [.ref (ad 23), .int p1, .int p2] (wM ad cI cZ f_thrown f_text f_textSize f_place f_chips f_gates f_kind f_source f_second f_clock f_readChips f_readPins f_readGates f_readKind f_readLies f_readSource f_readSecond f_readClock f_page f_trial f_book f_doings f_kept f_isKept f_seen f_seenBehind f_seenGate f_seenWorth f_seenWas f_seed f_worth f_known f_hand f_goes f_takes f_crossed f_last f_lastNow f_states X) (fun r u => ∃ w0 w1 w2, u = (wM ad cI cZ w1 f_text f_textSize f_place f_chips f_gates f_kind f_source f_second f_clock f_readChips f_readPins f_readGates f_readKind f_readLies f_readSource f_readSecond f_readClock f_page f_trial f_book f_doings f_kept f_isKept f_seen f_seenBehind f_seenGate f_seenWorth f_seenWas f_seed w2 w0 f_hand f_goes f_takes f_crossed f_last f_lastNow f_states X) ∧ Q r w0 w1 w2) := by
  refine CtI.of (by decide) rfl (Nat.le_of_ble_eq_true rfl) ?_
  intro p e s m args below meth c A Z E hret ls hl hw
  have E : gE p m c cX10_gate 3 s args RX10 D [(cI, .int), (cZ, .boolean)] A := E
  have hx := E.1.1
  have hb := E.1.2.1
  have hl : lv_has ls 3 [(0, .ref (ad 23)), (1, .int p1), (2, .int p2)] := hl
  unfold wp_X10_gate at h
  refine lv_aload_n hx hb dX10_gate_0 rfl (lv_at hl 0 rfl) ?_
  refine lv_iconst (v := 0) hx hb dX10_gate_1 (by decide) ?_
  refine pM_X10_84_main E hw dX10_gate_2 (fun H locs hw => ?_)
  refine lv_aload_n hx hb dX10_gate_5 rfl (lv_at hl 0 rfl) ?_
  refine lv_iload_n hx hb dX10_gate_6 rfl (lv_at hl 1 rfl) ?_
  refine g_aI E hw (g_rV E hw (c_X10_noGate h _) ym_X10_noGate k_668 ⟨rfl, rfl⟩ ⟨Nat.le_of_ble_eq_true rfl, Nat.le_of_ble_eq_true rfl⟩ 23 rfl rfl rfl rfl hl.1 rfl (Nat.le_of_ble_eq_true rfl) ⟨Nat.zero_le _, Nat.zero_le _⟩ dX10_gate_7) (fun r1 u H locs hq hw => ?_)
  obtain ⟨hu, h⟩ := hq
  rw [hu] at hw
  refine lv_if_eq (tgt := 15) hx hb dX10_gate_10 (by decide) (fun c2 => ?_) (fun c2 => ?_)
  · have h := h.1 c2
    refine lv_iload_n hx hb dX10_gate_15 rfl (lv_at hl 2 rfl) ?_
    by_cases c3 : p2 = 0
    · have h := h.1 c3
      refine lv_tableIn (tgt := 60) (off := 44) hx hb dX10_gate_16 (by rw [c3]; decide) (by rw [c3]; decide) (by rw [c3]; rfl) (by decide) ?_
      refine lv_aload_n hx hb dX10_gate_60 rfl (lv_at hl 0 rfl) ?_
      refine gM_X10_17_main E hw dX10_gate_61 ?_
      refine lv_iload_n hx hb dX10_gate_64 rfl (lv_at hl 1 rfl) ?_
      refine lM_kind E hw h.1 dX10_gate_65 ?_
      have h := h.2
      exact hret _ _ _ _ _ _ ⟨_, _, _, rfl, h⟩ hw dX10_gate_66
    · have h := h.2 c3
      by_cases c4 : p2 = 1
      · have h := h.1 c4
        refine lv_tableIn (tgt := 67) (off := 51) hx hb dX10_gate_16 (by rw [c4]; decide) (by rw [c4]; decide) (by rw [c4]; rfl) (by decide) ?_
        refine lv_aload_n hx hb dX10_gate_67 rfl (lv_at hl 0 rfl) ?_
        refine gM_X10_44_main E hw dX10_gate_68 ?_
        refine lv_bipush (v := 10) hx hb dX10_gate_71 (by decide) ?_
        refine lv_iload_n hx hb dX10_gate_73 rfl (lv_at hl 1 rfl) ?_
        refine lv_iadd hx hb dX10_gate_74 ?_
        refine lM_page E hw h.1 dX10_gate_75 ?_
        have h := h.2
        exact hret _ _ _ _ _ _ ⟨_, _, _, rfl, h⟩ hw dX10_gate_76
      · have h := h.2 c4
        by_cases c5 : p2 = 2
        · have h := h.1 c5
          refine lv_tableIn (tgt := 77) (off := 61) hx hb dX10_gate_16 (by rw [c5]; decide) (by rw [c5]; decide) (by rw [c5]; rfl) (by decide) ?_
          refine lv_aload_n hx hb dX10_gate_77 rfl (lv_at hl 0 rfl) ?_
          refine gM_X10_20_main E hw dX10_gate_78 ?_
          refine lv_iload_n hx hb dX10_gate_81 rfl (lv_at hl 1 rfl) ?_
          refine lM_source E hw h.1 dX10_gate_82 ?_
          have h := h.2
          exact hret _ _ _ _ _ _ ⟨_, _, _, rfl, h⟩ hw dX10_gate_83
        · have h := h.2 c5
          by_cases c6 : p2 = 3
          · have h := h.1 c6
            refine lv_tableIn (tgt := 84) (off := 68) hx hb dX10_gate_16 (by rw [c6]; decide) (by rw [c6]; decide) (by rw [c6]; rfl) (by decide) ?_
            refine lv_aload_n hx hb dX10_gate_84 rfl (lv_at hl 0 rfl) ?_
            refine gM_X10_23_main E hw dX10_gate_85 ?_
            refine lv_iload_n hx hb dX10_gate_88 rfl (lv_at hl 1 rfl) ?_
            refine lM_second E hw h.1 dX10_gate_89 ?_
            have h := h.2
            exact hret _ _ _ _ _ _ ⟨_, _, _, rfl, h⟩ hw dX10_gate_90
          · have h := h.2 c6
            by_cases c7 : p2 = 4
            · have h := h.1 c7
              refine lv_tableIn (tgt := 91) (off := 75) hx hb dX10_gate_16 (by rw [c7]; decide) (by rw [c7]; decide) (by rw [c7]; rfl) (by decide) ?_
              refine lv_aload_n hx hb dX10_gate_91 rfl (lv_at hl 0 rfl) ?_
              refine gM_X10_26_main E hw dX10_gate_92 ?_
              refine lv_iload_n hx hb dX10_gate_95 rfl (lv_at hl 1 rfl) ?_
              refine lM_clock E hw h.1 dX10_gate_96 ?_
              have h := h.2
              exact hret _ _ _ _ _ _ ⟨_, _, _, rfl, h⟩ hw dX10_gate_97
            · have h := h.2 c7
              by_cases c8 : p2 = 5
              · have h := h.1 c8
                refine lv_tableIn (tgt := 98) (off := 82) hx hb dX10_gate_16 (by rw [c8]; decide) (by rw [c8]; decide) (by rw [c8]; rfl) (by decide) ?_
                refine lv_aload_n hx hb dX10_gate_98 rfl (lv_at hl 0 rfl) ?_
                refine lv_aload_n hx hb dX10_gate_99 rfl (lv_at hl 0 rfl) ?_
                refine gM_X10_44_main E hw dX10_gate_100 ?_
                refine lv_iload_n hx hb dX10_gate_103 rfl (lv_at hl 1 rfl) ?_
                refine g_aI E hw (g_rV E hw (c_X10_worthOf_page h _) ym_X10_worthOf k_671 ⟨rfl, rfl⟩ ⟨Nat.le_of_ble_eq_true rfl, Nat.le_of_ble_eq_true rfl⟩ 23 rfl rfl rfl rfl hl.1 rfl (Nat.le_of_ble_eq_true rfl) ⟨Nat.zero_le _, Nat.zero_le _⟩ dX10_gate_104) (fun r9 u H locs hq hw => ?_)
                obtain ⟨y10, y11, hu, h⟩ := hq
                rw [hu] at hw
                exact hret _ _ _ _ _ _ ⟨_, _, _, rfl, h⟩ hw dX10_gate_107
              · have h := h.2 c8
                by_cases c12 : p2 = 6
                · have h := h.1 c12
                  refine lv_tableIn (tgt := 108) (off := 92) hx hb dX10_gate_16 (by rw [c12]; decide) (by rw [c12]; decide) (by rw [c12]; rfl) (by decide) ?_
                  refine lv_aload_n hx hb dX10_gate_108 rfl (lv_at hl 0 rfl) ?_
                  refine lv_iload_n hx hb dX10_gate_109 rfl (lv_at hl 1 rfl) ?_
                  refine g_aI E hw (g_rV E hw (c_X10_usedBy h _) ym_X10_usedBy k_686 ⟨rfl, rfl⟩ ⟨Nat.le_of_ble_eq_true rfl, Nat.le_of_ble_eq_true rfl⟩ 23 rfl rfl rfl rfl hl.1 rfl (Nat.le_of_ble_eq_true rfl) ⟨Nat.zero_le _, Nat.zero_le _⟩ dX10_gate_110) (fun r13 u H locs hq hw => ?_)
                  obtain ⟨hu, h⟩ := hq
                  rw [hu] at hw
                  exact hret _ _ _ _ _ _ ⟨_, _, _, rfl, h⟩ hw dX10_gate_113
                · have h := h.2 c12
                  have nc3 := lv_neT c3 (a := 0) rfl
                  have nc4 := lv_neT c4 (a := 1) rfl
                  have nc5 := lv_neT c5 (a := 2) rfl
                  have nc6 := lv_neT c6 (a := 3) rfl
                  have nc7 := lv_neT c7 (a := 4) rfl
                  have nc8 := lv_neT c8 (a := 5) rfl
                  have nc12 := lv_neT c12 (a := 6) rfl
                  refine lv_tableOut (tgt := 114) hx hb dX10_gate_16 (by omega) (by decide) ?_
                  refine lv_bipush (v := -2) hx hb dX10_gate_114 (by decide) ?_
                  exact hret _ _ _ _ _ _ ⟨_, _, _, rfl, h⟩ hw dX10_gate_116
  · have h := h.2 c2
    refine lv_iconst (v := -1) hx hb dX10_gate_13 (by decide) ?_
    exact hret _ _ _ _ _ _ ⟨_, _, _, rfl, h⟩ hw dX10_gate_14
set_option maxRecDepth 100000 in
set_option maxHeartbeats 4000000 in
theorem c_X10_note {l : Launch} {D : va_G} {cI cZ : ClassId} {ad : Nat → Nat} {f_thrown : Int32} {f_text : Nat → Int32} {f_textSize : Int32} {f_place : Int32} {f_chips : Int32} {f_gates : Int32} {f_kind : Nat → Int32} {f_source : Nat → Int32} {f_second : Nat → Int32} {f_clock : Nat → Int32} {f_readChips : Int32} {f_readPins : Int32} {f_readGates : Int32} {f_readKind : Nat → Int32} {f_readLies : Nat → Int32} {f_readSource : Nat → Int32} {f_readSecond : Nat → Int32} {f_readClock : Nat → Int32} {f_page : Nat → Int32} {f_trial : Nat → Int32} {f_book : Nat → Int32} {f_doings : Int32} {f_kept : Nat → Int32} {f_isKept : Nat → Int32} {f_seen : Int32} {f_seenBehind : Nat → Int32} {f_seenGate : Nat → Int32} {f_seenWorth : Nat → Int32} {f_seenWas : Nat → Int32} {f_seed : Int64} {f_worth : Nat → Int32} {f_known : Int32} {f_hand : Nat → Int32} {f_goes : Nat → Int32} {f_takes : Int32} {f_crossed : Int32} {f_last : Int32} {f_lastNow : Int32} {f_states : Nat → Int32} {X : va_W} {Q : (Nat → Int32) → Int32 → Prop} (h : wp_X10_note f_book f_doings f_page Q) : CtV l yX10_note cX10_note 2 none ({ frames := 0, cells := 0, slots := 0, locals := 0 } : Room) D [(cI, .int), (cZ, .boolean)] [.ref (ad 23)] (wM ad cI cZ f_thrown f_text f_textSize f_place f_chips f_gates f_kind f_source f_second f_clock f_readChips f_readPins f_readGates f_readKind f_readLies f_readSource f_readSecond f_readClock f_page f_trial f_book f_doings f_kept f_isKept f_seen f_seenBehind f_seenGate f_seenWorth f_seenWas f_seed f_worth f_known f_hand f_goes f_takes f_crossed f_last f_lastNow f_states X) (fun  u => ∃ w0 w1, u = (wM ad cI cZ f_thrown f_text f_textSize f_place f_chips f_gates f_kind f_source f_second f_clock f_readChips f_readPins f_readGates f_readKind f_readLies f_readSource f_readSecond f_readClock f_page f_trial w0 w1 f_kept f_isKept f_seen f_seenBehind f_seenGate f_seenWorth f_seenWas f_seed f_worth f_known f_hand f_goes f_takes f_crossed f_last f_lastNow f_states X) ∧ Q w0 w1) := by
  refine CtV.of (by decide) rfl (Nat.le_of_ble_eq_true rfl) ?_
  intro p e s m args below meth c A Z E hret ls hl hw
  have E : gE p m c cX10_note 2 s args RX10 D [(cI, .int), (cZ, .boolean)] A := E
  have hx := E.1.1
  have hb := E.1.2.1
  have hl : lv_has ls 2 [(0, .ref (ad 23))] := hl
  have L51 : ∀ (n : Nat) (x1 : Int32) (f_book : Nat → Int32) (f_doings : Int32) (H : Heap) (locs : List Loc) (ls : Array Slot), wp_X10_note_h51 f_page Q  n x1 f_book f_doings → gW D s A (wM ad cI cZ f_thrown f_text f_textSize f_place f_chips f_gates f_kind f_source f_second f_clock f_readChips f_readPins f_readGates f_readKind f_readLies f_readSource f_readSecond f_readClock f_page f_trial f_book f_doings f_kept f_isKept f_seen f_seenBehind f_seenGate f_seenWorth f_seenWas f_seed f_worth f_known f_hand f_goes f_takes f_crossed f_last f_lastNow f_states X) H locs → lv_has ls 2 [(0, .ref (ad 23)), (1, .int x1)] → W p l e ({ frames := 0, cells := 0, slots := 0, locals := 0 } : Room) s m args below meth c H locs 0 0 Z (F0 m 51 ls []) := by
    intro n
    induction n with
    | zero => intro x1 f_book f_doings H locs ls h; exact False.elim h
    | succ n51 ih51 =>
      intro x1 f_book f_doings H locs ls h hw hl
      have h : wp_X10_note_b51 f_page Q (wp_X10_note_h51 f_page Q  n51) x1 f_book f_doings := h
      unfold wp_X10_note_b51 at h
      refine lv_iload_n hx hb dX10_note_51 rfl (lv_at hl 1 rfl) ?_
      refine lv_bipush (v := 22) hx hb dX10_note_52 (by decide) ?_
      refine lv_icmp_ge (tgt := 83) hx hb dX10_note_54 (by decide) (fun c1 => ?_) (fun c1 => ?_)
      · have h := h.1 c1
        refine lv_aload_n hx hb dX10_note_83 rfl (lv_at hl 0 rfl) ?_
        refine lv_dup hx hb dX10_note_84 rfl ?_
        refine gM_X10_134_main E hw dX10_note_85 ?_
        refine lv_iconst (v := 1) hx hb dX10_note_88 (by decide) ?_
        refine lv_iadd hx hb dX10_note_89 ?_
        refine lv_topi (fun v2 ev2 => ?_)
        have h := h v2 ev2
        refine pM_X10_134_main E hw dX10_note_90 (fun H locs hw => ?_)
        exact hret _ _ _ _ _ ⟨_, _, rfl, h⟩ hw dX10_note_93
      · have h := h.2 c1
        refine lv_aload_n hx hb dX10_note_57 rfl (lv_at hl 0 rfl) ?_
        refine gM_X10_50_main E hw dX10_note_58 ?_
        refine lv_bipush (v := 22) hx hb dX10_note_61 (by decide) ?_
        refine lv_aload_n hx hb dX10_note_63 rfl (lv_at hl 0 rfl) ?_
        refine gM_X10_134_main E hw dX10_note_64 ?_
        refine lv_imul hx hb dX10_note_67 ?_
        refine lv_iload_n hx hb dX10_note_68 rfl (lv_at hl 1 rfl) ?_
        refine lv_iadd hx hb dX10_note_69 ?_
        refine lv_aload_n hx hb dX10_note_70 rfl (lv_at hl 0 rfl) ?_
        refine gM_X10_44_main E hw dX10_note_71 ?_
        refine lv_iload_n hx hb dX10_note_74 rfl (lv_at hl 1 rfl) ?_
        refine lM_page E hw h.1 dX10_note_75 ?_
        have h := h.2
        refine lv_topi (fun v3 ev3 => ?_)
        have h := h v3 ev3
        refine sM_book E hw h.1 dX10_note_76 (fun y4 ey4 H locs hw => ?_)
        have h := h.2 y4 ey4
        obtain ⟨v5, ev5⟩ : ∃ y : Int32, y = x1 + 1 := ⟨_, rfl⟩
        have h := h v5 ev5
        refine lv_iinc (v := v5) (lv' := [(1, .int v5), (0, .ref (ad 23))]) hx hb dX10_note_77 hl (k := 1) rfl (by rw [ev5]; rfl) (by decide) rfl (fun ls hl => ?_)
        refine lv_goto (tgt := 51) hx hb dX10_note_80 (by decide) ?_
        exact ih51 v5 y4 f_doings _ _ _ h hw (lv_sub hl [1, 0] rfl)
  have J49 : ∀ (f_book : Nat → Int32) (f_doings : Int32) (H : Heap) (locs : List Loc) (ls : Array Slot), wp_X10_note_b49 f_page Q  f_book f_doings → gW D s A (wM ad cI cZ f_thrown f_text f_textSize f_place f_chips f_gates f_kind f_source f_second f_clock f_readChips f_readPins f_readGates f_readKind f_readLies f_readSource f_readSecond f_readClock f_page f_trial f_book f_doings f_kept f_isKept f_seen f_seenBehind f_seenGate f_seenWorth f_seenWas f_seed f_worth f_known f_hand f_goes f_takes f_crossed f_last f_lastNow f_states X) H locs → lv_has ls 2 [(0, .ref (ad 23))] → W p l e ({ frames := 0, cells := 0, slots := 0, locals := 0 } : Room) s m args below meth c H locs 0 0 Z (F0 m 49 ls []) := by
    intro f_book f_doings H locs ls h hw hl
    unfold wp_X10_note_b49 at h
    refine lv_iconst (v := 0) hx hb dX10_note_49 (by decide) ?_
    refine lv_istore_n (lv' := [(1, .int (0 : Int32)), (0, .ref (ad 23))]) hx hb dX10_note_50 rfl hl (by decide) rfl (fun ls hl => ?_)
    obtain ⟨n, h⟩ := h
    exact L51 n (0 : Int32) f_book f_doings _ _ _ h hw (lv_sub hl [1, 0] rfl)
  have L11 : ∀ (n : Nat) (x1 : Int32) (f_book : Nat → Int32) (f_doings : Int32) (H : Heap) (locs : List Loc) (ls : Array Slot), wp_X10_note_h11 f_page Q  n x1 f_book f_doings → gW D s A (wM ad cI cZ f_thrown f_text f_textSize f_place f_chips f_gates f_kind f_source f_second f_clock f_readChips f_readPins f_readGates f_readKind f_readLies f_readSource f_readSecond f_readClock f_page f_trial f_book f_doings f_kept f_isKept f_seen f_seenBehind f_seenGate f_seenWorth f_seenWas f_seed f_worth f_known f_hand f_goes f_takes f_crossed f_last f_lastNow f_states X) H locs → lv_has ls 2 [(0, .ref (ad 23)), (1, .int x1)] → W p l e ({ frames := 0, cells := 0, slots := 0, locals := 0 } : Room) s m args below meth c H locs 0 0 Z (F0 m 11 ls []) := by
    intro n
    induction n with
    | zero => intro x1 f_book f_doings H locs ls h; exact False.elim h
    | succ n11 ih11 =>
      intro x1 f_book f_doings H locs ls h hw hl
      have h : wp_X10_note_b11 f_page Q (wp_X10_note_h11 f_page Q  n11) x1 f_book f_doings := h
      unfold wp_X10_note_b11 at h
      refine lv_iload_n hx hb dX10_note_11 rfl (lv_at hl 1 rfl) ?_
      refine lv_sipush (v := 286) hx hb dX10_note_12 (by decide) ?_
      refine lv_icmp_ge (tgt := 39) hx hb dX10_note_15 (by decide) (fun c6 => ?_) (fun c6 => ?_)
      · have h := h.1 c6
        refine lv_aload_n hx hb dX10_note_39 rfl (lv_at hl 0 rfl) ?_
        refine lv_dup hx hb dX10_note_40 rfl ?_
        refine gM_X10_134_main E hw dX10_note_41 ?_
        refine lv_iconst (v := 1) hx hb dX10_note_44 (by decide) ?_
        refine lv_isub hx hb dX10_note_45 ?_
        refine lv_topi (fun v7 ev7 => ?_)
        have h := h v7 ev7
        refine pM_X10_134_main E hw dX10_note_46 (fun H locs hw => ?_)
        exact J49 f_book v7 _ _ _ h hw (lv_sub hl [0] rfl)
      · have h := h.2 c6
        refine lv_aload_n hx hb dX10_note_18 rfl (lv_at hl 0 rfl) ?_
        refine gM_X10_50_main E hw dX10_note_19 ?_
        refine lv_iload_n hx hb dX10_note_22 rfl (lv_at hl 1 rfl) ?_
        refine lv_aload_n hx hb dX10_note_23 rfl (lv_at hl 0 rfl) ?_
        refine gM_X10_50_main E hw dX10_note_24 ?_
        refine lv_iload_n hx hb dX10_note_27 rfl (lv_at hl 1 rfl) ?_
        refine lv_bipush (v := 22) hx hb dX10_note_28 (by decide) ?_
        refine lv_iadd hx hb dX10_note_30 ?_
        refine lM_book E hw h.1 dX10_note_31 ?_
        have h := h.2
        refine lv_topi (fun v8 ev8 => ?_)
        have h := h v8 ev8
        refine sM_book E hw h.1 dX10_note_32 (fun y9 ey9 H locs hw => ?_)
        have h := h.2 y9 ey9
        obtain ⟨v10, ev10⟩ : ∃ y : Int32, y = x1 + 1 := ⟨_, rfl⟩
        have h := h v10 ev10
        refine lv_iinc (v := v10) (lv' := [(1, .int v10), (0, .ref (ad 23))]) hx hb dX10_note_33 hl (k := 1) rfl (by rw [ev10]; rfl) (by decide) rfl (fun ls hl => ?_)
        refine lv_goto (tgt := 11) hx hb dX10_note_36 (by decide) ?_
        exact ih11 v10 y9 f_doings _ _ _ h hw (lv_sub hl [1, 0] rfl)
  unfold wp_X10_note at h
  refine lv_aload_n hx hb dX10_note_0 rfl (lv_at hl 0 rfl) ?_
  refine gM_X10_134_main E hw dX10_note_1 ?_
  refine lv_bipush (v := 14) hx hb dX10_note_4 (by decide) ?_
  refine lv_icmp_ne (tgt := 49) hx hb dX10_note_6 (by decide) (fun c11 => ?_) (fun c11 => ?_)
  · have h := h.1 c11
    exact J49 f_book f_doings _ _ _ h hw (lv_sub hl [0] rfl)
  · have h := h.2 c11
    refine lv_iconst (v := 0) hx hb dX10_note_9 (by decide) ?_
    refine lv_istore_n (lv' := [(1, .int (0 : Int32)), (0, .ref (ad 23))]) hx hb dX10_note_10 rfl hl (by decide) rfl (fun ls hl => ?_)
    obtain ⟨n, h⟩ := h
    exact L11 n (0 : Int32) f_book f_doings _ _ _ h hw (lv_sub hl [1, 0] rfl)
set_option maxRecDepth 100000 in
set_option maxHeartbeats 4000000 in
theorem c_X10_stepOn_page {l : Launch} {D : va_G} {cI cZ : ClassId} {ad : Nat → Nat} {f_thrown : Int32} {f_text : Nat → Int32} {f_textSize : Int32} {f_place : Int32} {f_chips : Int32} {f_gates : Int32} {f_kind : Nat → Int32} {f_source : Nat → Int32} {f_second : Nat → Int32} {f_clock : Nat → Int32} {f_readChips : Int32} {f_readPins : Int32} {f_readGates : Int32} {f_readKind : Nat → Int32} {f_readLies : Nat → Int32} {f_readSource : Nat → Int32} {f_readSecond : Nat → Int32} {f_readClock : Nat → Int32} {f_page : Nat → Int32} {f_trial : Nat → Int32} {f_book : Nat → Int32} {f_doings : Int32} {f_kept : Nat → Int32} {f_isKept : Nat → Int32} {f_seen : Int32} {f_seenBehind : Nat → Int32} {f_seenGate : Nat → Int32} {f_seenWorth : Nat → Int32} {f_seenWas : Nat → Int32} {f_seed : Int64} {f_worth : Nat → Int32} {f_known : Int32} {f_hand : Nat → Int32} {f_goes : Nat → Int32} {f_takes : Int32} {f_crossed : Int32} {f_last : Int32} {f_lastNow : Int32} {f_states : Nat → Int32} {X : va_W} {p2 : Int32} {Q : Int32 → (Nat → Int32) → (Nat → Int32) → Prop} (h : wp_X10_stepOn f_clock f_gates f_kind f_known f_second f_source f_worth f_page p2 Q) : CtV l yX10_stepOn cX10_stepOn 4 none ({ frames := 2, cells := 0, slots := 0, locals := 47 } : Room) D [(cI, .int), (cZ, .boolean)] [.ref (ad 23), .ref (ad 12), .int p2] (wM ad cI cZ f_thrown f_text f_textSize f_place f_chips f_gates f_kind f_source f_second f_clock f_readChips f_readPins f_readGates f_readKind f_readLies f_readSource f_readSecond f_readClock f_page f_trial f_book f_doings f_kept f_isKept f_seen f_seenBehind f_seenGate f_seenWorth f_seenWas f_seed f_worth f_known f_hand f_goes f_takes f_crossed f_last f_lastNow f_states X) (fun  u => ∃ w0 w1 w2, u = (wM ad cI cZ f_thrown f_text f_textSize f_place f_chips f_gates f_kind f_source f_second f_clock f_readChips f_readPins f_readGates f_readKind f_readLies f_readSource f_readSecond f_readClock w2 f_trial f_book f_doings f_kept f_isKept f_seen f_seenBehind f_seenGate f_seenWorth f_seenWas f_seed w1 w0 f_hand f_goes f_takes f_crossed f_last f_lastNow f_states X) ∧ Q w0 w1 w2) := by
  refine CtV.of (by decide) rfl (Nat.le_of_ble_eq_true rfl) ?_
  intro p e s m args below meth c A Z E hret ls hl hw
  have E : gE p m c cX10_stepOn 4 s args RX10 D [(cI, .int), (cZ, .boolean)] A := E
  have hx := E.1.1
  have hb := E.1.2.1
  have hl : lv_has ls 4 [(0, .ref (ad 23)), (1, .ref (ad 12)), (2, .int p2)] := hl
  have L8 : ∀ (n : Nat) (x3 : Int32) (f_known : Int32) (f_worth : Nat → Int32) (f_page : Nat → Int32) (H : Heap) (locs : List Loc) (ls : Array Slot), wp_X10_stepOn_h8 f_clock f_gates f_kind f_second f_source p2 Q  n x3 f_known f_worth f_page → gW D s A (wM ad cI cZ f_thrown f_text f_textSize f_place f_chips f_gates f_kind f_source f_second f_clock f_readChips f_readPins f_readGates f_readKind f_readLies f_readSource f_readSecond f_readClock f_page f_trial f_book f_doings f_kept f_isKept f_seen f_seenBehind f_seenGate f_seenWorth f_seenWas f_seed f_worth f_known f_hand f_goes f_takes f_crossed f_last f_lastNow f_states X) H locs → lv_has ls 4 [(0, .ref (ad 23)), (1, .ref (ad 12)), (3, .int x3)] → W p l e ({ frames := 2, cells := 0, slots := 0, locals := 47 } : Room) s m args below meth c H locs 0 0 Z (F0 m 8 ls []) := by
    intro n
    induction n with
    | zero => intro x3 f_known f_worth f_page H locs ls h; exact False.elim h
    | succ n8 ih8 =>
      intro x3 f_known f_worth f_page H locs ls h hw hl
      have h : wp_X10_stepOn_b8 f_clock f_gates f_kind f_second f_source p2 Q (wp_X10_stepOn_h8 f_clock f_gates f_kind f_second f_source p2 Q  n8) x3 f_known f_worth f_page := h
      have J59 : ∀ (x3 : Int32) (f_known : Int32) (f_worth : Nat → Int32) (f_page : Nat → Int32) (H : Heap) (locs : List Loc) (ls : Array Slot), wp_X10_stepOn_b59 f_clock f_gates f_kind f_second f_source p2 Q (wp_X10_stepOn_h8 f_clock f_gates f_kind f_second f_source p2 Q  n8) x3 f_known f_worth f_page → gW D s A (wM ad cI cZ f_thrown f_text f_textSize f_place f_chips f_gates f_kind f_source f_second f_clock f_readChips f_readPins f_readGates f_readKind f_readLies f_readSource f_readSecond f_readClock f_page f_trial f_book f_doings f_kept f_isKept f_seen f_seenBehind f_seenGate f_seenWorth f_seenWas f_seed f_worth f_known f_hand f_goes f_takes f_crossed f_last f_lastNow f_states X) H locs → lv_has ls 4 [(0, .ref (ad 23)), (1, .ref (ad 12)), (3, .int x3)] → W p l e ({ frames := 2, cells := 0, slots := 0, locals := 47 } : Room) s m args below meth c H locs 0 0 Z (F0 m 59 ls []) := by
        intro x3 f_known f_worth f_page H locs ls h hw hl
        unfold wp_X10_stepOn_b59 at h
        obtain ⟨v1, ev1⟩ : ∃ y : Int32, y = x3 + 1 := ⟨_, rfl⟩
        have h := h v1 ev1
        refine lv_iinc (v := v1) (lv' := [(3, .int v1), (0, .ref (ad 23)), (1, .ref (ad 12))]) hx hb dX10_stepOn_59 hl (k := 2) rfl (by rw [ev1]; rfl) (by decide) rfl (fun ls hl => ?_)
        refine lv_goto (tgt := 8) hx hb dX10_stepOn_62 (by decide) ?_
        exact ih8 v1 f_known f_worth f_page _ _ _ h hw (lv_sub hl [1, 2, 0] rfl)
      have J45 : ∀ (x3 : Int32) (f_known : Int32) (f_worth : Nat → Int32) (f_page : Nat → Int32) (H : Heap) (locs : List Loc) (ls : Array Slot), wp_X10_stepOn_b45 f_clock f_gates f_kind f_second f_source p2 Q (wp_X10_stepOn_h8 f_clock f_gates f_kind f_second f_source p2 Q  n8) x3 f_known f_worth f_page → gW D s A (wM ad cI cZ f_thrown f_text f_textSize f_place f_chips f_gates f_kind f_source f_second f_clock f_readChips f_readPins f_readGates f_readKind f_readLies f_readSource f_readSecond f_readClock f_page f_trial f_book f_doings f_kept f_isKept f_seen f_seenBehind f_seenGate f_seenWorth f_seenWas f_seed f_worth f_known f_hand f_goes f_takes f_crossed f_last f_lastNow f_states X) H locs → lv_has ls 4 [(0, .ref (ad 23)), (1, .ref (ad 12)), (3, .int x3)] → W p l e ({ frames := 2, cells := 0, slots := 0, locals := 47 } : Room) s m args below meth c H locs 0 0 Z (F0 m 45 ls []) := by
        intro x3 f_known f_worth f_page H locs ls h hw hl
        unfold wp_X10_stepOn_b45 at h
        refine lv_aload_n hx hb dX10_stepOn_45 rfl (lv_at hl 1 rfl) ?_
        refine lv_iload_n hx hb dX10_stepOn_46 rfl (lv_at hl 2 rfl) ?_
        refine lv_aload_n hx hb dX10_stepOn_47 rfl (lv_at hl 0 rfl) ?_
        refine gM_X10_72_main E hw dX10_stepOn_48 ?_
        refine lv_aload_n hx hb dX10_stepOn_51 rfl (lv_at hl 0 rfl) ?_
        refine gM_X10_20_main E hw dX10_stepOn_52 ?_
        refine lv_iload_n hx hb dX10_stepOn_55 rfl (lv_at hl 2 rfl) ?_
        refine lM_source E hw h.1 dX10_stepOn_56 ?_
        have h := h.2
        refine lM_worth E hw h.1 dX10_stepOn_57 ?_
        have h := h.2
        refine lv_topi (fun v2 ev2 => ?_)
        have h := h v2 ev2
        refine sM_page E hw h.1 dX10_stepOn_58 (fun y3 ey3 H locs hw => ?_)
        have h := h.2 y3 ey3
        exact J59 x3 f_known f_worth y3 _ _ _ h hw (lv_sub hl [0, 1, 2] rfl)
      unfold wp_X10_stepOn_b8 at h
      refine lv_iload_n hx hb dX10_stepOn_8 rfl (lv_at hl 2 rfl) ?_
      refine lv_aload_n hx hb dX10_stepOn_9 rfl (lv_at hl 0 rfl) ?_
      refine gM_X10_87_main E hw dX10_stepOn_10 ?_
      refine lv_icmp_ge (tgt := 65) hx hb dX10_stepOn_13 (by decide) (fun c4 => ?_) (fun c4 => ?_)
      · have h := h.1 c4
        refine lv_aload_n hx hb dX10_stepOn_65 rfl (lv_at hl 1 rfl) ?_
        refine lv_bipush (v := 21) hx hb dX10_stepOn_66 (by decide) ?_
        refine lv_dup2_11 hx hb dX10_stepOn_68 rfl rfl ?_
        refine lM_page E hw h.1 dX10_stepOn_69 ?_
        have h := h.2
        refine lv_iconst (v := 1) hx hb dX10_stepOn_70 (by decide) ?_
        refine lv_iadd hx hb dX10_stepOn_71 ?_
        refine lv_topi (fun v5 ev5 => ?_)
        have h := h v5 ev5
        refine sM_page E hw h.1 dX10_stepOn_72 (fun y6 ey6 H locs hw => ?_)
        have h := h.2 y6 ey6
        exact hret _ _ _ _ _ ⟨_, _, _, rfl, h⟩ hw dX10_stepOn_73
      · have h := h.2 c4
        refine lv_aload_n hx hb dX10_stepOn_16 rfl (lv_at hl 0 rfl) ?_
        refine gM_X10_17_main E hw dX10_stepOn_17 ?_
        refine lv_iload_n hx hb dX10_stepOn_20 rfl (lv_at hl 2 rfl) ?_
        refine lM_kind E hw h.1 dX10_stepOn_21 ?_
        have h := h.2
        refine lv_iconst (v := 5) hx hb dX10_stepOn_22 (by decide) ?_
        refine lv_icmp_ne (tgt := 59) hx hb dX10_stepOn_23 (by decide) (fun c7 => ?_) (fun c7 => ?_)
        · have h := h.1 c7
          exact J59 x3 f_known f_worth f_page _ _ _ h hw (lv_sub hl [0, 1, 2] rfl)
        · have h := h.2 c7
          refine lv_aload_n hx hb dX10_stepOn_26 rfl (lv_at hl 0 rfl) ?_
          refine gM_X10_26_main E hw dX10_stepOn_27 ?_
          refine lv_iload_n hx hb dX10_stepOn_30 rfl (lv_at hl 2 rfl) ?_
          refine lM_clock E hw h.1 dX10_stepOn_31 ?_
          have h := h.2
          refine lv_if_eq (tgt := 45) hx hb dX10_stepOn_32 (by decide) (fun c8 => ?_) (fun c8 => ?_)
          · have h := h.1 c8
            exact J45 x3 f_known f_worth f_page _ _ _ h hw (lv_sub hl [0, 1, 2] rfl)
          · have h := h.2 c8
            refine lv_aload_n hx hb dX10_stepOn_35 rfl (lv_at hl 1 rfl) ?_
            refine lv_bipush (v := 21) hx hb dX10_stepOn_36 (by decide) ?_
            refine lM_page E hw h.1 dX10_stepOn_38 ?_
            have h := h.2
            refine lv_iconst (v := 2) hx hb dX10_stepOn_39 (by decide) ?_
            refine lv_irem hx hb dX10_stepOn_40 (by decide) ?_
            refine lv_iconst (v := 1) hx hb dX10_stepOn_41 (by decide) ?_
            refine lv_icmp_ne (tgt := 59) hx hb dX10_stepOn_42 (by decide) (fun c9 => ?_) (fun c9 => ?_)
            · have h := h.1 c9
              exact J59 x3 f_known f_worth f_page _ _ _ h hw (lv_sub hl [0, 1, 2] rfl)
            · have h := h.2 c9
              exact J45 x3 f_known f_worth f_page _ _ _ h hw (lv_sub hl [0, 1, 2] rfl)
  unfold wp_X10_stepOn at h
  refine lv_aload_n hx hb dX10_stepOn_0 rfl (lv_at hl 0 rfl) ?_
  refine lv_aload_n hx hb dX10_stepOn_1 rfl (lv_at hl 1 rfl) ?_
  refine lv_iload_n hx hb dX10_stepOn_2 rfl (lv_at hl 2 rfl) ?_
  refine g_aV E hw (g_rV E hw (c_X10_layWorth_page h _) ym_X10_layWorth k_674 ⟨rfl, rfl⟩ ⟨Nat.le_of_ble_eq_true rfl, Nat.le_of_ble_eq_true rfl⟩ 23 rfl rfl rfl rfl hl.1 rfl (Nat.le_of_ble_eq_true rfl) ⟨Nat.zero_le _, Nat.zero_le _⟩ dX10_stepOn_3) (fun u H locs hq hw => ?_)
  obtain ⟨y11, y12, hu, h⟩ := hq
  rw [hu] at hw
  refine lv_iconst (v := 0) hx hb dX10_stepOn_6 (by decide) ?_
  refine lv_istore_n (lv' := [(3, .int (0 : Int32)), (0, .ref (ad 23)), (1, .ref (ad 12)), (2, .int p2)]) hx hb dX10_stepOn_7 rfl hl (by decide) rfl (fun ls hl => ?_)
  obtain ⟨n, h⟩ := h
  exact L8 n (0 : Int32) y11 y12 f_page _ _ _ h hw (lv_sub hl [1, 2, 0] rfl)
set_option maxRecDepth 100000 in
set_option maxHeartbeats 4000000 in
theorem c_X10_step {l : Launch} {D : va_G} {cI cZ : ClassId} {ad : Nat → Nat} {f_thrown : Int32} {f_text : Nat → Int32} {f_textSize : Int32} {f_place : Int32} {f_chips : Int32} {f_gates : Int32} {f_kind : Nat → Int32} {f_source : Nat → Int32} {f_second : Nat → Int32} {f_clock : Nat → Int32} {f_readChips : Int32} {f_readPins : Int32} {f_readGates : Int32} {f_readKind : Nat → Int32} {f_readLies : Nat → Int32} {f_readSource : Nat → Int32} {f_readSecond : Nat → Int32} {f_readClock : Nat → Int32} {f_page : Nat → Int32} {f_trial : Nat → Int32} {f_book : Nat → Int32} {f_doings : Int32} {f_kept : Nat → Int32} {f_isKept : Nat → Int32} {f_seen : Int32} {f_seenBehind : Nat → Int32} {f_seenGate : Nat → Int32} {f_seenWorth : Nat → Int32} {f_seenWas : Nat → Int32} {f_seed : Int64} {f_worth : Nat → Int32} {f_known : Int32} {f_hand : Nat → Int32} {f_goes : Nat → Int32} {f_takes : Int32} {f_crossed : Int32} {f_last : Int32} {f_lastNow : Int32} {f_states : Nat → Int32} {X : va_W} {p1 : Int32} {Q : Int32 → (Nat → Int32) → Int32 → Int32 → (Nat → Int32) → Int32 → (Nat → Int32) → Prop} (h : wp_X10_step f_book f_clock f_doings f_gates f_kind f_known f_page f_second f_source f_thrown f_worth p1 Q) : CtI l yX10_step cX10_step 3 (some .int) ({ frames := 3, cells := 0, slots := 0, locals := 70 } : Room) D [(cI, .int), (cZ, .boolean)] [.ref (ad 23), .int p1] (wM ad cI cZ f_thrown f_text f_textSize f_place f_chips f_gates f_kind f_source f_second f_clock f_readChips f_readPins f_readGates f_readKind f_readLies f_readSource f_readSecond f_readClock f_page f_trial f_book f_doings f_kept f_isKept f_seen f_seenBehind f_seenGate f_seenWorth f_seenWas f_seed f_worth f_known f_hand f_goes f_takes f_crossed f_last f_lastNow f_states X) (fun r u => ∃ w0 w1 w2 w3 w4 w5, u = (wM ad cI cZ w4 f_text f_textSize f_place f_chips f_gates f_kind f_source f_second f_clock f_readChips f_readPins f_readGates f_readKind f_readLies f_readSource f_readSecond f_readClock w3 f_trial w0 w1 f_kept f_isKept f_seen f_seenBehind f_seenGate f_seenWorth f_seenWas f_seed w5 w2 f_hand f_goes f_takes f_crossed f_last f_lastNow f_states X) ∧ Q r w0 w1 w2 w3 w4 w5) := by
  refine CtI.of (by decide) rfl (Nat.le_of_ble_eq_true rfl) ?_
  intro p e s m args below meth c A Z E hret ls hl hw
  have E : gE p m c cX10_step 3 s args RX10 D [(cI, .int), (cZ, .boolean)] A := E
  have hx := E.1.1
  have hb := E.1.2.1
  have hl : lv_has ls 3 [(0, .ref (ad 23)), (1, .int p1)] := hl
  have L26 : ∀ (n : Nat) (x2 : Int32) (f_book : Nat → Int32) (f_doings : Int32) (f_known : Int32) (f_page : Nat → Int32) (f_thrown : Int32) (f_worth : Nat → Int32) (H : Heap) (locs : List Loc) (ls : Array Slot), wp_X10_step_h26 f_clock f_gates f_kind f_second f_source p1 Q  n x2 f_book f_doings f_known f_page f_thrown f_worth → gW D s A (wM ad cI cZ f_thrown f_text f_textSize f_place f_chips f_gates f_kind f_source f_second f_clock f_readChips f_readPins f_readGates f_readKind f_readLies f_readSource f_readSecond f_readClock f_page f_trial f_book f_doings f_kept f_isKept f_seen f_seenBehind f_seenGate f_seenWorth f_seenWas f_seed f_worth f_known f_hand f_goes f_takes f_crossed f_last f_lastNow f_states X) H locs → lv_has ls 3 [(0, .ref (ad 23)), (1, .int p1), (2, .int x2)] → W p l e ({ frames := 3, cells := 0, slots := 0, locals := 70 } : Room) s m args below meth c H locs 0 0 Z (F0 m 26 ls []) := by
    intro n
    induction n with
    | zero => intro x2 f_book f_doings f_known f_page f_thrown f_worth H locs ls h; exact False.elim h
    | succ n26 ih26 =>
      intro x2 f_book f_doings f_known f_page f_thrown f_worth H locs ls h hw hl
      have h : wp_X10_step_b26 f_clock f_gates f_kind f_second f_source p1 Q (wp_X10_step_h26 f_clock f_gates f_kind f_second f_source p1 Q  n26) x2 f_book f_doings f_known f_page f_thrown f_worth := h
      unfold wp_X10_step_b26 at h
      refine lv_iload_n hx hb dX10_step_26 rfl (lv_at hl 2 rfl) ?_
      refine lv_iload_n hx hb dX10_step_27 rfl (lv_at hl 1 rfl) ?_
      refine lv_icmp_ge (tgt := 47) hx hb dX10_step_28 (by decide) (fun c1 => ?_) (fun c1 => ?_)
      · have h := h.1 c1
        refine lv_aload_n hx hb dX10_step_47 rfl (lv_at hl 0 rfl) ?_
        refine gM_X10_44_main E hw dX10_step_48 ?_
        refine lv_bipush (v := 21) hx hb dX10_step_51 (by decide) ?_
        refine lM_page E hw h.1 dX10_step_53 ?_
        have h := h.2
        exact hret _ _ _ _ _ _ ⟨_, _, _, _, _, _, rfl, h⟩ hw dX10_step_54
      · have h := h.2 c1
        refine lv_aload_n hx hb dX10_step_31 rfl (lv_at hl 0 rfl) ?_
        refine lv_aload_n hx hb dX10_step_32 rfl (lv_at hl 0 rfl) ?_
        refine gM_X10_44_main E hw dX10_step_33 ?_
        refine lv_bipush (v := -9) hx hb dX10_step_36 (by decide) ?_
        refine g_aV E hw (g_rV E hw (c_X10_stepOn_page h _) ym_X10_stepOn k_697 ⟨rfl, rfl⟩ ⟨Nat.le_of_ble_eq_true rfl, Nat.le_of_ble_eq_true rfl⟩ 23 rfl rfl rfl rfl hl.1 rfl (Nat.le_of_ble_eq_true rfl) ⟨Nat.zero_le _, Nat.zero_le _⟩ dX10_step_38) (fun u H locs hq hw => ?_)
        obtain ⟨y3, y4, y5, hu, h⟩ := hq
        rw [hu] at hw
        obtain ⟨v6, ev6⟩ : ∃ y : Int32, y = x2 + 1 := ⟨_, rfl⟩
        have h := h v6 ev6
        refine lv_iinc (v := v6) (lv' := [(2, .int v6), (0, .ref (ad 23)), (1, .int p1)]) hx hb dX10_step_41 hl (k := 2) rfl (by rw [ev6]; rfl) (by decide) rfl (fun ls hl => ?_)
        refine lv_goto (tgt := 26) hx hb dX10_step_44 (by decide) ?_
        exact ih26 v6 f_book f_doings y3 y5 f_thrown y4 _ _ _ h hw (lv_sub hl [1, 2, 0] rfl)
  unfold wp_X10_step at h
  refine lv_aload_n hx hb dX10_step_0 rfl (lv_at hl 0 rfl) ?_
  refine lv_iconst (v := 0) hx hb dX10_step_1 (by decide) ?_
  refine pM_X10_84_main E hw dX10_step_2 (fun H locs hw => ?_)
  refine lv_iload_n hx hb dX10_step_5 rfl (lv_at hl 1 rfl) ?_
  refine lv_i2l hx hb dX10_step_6 rfl ?_
  refine lv_lconst (v := 1) hx hb dX10_step_7 (by decide) ?_
  refine lv_ldc2 (v := 99) hx hb E.1.2.2.2.1 (E.1.2.2.2.2 _ k_693) dX10_step_8 ?_
  refine g_aI E hw (g_rS E hw (c_X10_in h _) ym_X10_in k_632 ⟨rfl, rfl⟩ ⟨Nat.le_of_ble_eq_true rfl, Nat.le_of_ble_eq_true rfl⟩ rfl hl.1 rfl (Nat.le_of_ble_eq_true rfl) ⟨Nat.zero_le _, Nat.zero_le _⟩ dX10_step_11) (fun r7 u H locs hq hw => ?_)
  obtain ⟨hu, h⟩ := hq
  rw [hu] at hw
  refine lv_if_ne (tgt := 20) hx hb dX10_step_14 (by decide) (fun c8 => ?_) (fun c8 => ?_)
  · have h := h.1 c8
    refine lv_aload_n hx hb dX10_step_20 rfl (lv_at hl 0 rfl) ?_
    refine g_aV E hw (g_rV E hw (c_X10_note h _) ym_X10_note k_694 ⟨rfl, rfl⟩ ⟨Nat.le_of_ble_eq_true rfl, Nat.le_of_ble_eq_true rfl⟩ 23 rfl rfl rfl rfl hl.1 rfl (Nat.le_of_ble_eq_true rfl) ⟨Nat.zero_le _, Nat.zero_le _⟩ dX10_step_21) (fun u H locs hq hw => ?_)
    obtain ⟨y10, y11, hu, h⟩ := hq
    rw [hu] at hw
    refine lv_iconst (v := 0) hx hb dX10_step_24 (by decide) ?_
    refine lv_istore_n (lv' := [(2, .int (0 : Int32)), (0, .ref (ad 23)), (1, .int p1)]) hx hb dX10_step_25 rfl hl (by decide) rfl (fun ls hl => ?_)
    obtain ⟨n, h⟩ := h
    exact L26 n (0 : Int32) y10 y11 f_known f_page (0 : Int32) f_worth _ _ _ h hw (lv_sub hl [1, 2, 0] rfl)
  · have h := h.2 c8
    refine lv_bipush (v := -2) hx hb dX10_step_17 (by decide) ?_
    exact hret _ _ _ _ _ _ ⟨_, _, _, _, _, _, rfl, h⟩ hw dX10_step_19
set_option maxRecDepth 100000 in
set_option maxHeartbeats 4000000 in
theorem c_X10_input {l : Launch} {D : va_G} {cI cZ : ClassId} {ad : Nat → Nat} {f_thrown : Int32} {f_text : Nat → Int32} {f_textSize : Int32} {f_place : Int32} {f_chips : Int32} {f_gates : Int32} {f_kind : Nat → Int32} {f_source : Nat → Int32} {f_second : Nat → Int32} {f_clock : Nat → Int32} {f_readChips : Int32} {f_readPins : Int32} {f_readGates : Int32} {f_readKind : Nat → Int32} {f_readLies : Nat → Int32} {f_readSource : Nat → Int32} {f_readSecond : Nat → Int32} {f_readClock : Nat → Int32} {f_page : Nat → Int32} {f_trial : Nat → Int32} {f_book : Nat → Int32} {f_doings : Int32} {f_kept : Nat → Int32} {f_isKept : Nat → Int32} {f_seen : Int32} {f_seenBehind : Nat → Int32} {f_seenGate : Nat → Int32} {f_seenWorth : Nat → Int32} {f_seenWas : Nat → Int32} {f_seed : Int64} {f_worth : Nat → Int32} {f_known : Int32} {f_hand : Nat → Int32} {f_goes : Nat → Int32} {f_takes : Int32} {f_crossed : Int32} {f_last : Int32} {f_lastNow : Int32} {f_states : Nat → Int32} {X : va_W} {p1 : Int32} {p2 : Int32} {Q : Int32 → (Nat → Int32) → Int32 → (Nat → Int32) → Int32 → Prop} (h : wp_X10_input f_book f_doings f_gates f_kind f_page f_thrown p1 p2 Q) : CtI l yX10_input cX10_input 4 (some .int) ({ frames := 2, cells := 0, slots := 0, locals := 46 } : Room) D [(cI, .int), (cZ, .boolean)] [.ref (ad 23), .int p1, .int p2] (wM ad cI cZ f_thrown f_text f_textSize f_place f_chips f_gates f_kind f_source f_second f_clock f_readChips f_readPins f_readGates f_readKind f_readLies f_readSource f_readSecond f_readClock f_page f_trial f_book f_doings f_kept f_isKept f_seen f_seenBehind f_seenGate f_seenWorth f_seenWas f_seed f_worth f_known f_hand f_goes f_takes f_crossed f_last f_lastNow f_states X) (fun r u => ∃ w0 w1 w2 w3, u = (wM ad cI cZ w3 f_text f_textSize f_place f_chips f_gates f_kind f_source f_second f_clock f_readChips f_readPins f_readGates f_readKind f_readLies f_readSource f_readSecond f_readClock w2 f_trial w0 w1 f_kept f_isKept f_seen f_seenBehind f_seenGate f_seenWorth f_seenWas f_seed f_worth f_known f_hand f_goes f_takes f_crossed f_last f_lastNow f_states X) ∧ Q r w0 w1 w2 w3) := by
  refine CtI.of (by decide) rfl (Nat.le_of_ble_eq_true rfl) ?_
  intro p e s m args below meth c A Z E hret ls hl hw
  have E : gE p m c cX10_input 4 s args RX10 D [(cI, .int), (cZ, .boolean)] A := E
  have hx := E.1.1
  have hb := E.1.2.1
  have hl : lv_has ls 4 [(0, .ref (ad 23)), (1, .int p1), (2, .int p2)] := hl
  unfold wp_X10_input at h
  refine lv_aload_n hx hb dX10_input_0 rfl (lv_at hl 0 rfl) ?_
  refine lv_iconst (v := 0) hx hb dX10_input_1 (by decide) ?_
  refine pM_X10_84_main E hw dX10_input_2 (fun H locs hw => ?_)
  refine lv_aload_n hx hb dX10_input_5 rfl (lv_at hl 0 rfl) ?_
  refine lv_iload_n hx hb dX10_input_6 rfl (lv_at hl 1 rfl) ?_
  refine g_aI E hw (g_rV E hw (c_X10_noGate h _) ym_X10_noGate k_668 ⟨rfl, rfl⟩ ⟨Nat.le_of_ble_eq_true rfl, Nat.le_of_ble_eq_true rfl⟩ 23 rfl rfl rfl rfl hl.1 rfl (Nat.le_of_ble_eq_true rfl) ⟨Nat.zero_le _, Nat.zero_le _⟩ dX10_input_7) (fun r1 u H locs hq hw => ?_)
  obtain ⟨hu, h⟩ := hq
  rw [hu] at hw
  refine lv_if_eq (tgt := 15) hx hb dX10_input_10 (by decide) (fun c2 => ?_) (fun c2 => ?_)
  · have h := h.1 c2
    refine lv_aload_n hx hb dX10_input_15 rfl (lv_at hl 0 rfl) ?_
    refine gM_X10_17_main E hw dX10_input_16 ?_
    refine lv_iload_n hx hb dX10_input_19 rfl (lv_at hl 1 rfl) ?_
    refine lM_kind E hw h.1 dX10_input_20 ?_
    have h := h.2
    refine lv_if_eq (tgt := 27) hx hb dX10_input_21 (by decide) (fun c3 => ?_) (fun c3 => ?_)
    · have h := h.1 c3
      refine lv_iload_n hx hb dX10_input_27 rfl (lv_at hl 2 rfl) ?_
      refine lv_i2l hx hb dX10_input_28 rfl ?_
      refine lv_lconst (v := 0) hx hb dX10_input_29 (by decide) ?_
      refine lv_ldc2 (v := 2) hx hb E.1.2.2.2.1 (E.1.2.2.2.2 _ k_658) dX10_input_30 ?_
      refine g_aI E hw (g_rS E hw (c_X10_in h _) ym_X10_in k_632 ⟨rfl, rfl⟩ ⟨Nat.le_of_ble_eq_true rfl, Nat.le_of_ble_eq_true rfl⟩ rfl hl.1 rfl (Nat.le_of_ble_eq_true rfl) ⟨Nat.zero_le _, Nat.zero_le _⟩ dX10_input_33) (fun r4 u H locs hq hw => ?_)
      obtain ⟨hu, h⟩ := hq
      rw [hu] at hw
      refine lv_if_ne (tgt := 42) hx hb dX10_input_36 (by decide) (fun c5 => ?_) (fun c5 => ?_)
      · have h := h.1 c5
        refine lv_aload_n hx hb dX10_input_42 rfl (lv_at hl 0 rfl) ?_
        refine g_aV E hw (g_rV E hw (c_X10_note h _) ym_X10_note k_694 ⟨rfl, rfl⟩ ⟨Nat.le_of_ble_eq_true rfl, Nat.le_of_ble_eq_true rfl⟩ 23 rfl rfl rfl rfl hl.1 rfl (Nat.le_of_ble_eq_true rfl) ⟨Nat.zero_le _, Nat.zero_le _⟩ dX10_input_43) (fun u H locs hq hw => ?_)
        obtain ⟨y7, y8, hu, h⟩ := hq
        rw [hu] at hw
        refine lv_aload_n hx hb dX10_input_46 rfl (lv_at hl 0 rfl) ?_
        refine gM_X10_44_main E hw dX10_input_47 ?_
        refine lv_iload_n hx hb dX10_input_50 rfl (lv_at hl 1 rfl) ?_
        refine lM_page E hw h.1 dX10_input_51 ?_
        have h := h.2
        refine lv_topi (fun v9 ev9 => ?_)
        have h := h v9 ev9
        refine lv_istore_n (lv' := [(3, .int v9), (0, .ref (ad 23)), (1, .int p1), (2, .int p2)]) hx hb dX10_input_52 rfl hl (by decide) rfl (fun ls hl => ?_)
        refine lv_aload_n hx hb dX10_input_53 rfl (lv_at hl 1 rfl) ?_
        refine gM_X10_44_main E hw dX10_input_54 ?_
        refine lv_iload_n hx hb dX10_input_57 rfl (lv_at hl 2 rfl) ?_
        refine lv_iload_n hx hb dX10_input_58 rfl (lv_at hl 3 rfl) ?_
        refine sM_page E hw h.1 dX10_input_59 (fun y10 ey10 H locs hw => ?_)
        have h := h.2 y10 ey10
        refine lv_iload_n hx hb dX10_input_60 rfl (lv_at hl 0 rfl) ?_
        exact hret _ _ _ _ _ _ ⟨_, _, _, _, rfl, h⟩ hw dX10_input_61
      · have h := h.2 c5
        refine lv_bipush (v := -2) hx hb dX10_input_39 (by decide) ?_
        exact hret _ _ _ _ _ _ ⟨_, _, _, _, rfl, h⟩ hw dX10_input_41
    · have h := h.2 c3
      refine lv_bipush (v := -3) hx hb dX10_input_24 (by decide) ?_
      exact hret _ _ _ _ _ _ ⟨_, _, _, _, rfl, h⟩ hw dX10_input_26
  · have h := h.2 c2
    refine lv_iconst (v := -1) hx hb dX10_input_13 (by decide) ?_
    exact hret _ _ _ _ _ _ ⟨_, _, _, _, rfl, h⟩ hw dX10_input_14
set_option maxRecDepth 100000 in
set_option maxHeartbeats 4000000 in
theorem c_X10_lay {l : Launch} {D : va_G} {cI cZ : ClassId} {ad : Nat → Nat} {f_thrown : Int32} {f_text : Nat → Int32} {f_textSize : Int32} {f_place : Int32} {f_chips : Int32} {f_gates : Int32} {f_kind : Nat → Int32} {f_source : Nat → Int32} {f_second : Nat → Int32} {f_clock : Nat → Int32} {f_readChips : Int32} {f_readPins : Int32} {f_readGates : Int32} {f_readKind : Nat → Int32} {f_readLies : Nat → Int32} {f_readSource : Nat → Int32} {f_readSecond : Nat → Int32} {f_readClock : Nat → Int32} {f_page : Nat → Int32} {f_trial : Nat → Int32} {f_book : Nat → Int32} {f_doings : Int32} {f_kept : Nat → Int32} {f_isKept : Nat → Int32} {f_seen : Int32} {f_seenBehind : Nat → Int32} {f_seenGate : Nat → Int32} {f_seenWorth : Nat → Int32} {f_seenWas : Nat → Int32} {f_seed : Int64} {f_worth : Nat → Int32} {f_known : Int32} {f_hand : Nat → Int32} {f_goes : Nat → Int32} {f_takes : Int32} {f_crossed : Int32} {f_last : Int32} {f_lastNow : Int32} {f_states : Nat → Int32} {X : va_W} {p1 : Int32} {p2 : Int32} {Q : Int32 → (Nat → Int32) → Int32 → (Nat → Int32) → Int32 → Prop} (h : wp_X10_lay f_book f_chips f_doings f_gates f_page f_thrown p1 p2 Q) : CtI l yX10_lay cX10_lay 4 (some .int) ({ frames := 2, cells := 0, slots := 0, locals := 46 } : Room) D [(cI, .int), (cZ, .boolean)] [.ref (ad 23), .int p1, .int p2] (wM ad cI cZ f_thrown f_text f_textSize f_place f_chips f_gates f_kind f_source f_second f_clock f_readChips f_readPins f_readGates f_readKind f_readLies f_readSource f_readSecond f_readClock f_page f_trial f_book f_doings f_kept f_isKept f_seen f_seenBehind f_seenGate f_seenWorth f_seenWas f_seed f_worth f_known f_hand f_goes f_takes f_crossed f_last f_lastNow f_states X) (fun r u => ∃ w0 w1 w2 w3, u = (wM ad cI cZ w3 f_text f_textSize f_place f_chips f_gates f_kind f_source f_second f_clock f_readChips f_readPins f_readGates f_readKind f_readLies f_readSource f_readSecond f_readClock w2 f_trial w0 w1 f_kept f_isKept f_seen f_seenBehind f_seenGate f_seenWorth f_seenWas f_seed f_worth f_known f_hand f_goes f_takes f_crossed f_last f_lastNow f_states X) ∧ Q r w0 w1 w2 w3) := by
  refine CtI.of (by decide) rfl (Nat.le_of_ble_eq_true rfl) ?_
  intro p e s m args below meth c A Z E hret ls hl hw
  have E : gE p m c cX10_lay 4 s args RX10 D [(cI, .int), (cZ, .boolean)] A := E
  have hx := E.1.1
  have hb := E.1.2.1
  have hl : lv_has ls 4 [(0, .ref (ad 23)), (1, .int p1), (2, .int p2)] := hl
  unfold wp_X10_lay at h
  refine lv_aload_n hx hb dX10_lay_0 rfl (lv_at hl 0 rfl) ?_
  refine lv_iconst (v := 0) hx hb dX10_lay_1 (by decide) ?_
  refine pM_X10_84_main E hw dX10_lay_2 (fun H locs hw => ?_)
  refine lv_aload_n hx hb dX10_lay_5 rfl (lv_at hl 0 rfl) ?_
  refine lv_iload_n hx hb dX10_lay_6 rfl (lv_at hl 1 rfl) ?_
  refine g_aI E hw (g_rV E hw (c_X10_noGate h _) ym_X10_noGate k_668 ⟨rfl, rfl⟩ ⟨Nat.le_of_ble_eq_true rfl, Nat.le_of_ble_eq_true rfl⟩ 23 rfl rfl rfl rfl hl.1 rfl (Nat.le_of_ble_eq_true rfl) ⟨Nat.zero_le _, Nat.zero_le _⟩ dX10_lay_7) (fun r1 u H locs hq hw => ?_)
  obtain ⟨hu, h⟩ := hq
  rw [hu] at hw
  refine lv_if_ne (tgt := 21) hx hb dX10_lay_10 (by decide) (fun c2 => ?_) (fun c2 => ?_)
  · have h := h.1 c2
    refine lv_iconst (v := -1) hx hb dX10_lay_21 (by decide) ?_
    exact hret _ _ _ _ _ _ ⟨_, _, _, _, rfl, h⟩ hw dX10_lay_22
  · have h := h.2 c2
    refine lv_aload_n hx hb dX10_lay_13 rfl (lv_at hl 0 rfl) ?_
    refine lv_iload_n hx hb dX10_lay_14 rfl (lv_at hl 2 rfl) ?_
    refine g_aI E hw (g_rV E hw (c_X10_noChip h _) ym_X10_noChip k_708 ⟨rfl, rfl⟩ ⟨Nat.le_of_ble_eq_true rfl, Nat.le_of_ble_eq_true rfl⟩ 23 rfl rfl rfl rfl hl.1 rfl (Nat.le_of_ble_eq_true rfl) ⟨Nat.zero_le _, Nat.zero_le _⟩ dX10_lay_15) (fun r3 u H locs hq hw => ?_)
    obtain ⟨hu, h⟩ := hq
    rw [hu] at hw
    refine lv_if_eq (tgt := 23) hx hb dX10_lay_18 (by decide) (fun c4 => ?_) (fun c4 => ?_)
    · have h := h.1 c4
      refine lv_aload_n hx hb dX10_lay_23 rfl (lv_at hl 0 rfl) ?_
      refine gM_X10_44_main E hw dX10_lay_24 ?_
      refine lv_bipush (v := 10) hx hb dX10_lay_27 (by decide) ?_
      refine lv_iload_n hx hb dX10_lay_29 rfl (lv_at hl 1 rfl) ?_
      refine lv_iadd hx hb dX10_lay_30 ?_
      refine lM_page E hw h.1 dX10_lay_31 ?_
      have h := h.2
      refine lv_iload_n hx hb dX10_lay_32 rfl (lv_at hl 2 rfl) ?_
      refine lv_icmp_ne (tgt := 39) hx hb dX10_lay_33 (by decide) (fun c5 => ?_) (fun c5 => ?_)
      · have h := h.1 c5
        refine lv_aload_n hx hb dX10_lay_39 rfl (lv_at hl 0 rfl) ?_
        refine g_aV E hw (g_rV E hw (c_X10_note h _) ym_X10_note k_694 ⟨rfl, rfl⟩ ⟨Nat.le_of_ble_eq_true rfl, Nat.le_of_ble_eq_true rfl⟩ 23 rfl rfl rfl rfl hl.1 rfl (Nat.le_of_ble_eq_true rfl) ⟨Nat.zero_le _, Nat.zero_le _⟩ dX10_lay_40) (fun u H locs hq hw => ?_)
        obtain ⟨y7, y8, hu, h⟩ := hq
        rw [hu] at hw
        refine lv_aload_n hx hb dX10_lay_43 rfl (lv_at hl 0 rfl) ?_
        refine gM_X10_44_main E hw dX10_lay_44 ?_
        refine lv_bipush (v := 10) hx hb dX10_lay_47 (by decide) ?_
        refine lv_iload_n hx hb dX10_lay_49 rfl (lv_at hl 1 rfl) ?_
        refine lv_iadd hx hb dX10_lay_50 ?_
        refine lM_page E hw h.1 dX10_lay_51 ?_
        have h := h.2
        refine lv_topi (fun v9 ev9 => ?_)
        have h := h v9 ev9
        refine lv_istore_n (lv' := [(3, .int v9), (0, .ref (ad 23)), (1, .int p1), (2, .int p2)]) hx hb dX10_lay_52 rfl hl (by decide) rfl (fun ls hl => ?_)
        refine lv_aload_n hx hb dX10_lay_53 rfl (lv_at hl 1 rfl) ?_
        refine gM_X10_44_main E hw dX10_lay_54 ?_
        refine lv_bipush (v := 10) hx hb dX10_lay_57 (by decide) ?_
        refine lv_iload_n hx hb dX10_lay_59 rfl (lv_at hl 2 rfl) ?_
        refine lv_iadd hx hb dX10_lay_60 ?_
        refine lv_iload_n hx hb dX10_lay_61 rfl (lv_at hl 3 rfl) ?_
        refine sM_page E hw h.1 dX10_lay_62 (fun y10 ey10 H locs hw => ?_)
        have h := h.2 y10 ey10
        refine lv_iload_n hx hb dX10_lay_63 rfl (lv_at hl 0 rfl) ?_
        exact hret _ _ _ _ _ _ ⟨_, _, _, _, rfl, h⟩ hw dX10_lay_64
      · have h := h.2 c5
        refine lv_bipush (v := -3) hx hb dX10_lay_36 (by decide) ?_
        exact hret _ _ _ _ _ _ ⟨_, _, _, _, rfl, h⟩ hw dX10_lay_38
    · have h := h.2 c4
      refine lv_iconst (v := -1) hx hb dX10_lay_21 (by decide) ?_
      exact hret _ _ _ _ _ _ ⟨_, _, _, _, rfl, h⟩ hw dX10_lay_22
set_option maxRecDepth 100000 in
set_option maxHeartbeats 4000000 in
theorem c_X10_pins {l : Launch} {D : va_G} {cI cZ : ClassId} {ad : Nat → Nat} {f_thrown : Int32} {f_text : Nat → Int32} {f_textSize : Int32} {f_place : Int32} {f_chips : Int32} {f_gates : Int32} {f_kind : Nat → Int32} {f_source : Nat → Int32} {f_second : Nat → Int32} {f_clock : Nat → Int32} {f_readChips : Int32} {f_readPins : Int32} {f_readGates : Int32} {f_readKind : Nat → Int32} {f_readLies : Nat → Int32} {f_readSource : Nat → Int32} {f_readSecond : Nat → Int32} {f_readClock : Nat → Int32} {f_page : Nat → Int32} {f_trial : Nat → Int32} {f_book : Nat → Int32} {f_doings : Int32} {f_kept : Nat → Int32} {f_isKept : Nat → Int32} {f_seen : Int32} {f_seenBehind : Nat → Int32} {f_seenGate : Nat → Int32} {f_seenWorth : Nat → Int32} {f_seenWas : Nat → Int32} {f_seed : Int64} {f_worth : Nat → Int32} {f_known : Int32} {f_hand : Nat → Int32} {f_goes : Nat → Int32} {f_takes : Int32} {f_crossed : Int32} {f_last : Int32} {f_lastNow : Int32} {f_states : Nat → Int32} {X : va_W} {p1 : Int32} {Q : Int32 → (Nat → Int32) → Int32 → (Nat → Int32) → Int32 → Prop} (h : wp_X10_pins f_book f_doings f_page f_thrown p1 Q) : CtI l yX10_pins cX10_pins 3 (some .int) ({ frames := 1, cells := 0, slots := 0, locals := 25 } : Room) D [(cI, .int), (cZ, .boolean)] [.ref (ad 23), .int p1] (wM ad cI cZ f_thrown f_text f_textSize f_place f_chips f_gates f_kind f_source f_second f_clock f_readChips f_readPins f_readGates f_readKind f_readLies f_readSource f_readSecond f_readClock f_page f_trial f_book f_doings f_kept f_isKept f_seen f_seenBehind f_seenGate f_seenWorth f_seenWas f_seed f_worth f_known f_hand f_goes f_takes f_crossed f_last f_lastNow f_states X) (fun r u => ∃ w0 w1 w2 w3, u = (wM ad cI cZ w3 f_text f_textSize f_place f_chips f_gates f_kind f_source f_second f_clock f_readChips f_readPins f_readGates f_readKind f_readLies f_readSource f_readSecond f_readClock w2 f_trial w0 w1 f_kept f_isKept f_seen f_seenBehind f_seenGate f_seenWorth f_seenWas f_seed f_worth f_known f_hand f_goes f_takes f_crossed f_last f_lastNow f_states X) ∧ Q r w0 w1 w2 w3) := by
  refine CtI.of (by decide) rfl (Nat.le_of_ble_eq_true rfl) ?_
  intro p e s m args below meth c A Z E hret ls hl hw
  have E : gE p m c cX10_pins 3 s args RX10 D [(cI, .int), (cZ, .boolean)] A := E
  have hx := E.1.1
  have hb := E.1.2.1
  have hl : lv_has ls 3 [(0, .ref (ad 23)), (1, .int p1)] := hl
  unfold wp_X10_pins at h
  refine lv_aload_n hx hb dX10_pins_0 rfl (lv_at hl 0 rfl) ?_
  refine lv_iconst (v := 0) hx hb dX10_pins_1 (by decide) ?_
  refine pM_X10_84_main E hw dX10_pins_2 (fun H locs hw => ?_)
  refine lv_iload_n hx hb dX10_pins_5 rfl (lv_at hl 1 rfl) ?_
  refine lv_i2l hx hb dX10_pins_6 rfl ?_
  refine lv_lconst (v := 1) hx hb dX10_pins_7 (by decide) ?_
  refine lv_ldc2 (v := 9) hx hb E.1.2.2.2.1 (E.1.2.2.2.2 _ k_715) dX10_pins_8 ?_
  refine g_aI E hw (g_rS E hw (c_X10_in h _) ym_X10_in k_632 ⟨rfl, rfl⟩ ⟨Nat.le_of_ble_eq_true rfl, Nat.le_of_ble_eq_true rfl⟩ rfl hl.1 rfl (Nat.le_of_ble_eq_true rfl) ⟨Nat.zero_le _, Nat.zero_le _⟩ dX10_pins_11) (fun r1 u H locs hq hw => ?_)
  obtain ⟨hu, h⟩ := hq
  rw [hu] at hw
  refine lv_if_ne (tgt := 20) hx hb dX10_pins_14 (by decide) (fun c2 => ?_) (fun c2 => ?_)
  · have h := h.1 c2
    refine lv_aload_n hx hb dX10_pins_20 rfl (lv_at hl 0 rfl) ?_
    refine g_aV E hw (g_rV E hw (c_X10_note h _) ym_X10_note k_694 ⟨rfl, rfl⟩ ⟨Nat.le_of_ble_eq_true rfl, Nat.le_of_ble_eq_true rfl⟩ 23 rfl rfl rfl rfl hl.1 rfl (Nat.le_of_ble_eq_true rfl) ⟨Nat.zero_le _, Nat.zero_le _⟩ dX10_pins_21) (fun u H locs hq hw => ?_)
    obtain ⟨y4, y5, hu, h⟩ := hq
    rw [hu] at hw
    refine lv_aload_n hx hb dX10_pins_24 rfl (lv_at hl 0 rfl) ?_
    refine gM_X10_44_main E hw dX10_pins_25 ?_
    refine lv_bipush (v := 20) hx hb dX10_pins_28 (by decide) ?_
    refine lM_page E hw h.1 dX10_pins_30 ?_
    have h := h.2
    refine lv_topi (fun v6 ev6 => ?_)
    have h := h v6 ev6
    refine lv_istore_n (lv' := [(2, .int v6), (0, .ref (ad 23)), (1, .int p1)]) hx hb dX10_pins_31 rfl hl (by decide) rfl (fun ls hl => ?_)
    refine lv_aload_n hx hb dX10_pins_32 rfl (lv_at hl 1 rfl) ?_
    refine gM_X10_44_main E hw dX10_pins_33 ?_
    refine lv_bipush (v := 20) hx hb dX10_pins_36 (by decide) ?_
    refine lv_iload_n hx hb dX10_pins_38 rfl (lv_at hl 2 rfl) ?_
    refine sM_page E hw h.1 dX10_pins_39 (fun y7 ey7 H locs hw => ?_)
    have h := h.2 y7 ey7
    refine lv_iload_n hx hb dX10_pins_40 rfl (lv_at hl 0 rfl) ?_
    exact hret _ _ _ _ _ _ ⟨_, _, _, _, rfl, h⟩ hw dX10_pins_41
  · have h := h.2 c2
    refine lv_bipush (v := -2) hx hb dX10_pins_17 (by decide) ?_
    exact hret _ _ _ _ _ _ ⟨_, _, _, _, rfl, h⟩ hw dX10_pins_19
set_option maxRecDepth 100000 in
set_option maxHeartbeats 4000000 in
theorem c_X10_undo {l : Launch} {D : va_G} {cI cZ : ClassId} {ad : Nat → Nat} {f_thrown : Int32} {f_text : Nat → Int32} {f_textSize : Int32} {f_place : Int32} {f_chips : Int32} {f_gates : Int32} {f_kind : Nat → Int32} {f_source : Nat → Int32} {f_second : Nat → Int32} {f_clock : Nat → Int32} {f_readChips : Int32} {f_readPins : Int32} {f_readGates : Int32} {f_readKind : Nat → Int32} {f_readLies : Nat → Int32} {f_readSource : Nat → Int32} {f_readSecond : Nat → Int32} {f_readClock : Nat → Int32} {f_page : Nat → Int32} {f_trial : Nat → Int32} {f_book : Nat → Int32} {f_doings : Int32} {f_kept : Nat → Int32} {f_isKept : Nat → Int32} {f_seen : Int32} {f_seenBehind : Nat → Int32} {f_seenGate : Nat → Int32} {f_seenWorth : Nat → Int32} {f_seenWas : Nat → Int32} {f_seed : Int64} {f_worth : Nat → Int32} {f_known : Int32} {f_hand : Nat → Int32} {f_goes : Nat → Int32} {f_takes : Int32} {f_crossed : Int32} {f_last : Int32} {f_lastNow : Int32} {f_states : Nat → Int32} {X : va_W} {Q : Int32 → Int32 → (Nat → Int32) → Int32 → Prop} (h : wp_X10_undo f_book f_doings f_page f_thrown Q) : CtI l yX10_undo cX10_undo 2 (some .int) ({ frames := 0, cells := 0, slots := 0, locals := 0 } : Room) D [(cI, .int), (cZ, .boolean)] [.ref (ad 23)] (wM ad cI cZ f_thrown f_text f_textSize f_place f_chips f_gates f_kind f_source f_second f_clock f_readChips f_readPins f_readGates f_readKind f_readLies f_readSource f_readSecond f_readClock f_page f_trial f_book f_doings f_kept f_isKept f_seen f_seenBehind f_seenGate f_seenWorth f_seenWas f_seed f_worth f_known f_hand f_goes f_takes f_crossed f_last f_lastNow f_states X) (fun r u => ∃ w0 w1 w2, u = (wM ad cI cZ w2 f_text f_textSize f_place f_chips f_gates f_kind f_source f_second f_clock f_readChips f_readPins f_readGates f_readKind f_readLies f_readSource f_readSecond f_readClock w1 f_trial f_book w0 f_kept f_isKept f_seen f_seenBehind f_seenGate f_seenWorth f_seenWas f_seed f_worth f_known f_hand f_goes f_takes f_crossed f_last f_lastNow f_states X) ∧ Q r w0 w1 w2) := by
  refine CtI.of (by decide) rfl (Nat.le_of_ble_eq_true rfl) ?_
  intro p e s m args below meth c A Z E hret ls hl hw
  have E : gE p m c cX10_undo 2 s args RX10 D [(cI, .int), (cZ, .boolean)] A := E
  have hx := E.1.1
  have hb := E.1.2.1
  have hl : lv_has ls 2 [(0, .ref (ad 23))] := hl
  have L27 : ∀ (n : Nat) (x1 : Int32) (f_doings : Int32) (f_page : Nat → Int32) (f_thrown : Int32) (H : Heap) (locs : List Loc) (ls : Array Slot), wp_X10_undo_h27 f_book Q  n x1 f_doings f_page f_thrown → gW D s A (wM ad cI cZ f_thrown f_text f_textSize f_place f_chips f_gates f_kind f_source f_second f_clock f_readChips f_readPins f_readGates f_readKind f_readLies f_readSource f_readSecond f_readClock f_page f_trial f_book f_doings f_kept f_isKept f_seen f_seenBehind f_seenGate f_seenWorth f_seenWas f_seed f_worth f_known f_hand f_goes f_takes f_crossed f_last f_lastNow f_states X) H locs → lv_has ls 2 [(0, .ref (ad 23)), (1, .int x1)] → W p l e ({ frames := 0, cells := 0, slots := 0, locals := 0 } : Room) s m args below meth c H locs 0 0 Z (F0 m 27 ls []) := by
    intro n
    induction n with
    | zero => intro x1 f_doings f_page f_thrown H locs ls h; exact False.elim h
    | succ n27 ih27 =>
      intro x1 f_doings f_page f_thrown H locs ls h hw hl
      have h : wp_X10_undo_b27 f_book Q (wp_X10_undo_h27 f_book Q  n27) x1 f_doings f_page f_thrown := h
      unfold wp_X10_undo_b27 at h
      refine lv_iload_n hx hb dX10_undo_27 rfl (lv_at hl 1 rfl) ?_
      refine lv_bipush (v := 22) hx hb dX10_undo_28 (by decide) ?_
      refine lv_icmp_ge (tgt := 59) hx hb dX10_undo_30 (by decide) (fun c1 => ?_) (fun c1 => ?_)
      · have h := h.1 c1
        refine lv_aload_n hx hb dX10_undo_59 rfl (lv_at hl 0 rfl) ?_
        refine gM_X10_134_main E hw dX10_undo_60 ?_
        exact hret _ _ _ _ _ _ ⟨_, _, _, rfl, h⟩ hw dX10_undo_63
      · have h := h.2 c1
        refine lv_aload_n hx hb dX10_undo_33 rfl (lv_at hl 0 rfl) ?_
        refine gM_X10_44_main E hw dX10_undo_34 ?_
        refine lv_iload_n hx hb dX10_undo_37 rfl (lv_at hl 1 rfl) ?_
        refine lv_aload_n hx hb dX10_undo_38 rfl (lv_at hl 0 rfl) ?_
        refine gM_X10_50_main E hw dX10_undo_39 ?_
        refine lv_bipush (v := 22) hx hb dX10_undo_42 (by decide) ?_
        refine lv_aload_n hx hb dX10_undo_44 rfl (lv_at hl 0 rfl) ?_
        refine gM_X10_134_main E hw dX10_undo_45 ?_
        refine lv_imul hx hb dX10_undo_48 ?_
        refine lv_iload_n hx hb dX10_undo_49 rfl (lv_at hl 1 rfl) ?_
        refine lv_iadd hx hb dX10_undo_50 ?_
        refine lM_book E hw h.1 dX10_undo_51 ?_
        have h := h.2
        refine lv_topi (fun v2 ev2 => ?_)
        have h := h v2 ev2
        refine sM_page E hw h.1 dX10_undo_52 (fun y3 ey3 H locs hw => ?_)
        have h := h.2 y3 ey3
        obtain ⟨v4, ev4⟩ : ∃ y : Int32, y = x1 + 1 := ⟨_, rfl⟩
        have h := h v4 ev4
        refine lv_iinc (v := v4) (lv' := [(1, .int v4), (0, .ref (ad 23))]) hx hb dX10_undo_53 hl (k := 1) rfl (by rw [ev4]; rfl) (by decide) rfl (fun ls hl => ?_)
        refine lv_goto (tgt := 27) hx hb dX10_undo_56 (by decide) ?_
        exact ih27 v4 f_doings y3 f_thrown _ _ _ h hw (lv_sub hl [1, 0] rfl)
  unfold wp_X10_undo at h
  refine lv_aload_n hx hb dX10_undo_0 rfl (lv_at hl 0 rfl) ?_
  refine lv_iconst (v := 0) hx hb dX10_undo_1 (by decide) ?_
  refine pM_X10_84_main E hw dX10_undo_2 (fun H locs hw => ?_)
  refine lv_aload_n hx hb dX10_undo_5 rfl (lv_at hl 0 rfl) ?_
  refine gM_X10_134_main E hw dX10_undo_6 ?_
  refine lv_if_ne (tgt := 15) hx hb dX10_undo_9 (by decide) (fun c5 => ?_) (fun c5 => ?_)
  · have h := h.1 c5
    refine lv_aload_n hx hb dX10_undo_15 rfl (lv_at hl 0 rfl) ?_
    refine lv_dup hx hb dX10_undo_16 rfl ?_
    refine gM_X10_134_main E hw dX10_undo_17 ?_
    refine lv_iconst (v := 1) hx hb dX10_undo_20 (by decide) ?_
    refine lv_isub hx hb dX10_undo_21 ?_
    refine lv_topi (fun v6 ev6 => ?_)
    have h := h v6 ev6
    refine pM_X10_134_main E hw dX10_undo_22 (fun H locs hw => ?_)
    refine lv_iconst (v := 0) hx hb dX10_undo_25 (by decide) ?_
    refine lv_istore_n (lv' := [(1, .int (0 : Int32)), (0, .ref (ad 23))]) hx hb dX10_undo_26 rfl hl (by decide) rfl (fun ls hl => ?_)
    obtain ⟨n, h⟩ := h
    exact L27 n (0 : Int32) v6 f_page (0 : Int32) _ _ _ h hw (lv_sub hl [1, 0] rfl)
  · have h := h.2 c5
    refine lv_bipush (v := -3) hx hb dX10_undo_12 (by decide) ?_
    exact hret _ _ _ _ _ _ ⟨_, _, _, rfl, h⟩ hw dX10_undo_14
set_option maxRecDepth 100000 in
set_option maxHeartbeats 4000000 in
theorem c_X10_layWorth_trial {l : Launch} {D : va_G} {cI cZ : ClassId} {ad : Nat → Nat} {f_thrown : Int32} {f_text : Nat → Int32} {f_textSize : Int32} {f_place : Int32} {f_chips : Int32} {f_gates : Int32} {f_kind : Nat → Int32} {f_source : Nat → Int32} {f_second : Nat → Int32} {f_clock : Nat → Int32} {f_readChips : Int32} {f_readPins : Int32} {f_readGates : Int32} {f_readKind : Nat → Int32} {f_readLies : Nat → Int32} {f_readSource : Nat → Int32} {f_readSecond : Nat → Int32} {f_readClock : Nat → Int32} {f_page : Nat → Int32} {f_trial : Nat → Int32} {f_book : Nat → Int32} {f_doings : Int32} {f_kept : Nat → Int32} {f_isKept : Nat → Int32} {f_seen : Int32} {f_seenBehind : Nat → Int32} {f_seenGate : Nat → Int32} {f_seenWorth : Nat → Int32} {f_seenWas : Nat → Int32} {f_seed : Int64} {f_worth : Nat → Int32} {f_known : Int32} {f_hand : Nat → Int32} {f_goes : Nat → Int32} {f_takes : Int32} {f_crossed : Int32} {f_last : Int32} {f_lastNow : Int32} {f_states : Nat → Int32} {X : va_W} {p2 : Int32} {Q : Int32 → (Nat → Int32) → Prop} (h : wp_X10_layWorth f_gates f_kind f_known f_second f_source f_worth f_trial p2 Q) : CtV l yX10_layWorth cX10_layWorth 5 none ({ frames := 1, cells := 0, slots := 0, locals := 23 } : Room) D [(cI, .int), (cZ, .boolean)] [.ref (ad 23), .ref (ad 11), .int p2] (wM ad cI cZ f_thrown f_text f_textSize f_place f_chips f_gates f_kind f_source f_second f_clock f_readChips f_readPins f_readGates f_readKind f_readLies f_readSource f_readSecond f_readClock f_page f_trial f_book f_doings f_kept f_isKept f_seen f_seenBehind f_seenGate f_seenWorth f_seenWas f_seed f_worth f_known f_hand f_goes f_takes f_crossed f_last f_lastNow f_states X) (fun  u => ∃ w0 w1, u = (wM ad cI cZ f_thrown f_text f_textSize f_place f_chips f_gates f_kind f_source f_second f_clock f_readChips f_readPins f_readGates f_readKind f_readLies f_readSource f_readSecond f_readClock f_page f_trial f_book f_doings f_kept f_isKept f_seen f_seenBehind f_seenGate f_seenWorth f_seenWas f_seed w1 w0 f_hand f_goes f_takes f_crossed f_last f_lastNow f_states X) ∧ Q w0 w1) := by
  refine CtV.of (by decide) rfl (Nat.le_of_ble_eq_true rfl) ?_
  intro p e s m args below meth c A Z E hret ls hl hw
  have E : gE p m c cX10_layWorth 5 s args RX10 D [(cI, .int), (cZ, .boolean)] A := E
  have hx := E.1.1
  have hb := E.1.2.1
  have hl : lv_has ls 5 [(0, .ref (ad 23)), (1, .ref (ad 11)), (2, .int p2)] := hl
  have L94 : ∀ (n : Nat) (x3 : Int32) (f_known : Int32) (f_worth : Nat → Int32) (H : Heap) (locs : List Loc) (ls : Array Slot), wp_X10_layWorth_h94 f_gates f_kind f_second f_source f_trial p2 Q  n x3 f_known f_worth → gW D s A (wM ad cI cZ f_thrown f_text f_textSize f_place f_chips f_gates f_kind f_source f_second f_clock f_readChips f_readPins f_readGates f_readKind f_readLies f_readSource f_readSecond f_readClock f_page f_trial f_book f_doings f_kept f_isKept f_seen f_seenBehind f_seenGate f_seenWorth f_seenWas f_seed f_worth f_known f_hand f_goes f_takes f_crossed f_last f_lastNow f_states X) H locs → lv_has ls 5 [(0, .ref (ad 23)), (3, .int x3)] → W p l e ({ frames := 1, cells := 0, slots := 0, locals := 23 } : Room) s m args below meth c H locs 0 0 Z (F0 m 94 ls []) := by
    intro n
    induction n with
    | zero => intro x3 f_known f_worth H locs ls h; exact False.elim h
    | succ n94 ih94 =>
      intro x3 f_known f_worth H locs ls h hw hl
      have h : wp_X10_layWorth_b94 f_gates f_kind f_second f_source f_trial p2 Q (wp_X10_layWorth_h94 f_gates f_kind f_second f_source f_trial p2 Q  n94) x3 f_known f_worth := h
      have L105 : ∀ (n : Nat) (x3 : Int32) (x4 : Int32) (f_known : Int32) (f_worth : Nat → Int32) (H : Heap) (locs : List Loc) (ls : Array Slot), wp_X10_layWorth_h105 f_gates f_kind f_second f_source f_trial p2 Q (wp_X10_layWorth_h94 f_gates f_kind f_second f_source f_trial p2 Q  n94) n x3 x4 f_known f_worth → gW D s A (wM ad cI cZ f_thrown f_text f_textSize f_place f_chips f_gates f_kind f_source f_second f_clock f_readChips f_readPins f_readGates f_readKind f_readLies f_readSource f_readSecond f_readClock f_page f_trial f_book f_doings f_kept f_isKept f_seen f_seenBehind f_seenGate f_seenWorth f_seenWas f_seed f_worth f_known f_hand f_goes f_takes f_crossed f_last f_lastNow f_states X) H locs → lv_has ls 5 [(0, .ref (ad 23)), (3, .int x3), (4, .int x4)] → W p l e ({ frames := 1, cells := 0, slots := 0, locals := 23 } : Room) s m args below meth c H locs 0 0 Z (F0 m 105 ls []) := by
        intro n
        induction n with
        | zero => intro x3 x4 f_known f_worth H locs ls h; exact False.elim h
        | succ n105 ih105 =>
          intro x3 x4 f_known f_worth H locs ls h hw hl
          have h : wp_X10_layWorth_b105 f_gates f_kind f_second f_source f_trial p2 Q (wp_X10_layWorth_h94 f_gates f_kind f_second f_source f_trial p2 Q  n94) (wp_X10_layWorth_h105 f_gates f_kind f_second f_source f_trial p2 Q (wp_X10_layWorth_h94 f_gates f_kind f_second f_source f_trial p2 Q  n94) n105) x3 x4 f_known f_worth := h
          have J243 : ∀ (x3 : Int32) (x4 : Int32) (f_known : Int32) (f_worth : Nat → Int32) (H : Heap) (locs : List Loc) (ls : Array Slot), wp_X10_layWorth_b243 f_gates f_kind f_second f_source f_trial p2 Q (wp_X10_layWorth_h94 f_gates f_kind f_second f_source f_trial p2 Q  n94) (wp_X10_layWorth_h105 f_gates f_kind f_second f_source f_trial p2 Q (wp_X10_layWorth_h94 f_gates f_kind f_second f_source f_trial p2 Q  n94) n105) x3 x4 f_known f_worth → gW D s A (wM ad cI cZ f_thrown f_text f_textSize f_place f_chips f_gates f_kind f_source f_second f_clock f_readChips f_readPins f_readGates f_readKind f_readLies f_readSource f_readSecond f_readClock f_page f_trial f_book f_doings f_kept f_isKept f_seen f_seenBehind f_seenGate f_seenWorth f_seenWas f_seed f_worth f_known f_hand f_goes f_takes f_crossed f_last f_lastNow f_states X) H locs → lv_has ls 5 [(0, .ref (ad 23)), (3, .int x3), (4, .int x4)] → W p l e ({ frames := 1, cells := 0, slots := 0, locals := 23 } : Room) s m args below meth c H locs 0 0 Z (F0 m 243 ls []) := by
            intro x3 x4 f_known f_worth H locs ls h hw hl
            unfold wp_X10_layWorth_b243 at h
            obtain ⟨v1, ev1⟩ : ∃ y : Int32, y = x4 + 1 := ⟨_, rfl⟩
            have h := h v1 ev1
            refine lv_iinc (v := v1) (lv' := [(4, .int v1), (0, .ref (ad 23)), (3, .int x3)]) hx hb dX10_layWorth_243 hl (k := 2) rfl (by rw [ev1]; rfl) (by decide) rfl (fun ls hl => ?_)
            refine lv_goto (tgt := 105) hx hb dX10_layWorth_246 (by decide) ?_
            exact ih105 x3 v1 f_known f_worth _ _ _ h hw (lv_sub hl [1, 2, 0] rfl)
          have J226 : ∀ (x3 : Int32) (x4 : Int32) (s1 : Int32) (s3 : Int32) (s4 : Int32) (s5 : Int32) (f_known : Int32) (f_worth : Nat → Int32) (H : Heap) (locs : List Loc) (ls : Array Slot), wp_X10_layWorth_b226 f_gates f_kind f_second f_source f_trial p2 Q (wp_X10_layWorth_h94 f_gates f_kind f_second f_source f_trial p2 Q  n94) (wp_X10_layWorth_h105 f_gates f_kind f_second f_source f_trial p2 Q (wp_X10_layWorth_h94 f_gates f_kind f_second f_source f_trial p2 Q  n94) n105) x3 x4 s1 s3 s4 s5 f_known f_worth → gW D s A (wM ad cI cZ f_thrown f_text f_textSize f_place f_chips f_gates f_kind f_source f_second f_clock f_readChips f_readPins f_readGates f_readKind f_readLies f_readSource f_readSecond f_readClock f_page f_trial f_book f_doings f_kept f_isKept f_seen f_seenBehind f_seenGate f_seenWorth f_seenWas f_seed f_worth f_known f_hand f_goes f_takes f_crossed f_last f_lastNow f_states X) H locs → lv_has ls 5 [(0, .ref (ad 23)), (3, .int x3), (4, .int x4)] → W p l e ({ frames := 1, cells := 0, slots := 0, locals := 23 } : Room) s m args below meth c H locs 0 0 Z (F0 m 226 ls [.int s5, .int s4, .int s3, .ref (ad 23), .int s1, .ref (ad 3)]) := by
            intro x3 x4 s1 s3 s4 s5 f_known f_worth H locs ls h hw hl
            unfold wp_X10_layWorth_b226 at h
            refine g_aI E hw (g_rV E hw (c_X10_worthBy h _) ym_X10_worthBy k_683 ⟨rfl, rfl⟩ ⟨Nat.le_of_ble_eq_true rfl, Nat.le_of_ble_eq_true rfl⟩ 23 rfl rfl rfl rfl hl.1 rfl (Nat.le_of_ble_eq_true rfl) ⟨Nat.zero_le _, Nat.zero_le _⟩ dX10_layWorth_226) (fun r2 u H locs hq hw => ?_)
            obtain ⟨hu, h⟩ := hq
            rw [hu] at hw
            refine sM_worth E hw h.1 dX10_layWorth_229 (fun y3 ey3 H locs hw => ?_)
            have h := h.2 y3 ey3
            refine lv_aload_n hx hb dX10_layWorth_230 rfl (lv_at hl 0 rfl) ?_
            refine lv_dup hx hb dX10_layWorth_231 rfl ?_
            refine gM_X10_137_main E hw dX10_layWorth_232 ?_
            refine lv_iconst (v := 1) hx hb dX10_layWorth_235 (by decide) ?_
            refine lv_iload hx hb dX10_layWorth_236 (lv_at hl 2 rfl) ?_
            refine lv_ishl hx hb dX10_layWorth_238 ?_
            refine lv_ior hx hb dX10_layWorth_239 ?_
            refine lv_topi (fun v4 ev4 => ?_)
            have h := h v4 ev4
            refine pM_X10_137_main E hw dX10_layWorth_240 (fun H locs hw => ?_)
            exact J243 x3 x4 v4 y3 _ _ _ h hw (lv_sub hl [0, 1, 2] rfl)
          have J172 : ∀ (x3 : Int32) (x4 : Int32) (f_known : Int32) (f_worth : Nat → Int32) (H : Heap) (locs : List Loc) (ls : Array Slot), wp_X10_layWorth_b172 f_gates f_kind f_second f_source f_trial p2 Q (wp_X10_layWorth_h94 f_gates f_kind f_second f_source f_trial p2 Q  n94) (wp_X10_layWorth_h105 f_gates f_kind f_second f_source f_trial p2 Q (wp_X10_layWorth_h94 f_gates f_kind f_second f_source f_trial p2 Q  n94) n105) x3 x4 f_known f_worth → gW D s A (wM ad cI cZ f_thrown f_text f_textSize f_place f_chips f_gates f_kind f_source f_second f_clock f_readChips f_readPins f_readGates f_readKind f_readLies f_readSource f_readSecond f_readClock f_page f_trial f_book f_doings f_kept f_isKept f_seen f_seenBehind f_seenGate f_seenWorth f_seenWas f_seed f_worth f_known f_hand f_goes f_takes f_crossed f_last f_lastNow f_states X) H locs → lv_has ls 5 [(0, .ref (ad 23)), (3, .int x3), (4, .int x4)] → W p l e ({ frames := 1, cells := 0, slots := 0, locals := 23 } : Room) s m args below meth c H locs 0 0 Z (F0 m 172 ls []) := by
            intro x3 x4 f_known f_worth H locs ls h hw hl
            unfold wp_X10_layWorth_b172 at h
            refine lv_aload_n hx hb dX10_layWorth_172 rfl (lv_at hl 0 rfl) ?_
            refine gM_X10_72_main E hw dX10_layWorth_173 ?_
            refine lv_iload hx hb dX10_layWorth_176 (lv_at hl 2 rfl) ?_
            refine lv_aload_n hx hb dX10_layWorth_178 rfl (lv_at hl 0 rfl) ?_
            refine lv_aload_n hx hb dX10_layWorth_179 rfl (lv_at hl 0 rfl) ?_
            refine gM_X10_17_main E hw dX10_layWorth_180 ?_
            refine lv_iload hx hb dX10_layWorth_183 (lv_at hl 2 rfl) ?_
            refine lM_kind E hw h.1 dX10_layWorth_185 ?_
            have h := h.2
            refine lv_aload_n hx hb dX10_layWorth_186 rfl (lv_at hl 0 rfl) ?_
            refine gM_X10_72_main E hw dX10_layWorth_187 ?_
            refine lv_aload_n hx hb dX10_layWorth_190 rfl (lv_at hl 0 rfl) ?_
            refine gM_X10_20_main E hw dX10_layWorth_191 ?_
            refine lv_iload hx hb dX10_layWorth_194 (lv_at hl 2 rfl) ?_
            refine lM_source E hw h.1 dX10_layWorth_196 ?_
            have h := h.2
            refine lM_worth E hw h.1 dX10_layWorth_197 ?_
            have h := h.2
            refine lv_aload_n hx hb dX10_layWorth_198 rfl (lv_at hl 0 rfl) ?_
            refine gM_X10_23_main E hw dX10_layWorth_199 ?_
            refine lv_iload hx hb dX10_layWorth_202 (lv_at hl 2 rfl) ?_
            refine lM_second E hw h.1 dX10_layWorth_204 ?_
            have h := h.2
            refine lv_bipush (v := -9) hx hb dX10_layWorth_205 (by decide) ?_
            refine lv_icmp_ne (tgt := 214) hx hb dX10_layWorth_207 (by decide) (fun c5 => ?_) (fun c5 => ?_)
            · have h := h.1 c5
              refine lv_aload_n hx hb dX10_layWorth_214 rfl (lv_at hl 0 rfl) ?_
              refine gM_X10_72_main E hw dX10_layWorth_215 ?_
              refine lv_aload_n hx hb dX10_layWorth_218 rfl (lv_at hl 0 rfl) ?_
              refine gM_X10_23_main E hw dX10_layWorth_219 ?_
              refine lv_iload hx hb dX10_layWorth_222 (lv_at hl 2 rfl) ?_
              refine lM_second E hw h.1 dX10_layWorth_224 ?_
              have h := h.2
              refine lM_worth E hw h.1 dX10_layWorth_225 ?_
              have h := h.2
              exact J226 x3 x4 x4 ((f_kind (x4).toNatClampNeg)) ((f_worth ((f_source (x4).toNatClampNeg)).toNatClampNeg)) ((f_worth ((f_second (x4).toNatClampNeg)).toNatClampNeg)) f_known f_worth _ _ _ h hw (lv_sub hl [0, 1, 2] rfl)
            · have h := h.2 c5
              refine lv_iconst (v := 0) hx hb dX10_layWorth_210 (by decide) ?_
              refine lv_goto (tgt := 226) hx hb dX10_layWorth_211 (by decide) ?_
              exact J226 x3 x4 x4 ((f_kind (x4).toNatClampNeg)) ((f_worth ((f_source (x4).toNatClampNeg)).toNatClampNeg)) (0 : Int32) f_known f_worth _ _ _ h hw (lv_sub hl [0, 1, 2] rfl)
          unfold wp_X10_layWorth_b105 at h
          refine lv_iload hx hb dX10_layWorth_105 (lv_at hl 2 rfl) ?_
          refine lv_aload_n hx hb dX10_layWorth_107 rfl (lv_at hl 0 rfl) ?_
          refine gM_X10_87_main E hw dX10_layWorth_108 ?_
          refine lv_icmp_ge (tgt := 249) hx hb dX10_layWorth_111 (by decide) (fun c6 => ?_) (fun c6 => ?_)
          · have h := h.1 c6
            obtain ⟨v7, ev7⟩ : ∃ y : Int32, y = x3 + 1 := ⟨_, rfl⟩
            have h := h v7 ev7
            refine lv_iinc (v := v7) (lv' := [(3, .int v7), (0, .ref (ad 23)), (4, .int x4)]) hx hb dX10_layWorth_249 hl (k := 1) rfl (by rw [ev7]; rfl) (by decide) rfl (fun ls hl => ?_)
            refine lv_goto (tgt := 94) hx hb dX10_layWorth_252 (by decide) ?_
            exact ih94 v7 f_known f_worth _ _ _ h hw (lv_sub hl [1, 0] rfl)
          · have h := h.2 c6
            refine lv_aload_n hx hb dX10_layWorth_114 rfl (lv_at hl 0 rfl) ?_
            refine gM_X10_137_main E hw dX10_layWorth_115 ?_
            refine lv_iload hx hb dX10_layWorth_118 (lv_at hl 2 rfl) ?_
            refine g_aI E hw (g_rS E hw (c_X10_has h _) ym_X10_has k_680 ⟨rfl, rfl⟩ ⟨Nat.le_of_ble_eq_true rfl, Nat.le_of_ble_eq_true rfl⟩ rfl hl.1 rfl (Nat.le_of_ble_eq_true rfl) ⟨Nat.zero_le _, Nat.zero_le _⟩ dX10_layWorth_120) (fun r8 u H locs hq hw => ?_)
            obtain ⟨hu, h⟩ := hq
            rw [hu] at hw
            refine lv_if_ne (tgt := 243) hx hb dX10_layWorth_123 (by decide) (fun c9 => ?_) (fun c9 => ?_)
            · have h := h.1 c9
              exact J243 x3 x4 f_known f_worth _ _ _ h hw (lv_sub hl [0, 1, 2] rfl)
            · have h := h.2 c9
              refine lv_aload_n hx hb dX10_layWorth_126 rfl (lv_at hl 0 rfl) ?_
              refine gM_X10_137_main E hw dX10_layWorth_127 ?_
              refine lv_aload_n hx hb dX10_layWorth_130 rfl (lv_at hl 0 rfl) ?_
              refine gM_X10_20_main E hw dX10_layWorth_131 ?_
              refine lv_iload hx hb dX10_layWorth_134 (lv_at hl 2 rfl) ?_
              refine lM_source E hw h.1 dX10_layWorth_136 ?_
              have h := h.2
              refine g_aI E hw (g_rS E hw (c_X10_has h _) ym_X10_has k_680 ⟨rfl, rfl⟩ ⟨Nat.le_of_ble_eq_true rfl, Nat.le_of_ble_eq_true rfl⟩ rfl hl.1 rfl (Nat.le_of_ble_eq_true rfl) ⟨Nat.zero_le _, Nat.zero_le _⟩ dX10_layWorth_137) (fun r10 u H locs hq hw => ?_)
              obtain ⟨hu, h⟩ := hq
              rw [hu] at hw
              refine lv_if_eq (tgt := 243) hx hb dX10_layWorth_140 (by decide) (fun c11 => ?_) (fun c11 => ?_)
              · have h := h.1 c11
                exact J243 x3 x4 f_known f_worth _ _ _ h hw (lv_sub hl [0, 1, 2] rfl)
              · have h := h.2 c11
                refine lv_aload_n hx hb dX10_layWorth_143 rfl (lv_at hl 0 rfl) ?_
                refine gM_X10_23_main E hw dX10_layWorth_144 ?_
                refine lv_iload hx hb dX10_layWorth_147 (lv_at hl 2 rfl) ?_
                refine lM_second E hw h.1 dX10_layWorth_149 ?_
                have h := h.2
                refine lv_bipush (v := -9) hx hb dX10_layWorth_150 (by decide) ?_
                refine lv_icmp_eq (tgt := 172) hx hb dX10_layWorth_152 (by decide) (fun c12 => ?_) (fun c12 => ?_)
                · have h := h.1 c12
                  exact J172 x3 x4 f_known f_worth _ _ _ h hw (lv_sub hl [0, 1, 2] rfl)
                · have h := h.2 c12
                  refine lv_aload_n hx hb dX10_layWorth_155 rfl (lv_at hl 0 rfl) ?_
                  refine gM_X10_137_main E hw dX10_layWorth_156 ?_
                  refine lv_aload_n hx hb dX10_layWorth_159 rfl (lv_at hl 0 rfl) ?_
                  refine gM_X10_23_main E hw dX10_layWorth_160 ?_
                  refine lv_iload hx hb dX10_layWorth_163 (lv_at hl 2 rfl) ?_
                  refine lM_second E hw h.1 dX10_layWorth_165 ?_
                  have h := h.2
                  refine g_aI E hw (g_rS E hw (c_X10_has h _) ym_X10_has k_680 ⟨rfl, rfl⟩ ⟨Nat.le_of_ble_eq_true rfl, Nat.le_of_ble_eq_true rfl⟩ rfl hl.1 rfl (Nat.le_of_ble_eq_true rfl) ⟨Nat.zero_le _, Nat.zero_le _⟩ dX10_layWorth_166) (fun r13 u H locs hq hw => ?_)
                  obtain ⟨hu, h⟩ := hq
                  rw [hu] at hw
                  refine lv_if_eq (tgt := 243) hx hb dX10_layWorth_169 (by decide) (fun c14 => ?_) (fun c14 => ?_)
                  · have h := h.1 c14
                    exact J243 x3 x4 f_known f_worth _ _ _ h hw (lv_sub hl [0, 1, 2] rfl)
                  · have h := h.2 c14
                    exact J172 x3 x4 f_known f_worth _ _ _ h hw (lv_sub hl [0, 1, 2] rfl)
      unfold wp_X10_layWorth_b94 at h
      refine lv_iload_n hx hb dX10_layWorth_94 rfl (lv_at hl 1 rfl) ?_
      refine lv_aload_n hx hb dX10_layWorth_95 rfl (lv_at hl 0 rfl) ?_
      refine gM_X10_87_main E hw dX10_layWorth_96 ?_
      refine lv_icmp_ge (tgt := 255) hx hb dX10_layWorth_99 (by decide) (fun c15 => ?_) (fun c15 => ?_)
      · have h := h.1 c15
        exact hret _ _ _ _ _ ⟨_, _, rfl, h⟩ hw dX10_layWorth_255
      · have h := h.2 c15
        refine lv_iconst (v := 0) hx hb dX10_layWorth_102 (by decide) ?_
        refine lv_istore (lv' := [(4, .int (0 : Int32)), (0, .ref (ad 23)), (3, .int x3)]) hx hb dX10_layWorth_103 hl (by decide) rfl (fun ls hl => ?_)
        obtain ⟨n, h⟩ := h
        exact L105 n x3 (0 : Int32) f_known f_worth _ _ _ h hw (lv_sub hl [1, 2, 0] rfl)
  have L7 : ∀ (n : Nat) (x3 : Int32) (f_known : Int32) (f_worth : Nat → Int32) (H : Heap) (locs : List Loc) (ls : Array Slot), wp_X10_layWorth_h7 f_gates f_kind f_second f_source f_trial p2 Q  n x3 f_known f_worth → gW D s A (wM ad cI cZ f_thrown f_text f_textSize f_place f_chips f_gates f_kind f_source f_second f_clock f_readChips f_readPins f_readGates f_readKind f_readLies f_readSource f_readSecond f_readClock f_page f_trial f_book f_doings f_kept f_isKept f_seen f_seenBehind f_seenGate f_seenWorth f_seenWas f_seed f_worth f_known f_hand f_goes f_takes f_crossed f_last f_lastNow f_states X) H locs → lv_has ls 5 [(0, .ref (ad 23)), (1, .ref (ad 11)), (2, .int p2), (3, .int x3)] → W p l e ({ frames := 1, cells := 0, slots := 0, locals := 23 } : Room) s m args below meth c H locs 0 0 Z (F0 m 7 ls []) := by
    intro n
    induction n with
    | zero => intro x3 f_known f_worth H locs ls h; exact False.elim h
    | succ n7 ih7 =>
      intro x3 f_known f_worth H locs ls h hw hl
      have h : wp_X10_layWorth_b7 f_gates f_kind f_second f_source f_trial p2 Q (wp_X10_layWorth_h7 f_gates f_kind f_second f_source f_trial p2 Q  n7) x3 f_known f_worth := h
      have J82 : ∀ (x3 : Int32) (s1 : Int32) (s2 : Int32) (f_known : Int32) (f_worth : Nat → Int32) (H : Heap) (locs : List Loc) (ls : Array Slot), wp_X10_layWorth_b82 f_gates f_kind f_second f_source f_trial p2 Q (wp_X10_layWorth_h7 f_gates f_kind f_second f_source f_trial p2 Q  n7) x3 s1 s2 f_known f_worth → gW D s A (wM ad cI cZ f_thrown f_text f_textSize f_place f_chips f_gates f_kind f_source f_second f_clock f_readChips f_readPins f_readGates f_readKind f_readLies f_readSource f_readSecond f_readClock f_page f_trial f_book f_doings f_kept f_isKept f_seen f_seenBehind f_seenGate f_seenWorth f_seenWas f_seed f_worth f_known f_hand f_goes f_takes f_crossed f_last f_lastNow f_states X) H locs → lv_has ls 5 [(0, .ref (ad 23)), (1, .ref (ad 11)), (2, .int p2), (3, .int x3)] → W p l e ({ frames := 1, cells := 0, slots := 0, locals := 23 } : Room) s m args below meth c H locs 0 0 Z (F0 m 82 ls [.int s2, .int s1, .ref (ad 23)]) := by
        intro x3 s1 s2 f_known f_worth H locs ls h hw hl
        unfold wp_X10_layWorth_b82 at h
        refine lv_ior hx hb dX10_layWorth_82 ?_
        refine lv_topi (fun v16 ev16 => ?_)
        have h := h v16 ev16
        refine pM_X10_137_main E hw dX10_layWorth_83 (fun H locs hw => ?_)
        obtain ⟨v17, ev17⟩ : ∃ y : Int32, y = x3 + 1 := ⟨_, rfl⟩
        have h := h v17 ev17
        refine lv_iinc (v := v17) (lv' := [(3, .int v17), (0, .ref (ad 23)), (1, .ref (ad 11)), (2, .int p2)]) hx hb dX10_layWorth_86 hl (k := 3) rfl (by rw [ev17]; rfl) (by decide) rfl (fun ls hl => ?_)
        refine lv_goto (tgt := 7) hx hb dX10_layWorth_89 (by decide) ?_
        exact ih7 v17 v16 f_worth _ _ _ h hw (lv_sub hl [1, 2, 3, 0] rfl)
      have J64 : ∀ (x3 : Int32) (x4 : Int32) (s1 : Int32) (s2 : Int32) (f_known : Int32) (f_worth : Nat → Int32) (H : Heap) (locs : List Loc) (ls : Array Slot), wp_X10_layWorth_b64 f_gates f_kind f_second f_source f_trial p2 Q (wp_X10_layWorth_h7 f_gates f_kind f_second f_source f_trial p2 Q  n7) x3 x4 s1 s2 f_known f_worth → gW D s A (wM ad cI cZ f_thrown f_text f_textSize f_place f_chips f_gates f_kind f_source f_second f_clock f_readChips f_readPins f_readGates f_readKind f_readLies f_readSource f_readSecond f_readClock f_page f_trial f_book f_doings f_kept f_isKept f_seen f_seenBehind f_seenGate f_seenWorth f_seenWas f_seed f_worth f_known f_hand f_goes f_takes f_crossed f_last f_lastNow f_states X) H locs → lv_has ls 5 [(0, .ref (ad 23)), (1, .ref (ad 11)), (2, .int p2), (3, .int x3), (4, .int x4)] → W p l e ({ frames := 1, cells := 0, slots := 0, locals := 23 } : Room) s m args below meth c H locs 0 0 Z (F0 m 64 ls [.int s2, .int s1, .ref (ad 3)]) := by
        intro x3 x4 s1 s2 f_known f_worth H locs ls h hw hl
        unfold wp_X10_layWorth_b64 at h
        refine sM_worth E hw h.1 dX10_layWorth_64 (fun y18 ey18 H locs hw => ?_)
        have h := h.2 y18 ey18
        refine lv_aload_n hx hb dX10_layWorth_65 rfl (lv_at hl 0 rfl) ?_
        refine lv_dup hx hb dX10_layWorth_66 rfl ?_
        refine gM_X10_137_main E hw dX10_layWorth_67 ?_
        refine lv_iload hx hb dX10_layWorth_70 (lv_at hl 4 rfl) ?_
        refine lv_if_eq (tgt := 81) hx hb dX10_layWorth_72 (by decide) (fun c19 => ?_) (fun c19 => ?_)
        · have h := h.1 c19
          refine lv_iconst (v := 0) hx hb dX10_layWorth_81 (by decide) ?_
          exact J82 x3 f_known (0 : Int32) f_known y18 _ _ _ h hw (lv_sub hl [0, 1, 2, 3] rfl)
        · have h := h.2 c19
          refine lv_iconst (v := 1) hx hb dX10_layWorth_75 (by decide) ?_
          refine lv_iload_n hx hb dX10_layWorth_76 rfl (lv_at hl 3 rfl) ?_
          refine lv_ishl hx hb dX10_layWorth_77 ?_
          refine lv_goto (tgt := 82) hx hb dX10_layWorth_78 (by decide) ?_
          exact J82 x3 f_known (((1 : Int32) <<< (x3 &&& 31))) f_known y18 _ _ _ h hw (lv_sub hl [0, 1, 2, 3] rfl)
      have J33 : ∀ (x3 : Int32) (s0 : Int32) (f_known : Int32) (f_worth : Nat → Int32) (H : Heap) (locs : List Loc) (ls : Array Slot), wp_X10_layWorth_b33 f_gates f_kind f_second f_source f_trial p2 Q (wp_X10_layWorth_h7 f_gates f_kind f_second f_source f_trial p2 Q  n7) x3 s0 f_known f_worth → gW D s A (wM ad cI cZ f_thrown f_text f_textSize f_place f_chips f_gates f_kind f_source f_second f_clock f_readChips f_readPins f_readGates f_readKind f_readLies f_readSource f_readSecond f_readClock f_page f_trial f_book f_doings f_kept f_isKept f_seen f_seenBehind f_seenGate f_seenWorth f_seenWas f_seed f_worth f_known f_hand f_goes f_takes f_crossed f_last f_lastNow f_states X) H locs → lv_has ls 5 [(0, .ref (ad 23)), (1, .ref (ad 11)), (2, .int p2), (3, .int x3)] → W p l e ({ frames := 1, cells := 0, slots := 0, locals := 23 } : Room) s m args below meth c H locs 0 0 Z (F0 m 33 ls [.int s0]) := by
        intro x3 s0 f_known f_worth H locs ls h hw hl
        unfold wp_X10_layWorth_b33 at h
        refine lv_istore (lv' := [(4, .int s0), (0, .ref (ad 23)), (1, .ref (ad 11)), (2, .int p2), (3, .int x3)]) hx hb dX10_layWorth_33 hl (by decide) rfl (fun ls hl => ?_)
        refine lv_aload_n hx hb dX10_layWorth_35 rfl (lv_at hl 1 rfl) ?_
        refine gM_X10_72_main E hw dX10_layWorth_36 ?_
        refine lv_iload_n hx hb dX10_layWorth_39 rfl (lv_at hl 4 rfl) ?_
        refine lv_iload_n hx hb dX10_layWorth_40 rfl (lv_at hl 4 rfl) ?_
        refine lv_iload_n hx hb dX10_layWorth_41 rfl (lv_at hl 3 rfl) ?_
        refine lv_icmp_ne (tgt := 49) hx hb dX10_layWorth_42 (by decide) (fun c20 => ?_) (fun c20 => ?_)
        · have h := h.1 c20
          refine lv_aload_n hx hb dX10_layWorth_49 rfl (lv_at hl 1 rfl) ?_
          refine lv_iload_n hx hb dX10_layWorth_50 rfl (lv_at hl 4 rfl) ?_
          refine g_aI E hw (g_rV E hw (c_X10_stands h _) ym_X10_stands k_677 ⟨rfl, rfl⟩ ⟨Nat.le_of_ble_eq_true rfl, Nat.le_of_ble_eq_true rfl⟩ 23 rfl rfl rfl rfl hl.1 rfl (Nat.le_of_ble_eq_true rfl) ⟨Nat.zero_le _, Nat.zero_le _⟩ dX10_layWorth_51) (fun r21 u H locs hq hw => ?_)
          obtain ⟨hu, h⟩ := hq
          rw [hu] at hw
          refine lv_if_eq (tgt := 63) hx hb dX10_layWorth_54 (by decide) (fun c22 => ?_) (fun c22 => ?_)
          · have h := h.1 c22
            refine lv_iconst (v := 2) hx hb dX10_layWorth_63 (by decide) ?_
            exact J64 x3 s0 x3 (2 : Int32) f_known f_worth _ _ _ h hw (lv_sub hl [1, 2, 3, 4, 0] rfl)
          · have h := h.2 c22
            refine lv_aload_n hx hb dX10_layWorth_57 rfl (lv_at hl 2 rfl) ?_
            refine lv_iload_n hx hb dX10_layWorth_58 rfl (lv_at hl 4 rfl) ?_
            refine lM_trial E hw h.1 dX10_layWorth_59 ?_
            have h := h.2
            refine lv_goto (tgt := 64) hx hb dX10_layWorth_60 (by decide) ?_
            exact J64 x3 s0 x3 ((f_trial (x3).toNatClampNeg)) f_known f_worth _ _ _ h hw (lv_sub hl [1, 2, 3, 4, 0] rfl)
        · have h := h.2 c20
          refine lv_iconst (v := 0) hx hb dX10_layWorth_45 (by decide) ?_
          refine lv_goto (tgt := 64) hx hb dX10_layWorth_46 (by decide) ?_
          exact J64 x3 s0 x3 (0 : Int32) f_known f_worth _ _ _ h hw (lv_sub hl [1, 2, 3, 4, 0] rfl)
      have J28 : ∀ (x3 : Int32) (f_known : Int32) (f_worth : Nat → Int32) (H : Heap) (locs : List Loc) (ls : Array Slot), wp_X10_layWorth_b28 f_gates f_kind f_second f_source f_trial p2 Q (wp_X10_layWorth_h7 f_gates f_kind f_second f_source f_trial p2 Q  n7) x3 f_known f_worth → gW D s A (wM ad cI cZ f_thrown f_text f_textSize f_place f_chips f_gates f_kind f_source f_second f_clock f_readChips f_readPins f_readGates f_readKind f_readLies f_readSource f_readSecond f_readClock f_page f_trial f_book f_doings f_kept f_isKept f_seen f_seenBehind f_seenGate f_seenWorth f_seenWas f_seed f_worth f_known f_hand f_goes f_takes f_crossed f_last f_lastNow f_states X) H locs → lv_has ls 5 [(0, .ref (ad 23)), (1, .ref (ad 11)), (2, .int p2), (3, .int x3)] → W p l e ({ frames := 1, cells := 0, slots := 0, locals := 23 } : Room) s m args below meth c H locs 0 0 Z (F0 m 28 ls []) := by
        intro x3 f_known f_worth H locs ls h hw hl
        unfold wp_X10_layWorth_b28 at h
        refine lv_iconst (v := 1) hx hb dX10_layWorth_28 (by decide) ?_
        refine lv_goto (tgt := 33) hx hb dX10_layWorth_29 (by decide) ?_
        exact J33 x3 (1 : Int32) f_known f_worth _ _ _ h hw (lv_sub hl [0, 1, 2, 3] rfl)
      unfold wp_X10_layWorth_b7 at h
      refine lv_iload_n hx hb dX10_layWorth_7 rfl (lv_at hl 3 rfl) ?_
      refine lv_aload_n hx hb dX10_layWorth_8 rfl (lv_at hl 0 rfl) ?_
      refine gM_X10_87_main E hw dX10_layWorth_9 ?_
      refine lv_icmp_ge (tgt := 92) hx hb dX10_layWorth_12 (by decide) (fun c23 => ?_) (fun c23 => ?_)
      · have h := h.1 c23
        refine lv_iconst (v := 0) hx hb dX10_layWorth_92 (by decide) ?_
        refine lv_istore_n (lv' := [(3, .int (0 : Int32)), (0, .ref (ad 23)), (1, .ref (ad 11)), (2, .int p2)]) hx hb dX10_layWorth_93 rfl hl (by decide) rfl (fun ls hl => ?_)
        obtain ⟨n, h⟩ := h
        exact L94 n (0 : Int32) f_known f_worth _ _ _ h hw (lv_sub hl [1, 0] rfl)
      · have h := h.2 c23
        refine lv_iload_n hx hb dX10_layWorth_15 rfl (lv_at hl 3 rfl) ?_
        refine lv_iload_n hx hb dX10_layWorth_16 rfl (lv_at hl 2 rfl) ?_
        refine lv_icmp_eq (tgt := 28) hx hb dX10_layWorth_17 (by decide) (fun c24 => ?_) (fun c24 => ?_)
        · have h := h.1 c24
          exact J28 x3 f_known f_worth _ _ _ h hw (lv_sub hl [0, 1, 2, 3] rfl)
        · have h := h.2 c24
          refine lv_aload_n hx hb dX10_layWorth_20 rfl (lv_at hl 0 rfl) ?_
          refine lv_iload_n hx hb dX10_layWorth_21 rfl (lv_at hl 3 rfl) ?_
          refine g_aI E hw (g_rV E hw (c_X10_stands h _) ym_X10_stands k_677 ⟨rfl, rfl⟩ ⟨Nat.le_of_ble_eq_true rfl, Nat.le_of_ble_eq_true rfl⟩ 23 rfl rfl rfl rfl hl.1 rfl (Nat.le_of_ble_eq_true rfl) ⟨Nat.zero_le _, Nat.zero_le _⟩ dX10_layWorth_22) (fun r25 u H locs hq hw => ?_)
          obtain ⟨hu, h⟩ := hq
          rw [hu] at hw
          refine lv_if_eq (tgt := 32) hx hb dX10_layWorth_25 (by decide) (fun c26 => ?_) (fun c26 => ?_)
          · have h := h.1 c26
            refine lv_iconst (v := 0) hx hb dX10_layWorth_32 (by decide) ?_
            exact J33 x3 (0 : Int32) f_known f_worth _ _ _ h hw (lv_sub hl [0, 1, 2, 3] rfl)
          · have h := h.2 c26
            exact J28 x3 f_known f_worth _ _ _ h hw (lv_sub hl [0, 1, 2, 3] rfl)
  unfold wp_X10_layWorth at h
  refine lv_aload_n hx hb dX10_layWorth_0 rfl (lv_at hl 0 rfl) ?_
  refine lv_iconst (v := 0) hx hb dX10_layWorth_1 (by decide) ?_
  refine pM_X10_137_main E hw dX10_layWorth_2 (fun H locs hw => ?_)
  refine lv_iconst (v := 0) hx hb dX10_layWorth_5 (by decide) ?_
  refine lv_istore_n (lv' := [(3, .int (0 : Int32)), (0, .ref (ad 23)), (1, .ref (ad 11)), (2, .int p2)]) hx hb dX10_layWorth_6 rfl hl (by decide) rfl (fun ls hl => ?_)
  obtain ⟨n, h⟩ := h
  exact L7 n (0 : Int32) (0 : Int32) f_worth _ _ _ h hw (lv_sub hl [1, 2, 3, 0] rfl)
set_option maxRecDepth 100000 in
set_option maxHeartbeats 4000000 in
theorem c_X10_worthOf_trial {l : Launch} {D : va_G} {cI cZ : ClassId} {ad : Nat → Nat} {f_thrown : Int32} {f_text : Nat → Int32} {f_textSize : Int32} {f_place : Int32} {f_chips : Int32} {f_gates : Int32} {f_kind : Nat → Int32} {f_source : Nat → Int32} {f_second : Nat → Int32} {f_clock : Nat → Int32} {f_readChips : Int32} {f_readPins : Int32} {f_readGates : Int32} {f_readKind : Nat → Int32} {f_readLies : Nat → Int32} {f_readSource : Nat → Int32} {f_readSecond : Nat → Int32} {f_readClock : Nat → Int32} {f_page : Nat → Int32} {f_trial : Nat → Int32} {f_book : Nat → Int32} {f_doings : Int32} {f_kept : Nat → Int32} {f_isKept : Nat → Int32} {f_seen : Int32} {f_seenBehind : Nat → Int32} {f_seenGate : Nat → Int32} {f_seenWorth : Nat → Int32} {f_seenWas : Nat → Int32} {f_seed : Int64} {f_worth : Nat → Int32} {f_known : Int32} {f_hand : Nat → Int32} {f_goes : Nat → Int32} {f_takes : Int32} {f_crossed : Int32} {f_last : Int32} {f_lastNow : Int32} {f_states : Nat → Int32} {X : va_W} {p2 : Int32} {Q : Int32 → Int32 → (Nat → Int32) → Prop} (h : wp_X10_worthOf f_gates f_kind f_known f_second f_source f_worth f_trial p2 Q) : CtI l yX10_worthOf cX10_worthOf 3 (some .int) ({ frames := 2, cells := 0, slots := 0, locals := 47 } : Room) D [(cI, .int), (cZ, .boolean)] [.ref (ad 23), .ref (ad 11), .int p2] (wM ad cI cZ f_thrown f_text f_textSize f_place f_chips f_gates f_kind f_source f_second f_clock f_readChips f_readPins f_readGates f_readKind f_readLies f_readSource f_readSecond f_readClock f_page f_trial f_book f_doings f_kept f_isKept f_seen f_seenBehind f_seenGate f_seenWorth f_seenWas f_seed f_worth f_known f_hand f_goes f_takes f_crossed f_last f_lastNow f_states X) (fun r u => ∃ w0 w1, u = (wM ad cI cZ f_thrown f_text f_textSize f_place f_chips f_gates f_kind f_source f_second f_clock f_readChips f_readPins f_readGates f_readKind f_readLies f_readSource f_readSecond f_readClock f_page f_trial f_book f_doings f_kept f_isKept f_seen f_seenBehind f_seenGate f_seenWorth f_seenWas f_seed w1 w0 f_hand f_goes f_takes f_crossed f_last f_lastNow f_states X) ∧ Q r w0 w1) := by
  refine CtI.of (by decide) rfl (Nat.le_of_ble_eq_true rfl) ?_
  intro p e s m args below meth c A Z E hret ls hl hw
  have E : gE p m c cX10_worthOf 3 s args RX10 D [(cI, .int), (cZ, .boolean)] A := E
  have hx := E.1.1
  have hb := E.1.2.1
  have hl : lv_has ls 3 [(0, .ref (ad 23)), (1, .ref (ad 11)), (2, .int p2)] := hl
  unfold wp_X10_worthOf at h
  refine lv_aload_n hx hb dX10_worthOf_0 rfl (lv_at hl 0 rfl) ?_
  refine lv_aload_n hx hb dX10_worthOf_1 rfl (lv_at hl 1 rfl) ?_
  refine lv_bipush (v := -9) hx hb dX10_worthOf_2 (by decide) ?_
  refine g_aV E hw (g_rV E hw (c_X10_layWorth_trial h _) ym_X10_layWorth k_674 ⟨rfl, rfl⟩ ⟨Nat.le_of_ble_eq_true rfl, Nat.le_of_ble_eq_true rfl⟩ 23 rfl rfl rfl rfl hl.1 rfl (Nat.le_of_ble_eq_true rfl) ⟨Nat.zero_le _, Nat.zero_le _⟩ dX10_worthOf_4) (fun u H locs hq hw => ?_)
  obtain ⟨y2, y3, hu, h⟩ := hq
  rw [hu] at hw
  refine lv_aload_n hx hb dX10_worthOf_7 rfl (lv_at hl 0 rfl) ?_
  refine gM_X10_72_main E hw dX10_worthOf_8 ?_
  refine lv_iload_n hx hb dX10_worthOf_11 rfl (lv_at hl 2 rfl) ?_
  refine lM_worth E hw h.1 dX10_worthOf_12 ?_
  have h := h.2
  exact hret _ _ _ _ _ _ ⟨_, _, rfl, h⟩ hw dX10_worthOf_13
set_option maxRecDepth 100000 in
set_option maxHeartbeats 4000000 in
theorem c_X10_stepOn_trial {l : Launch} {D : va_G} {cI cZ : ClassId} {ad : Nat → Nat} {f_thrown : Int32} {f_text : Nat → Int32} {f_textSize : Int32} {f_place : Int32} {f_chips : Int32} {f_gates : Int32} {f_kind : Nat → Int32} {f_source : Nat → Int32} {f_second : Nat → Int32} {f_clock : Nat → Int32} {f_readChips : Int32} {f_readPins : Int32} {f_readGates : Int32} {f_readKind : Nat → Int32} {f_readLies : Nat → Int32} {f_readSource : Nat → Int32} {f_readSecond : Nat → Int32} {f_readClock : Nat → Int32} {f_page : Nat → Int32} {f_trial : Nat → Int32} {f_book : Nat → Int32} {f_doings : Int32} {f_kept : Nat → Int32} {f_isKept : Nat → Int32} {f_seen : Int32} {f_seenBehind : Nat → Int32} {f_seenGate : Nat → Int32} {f_seenWorth : Nat → Int32} {f_seenWas : Nat → Int32} {f_seed : Int64} {f_worth : Nat → Int32} {f_known : Int32} {f_hand : Nat → Int32} {f_goes : Nat → Int32} {f_takes : Int32} {f_crossed : Int32} {f_last : Int32} {f_lastNow : Int32} {f_states : Nat → Int32} {X : va_W} {p2 : Int32} {Q : Int32 → (Nat → Int32) → (Nat → Int32) → Prop} (h : wp_X10_stepOn f_clock f_gates f_kind f_known f_second f_source f_worth f_trial p2 Q) : CtV l yX10_stepOn cX10_stepOn 4 none ({ frames := 2, cells := 0, slots := 0, locals := 47 } : Room) D [(cI, .int), (cZ, .boolean)] [.ref (ad 23), .ref (ad 11), .int p2] (wM ad cI cZ f_thrown f_text f_textSize f_place f_chips f_gates f_kind f_source f_second f_clock f_readChips f_readPins f_readGates f_readKind f_readLies f_readSource f_readSecond f_readClock f_page f_trial f_book f_doings f_kept f_isKept f_seen f_seenBehind f_seenGate f_seenWorth f_seenWas f_seed f_worth f_known f_hand f_goes f_takes f_crossed f_last f_lastNow f_states X) (fun  u => ∃ w0 w1 w2, u = (wM ad cI cZ f_thrown f_text f_textSize f_place f_chips f_gates f_kind f_source f_second f_clock f_readChips f_readPins f_readGates f_readKind f_readLies f_readSource f_readSecond f_readClock f_page w2 f_book f_doings f_kept f_isKept f_seen f_seenBehind f_seenGate f_seenWorth f_seenWas f_seed w1 w0 f_hand f_goes f_takes f_crossed f_last f_lastNow f_states X) ∧ Q w0 w1 w2) := by
  refine CtV.of (by decide) rfl (Nat.le_of_ble_eq_true rfl) ?_
  intro p e s m args below meth c A Z E hret ls hl hw
  have E : gE p m c cX10_stepOn 4 s args RX10 D [(cI, .int), (cZ, .boolean)] A := E
  have hx := E.1.1
  have hb := E.1.2.1
  have hl : lv_has ls 4 [(0, .ref (ad 23)), (1, .ref (ad 11)), (2, .int p2)] := hl
  have L8 : ∀ (n : Nat) (x3 : Int32) (f_known : Int32) (f_worth : Nat → Int32) (f_trial : Nat → Int32) (H : Heap) (locs : List Loc) (ls : Array Slot), wp_X10_stepOn_h8 f_clock f_gates f_kind f_second f_source p2 Q  n x3 f_known f_worth f_trial → gW D s A (wM ad cI cZ f_thrown f_text f_textSize f_place f_chips f_gates f_kind f_source f_second f_clock f_readChips f_readPins f_readGates f_readKind f_readLies f_readSource f_readSecond f_readClock f_page f_trial f_book f_doings f_kept f_isKept f_seen f_seenBehind f_seenGate f_seenWorth f_seenWas f_seed f_worth f_known f_hand f_goes f_takes f_crossed f_last f_lastNow f_states X) H locs → lv_has ls 4 [(0, .ref (ad 23)), (1, .ref (ad 11)), (3, .int x3)] → W p l e ({ frames := 2, cells := 0, slots := 0, locals := 47 } : Room) s m args below meth c H locs 0 0 Z (F0 m 8 ls []) := by
    intro n
    induction n with
    | zero => intro x3 f_known f_worth f_trial H locs ls h; exact False.elim h
    | succ n8 ih8 =>
      intro x3 f_known f_worth f_trial H locs ls h hw hl
      have h : wp_X10_stepOn_b8 f_clock f_gates f_kind f_second f_source p2 Q (wp_X10_stepOn_h8 f_clock f_gates f_kind f_second f_source p2 Q  n8) x3 f_known f_worth f_trial := h
      have J59 : ∀ (x3 : Int32) (f_known : Int32) (f_worth : Nat → Int32) (f_trial : Nat → Int32) (H : Heap) (locs : List Loc) (ls : Array Slot), wp_X10_stepOn_b59 f_clock f_gates f_kind f_second f_source p2 Q (wp_X10_stepOn_h8 f_clock f_gates f_kind f_second f_source p2 Q  n8) x3 f_known f_worth f_trial → gW D s A (wM ad cI cZ f_thrown f_text f_textSize f_place f_chips f_gates f_kind f_source f_second f_clock f_readChips f_readPins f_readGates f_readKind f_readLies f_readSource f_readSecond f_readClock f_page f_trial f_book f_doings f_kept f_isKept f_seen f_seenBehind f_seenGate f_seenWorth f_seenWas f_seed f_worth f_known f_hand f_goes f_takes f_crossed f_last f_lastNow f_states X) H locs → lv_has ls 4 [(0, .ref (ad 23)), (1, .ref (ad 11)), (3, .int x3)] → W p l e ({ frames := 2, cells := 0, slots := 0, locals := 47 } : Room) s m args below meth c H locs 0 0 Z (F0 m 59 ls []) := by
        intro x3 f_known f_worth f_trial H locs ls h hw hl
        unfold wp_X10_stepOn_b59 at h
        obtain ⟨v1, ev1⟩ : ∃ y : Int32, y = x3 + 1 := ⟨_, rfl⟩
        have h := h v1 ev1
        refine lv_iinc (v := v1) (lv' := [(3, .int v1), (0, .ref (ad 23)), (1, .ref (ad 11))]) hx hb dX10_stepOn_59 hl (k := 2) rfl (by rw [ev1]; rfl) (by decide) rfl (fun ls hl => ?_)
        refine lv_goto (tgt := 8) hx hb dX10_stepOn_62 (by decide) ?_
        exact ih8 v1 f_known f_worth f_trial _ _ _ h hw (lv_sub hl [1, 2, 0] rfl)
      have J45 : ∀ (x3 : Int32) (f_known : Int32) (f_worth : Nat → Int32) (f_trial : Nat → Int32) (H : Heap) (locs : List Loc) (ls : Array Slot), wp_X10_stepOn_b45 f_clock f_gates f_kind f_second f_source p2 Q (wp_X10_stepOn_h8 f_clock f_gates f_kind f_second f_source p2 Q  n8) x3 f_known f_worth f_trial → gW D s A (wM ad cI cZ f_thrown f_text f_textSize f_place f_chips f_gates f_kind f_source f_second f_clock f_readChips f_readPins f_readGates f_readKind f_readLies f_readSource f_readSecond f_readClock f_page f_trial f_book f_doings f_kept f_isKept f_seen f_seenBehind f_seenGate f_seenWorth f_seenWas f_seed f_worth f_known f_hand f_goes f_takes f_crossed f_last f_lastNow f_states X) H locs → lv_has ls 4 [(0, .ref (ad 23)), (1, .ref (ad 11)), (3, .int x3)] → W p l e ({ frames := 2, cells := 0, slots := 0, locals := 47 } : Room) s m args below meth c H locs 0 0 Z (F0 m 45 ls []) := by
        intro x3 f_known f_worth f_trial H locs ls h hw hl
        unfold wp_X10_stepOn_b45 at h
        refine lv_aload_n hx hb dX10_stepOn_45 rfl (lv_at hl 1 rfl) ?_
        refine lv_iload_n hx hb dX10_stepOn_46 rfl (lv_at hl 2 rfl) ?_
        refine lv_aload_n hx hb dX10_stepOn_47 rfl (lv_at hl 0 rfl) ?_
        refine gM_X10_72_main E hw dX10_stepOn_48 ?_
        refine lv_aload_n hx hb dX10_stepOn_51 rfl (lv_at hl 0 rfl) ?_
        refine gM_X10_20_main E hw dX10_stepOn_52 ?_
        refine lv_iload_n hx hb dX10_stepOn_55 rfl (lv_at hl 2 rfl) ?_
        refine lM_source E hw h.1 dX10_stepOn_56 ?_
        have h := h.2
        refine lM_worth E hw h.1 dX10_stepOn_57 ?_
        have h := h.2
        refine lv_topi (fun v2 ev2 => ?_)
        have h := h v2 ev2
        refine sM_trial E hw h.1 dX10_stepOn_58 (fun y3 ey3 H locs hw => ?_)
        have h := h.2 y3 ey3
        exact J59 x3 f_known f_worth y3 _ _ _ h hw (lv_sub hl [0, 1, 2] rfl)
      unfold wp_X10_stepOn_b8 at h
      refine lv_iload_n hx hb dX10_stepOn_8 rfl (lv_at hl 2 rfl) ?_
      refine lv_aload_n hx hb dX10_stepOn_9 rfl (lv_at hl 0 rfl) ?_
      refine gM_X10_87_main E hw dX10_stepOn_10 ?_
      refine lv_icmp_ge (tgt := 65) hx hb dX10_stepOn_13 (by decide) (fun c4 => ?_) (fun c4 => ?_)
      · have h := h.1 c4
        refine lv_aload_n hx hb dX10_stepOn_65 rfl (lv_at hl 1 rfl) ?_
        refine lv_bipush (v := 21) hx hb dX10_stepOn_66 (by decide) ?_
        refine lv_dup2_11 hx hb dX10_stepOn_68 rfl rfl ?_
        refine lM_trial E hw h.1 dX10_stepOn_69 ?_
        have h := h.2
        refine lv_iconst (v := 1) hx hb dX10_stepOn_70 (by decide) ?_
        refine lv_iadd hx hb dX10_stepOn_71 ?_
        refine lv_topi (fun v5 ev5 => ?_)
        have h := h v5 ev5
        refine sM_trial E hw h.1 dX10_stepOn_72 (fun y6 ey6 H locs hw => ?_)
        have h := h.2 y6 ey6
        exact hret _ _ _ _ _ ⟨_, _, _, rfl, h⟩ hw dX10_stepOn_73
      · have h := h.2 c4
        refine lv_aload_n hx hb dX10_stepOn_16 rfl (lv_at hl 0 rfl) ?_
        refine gM_X10_17_main E hw dX10_stepOn_17 ?_
        refine lv_iload_n hx hb dX10_stepOn_20 rfl (lv_at hl 2 rfl) ?_
        refine lM_kind E hw h.1 dX10_stepOn_21 ?_
        have h := h.2
        refine lv_iconst (v := 5) hx hb dX10_stepOn_22 (by decide) ?_
        refine lv_icmp_ne (tgt := 59) hx hb dX10_stepOn_23 (by decide) (fun c7 => ?_) (fun c7 => ?_)
        · have h := h.1 c7
          exact J59 x3 f_known f_worth f_trial _ _ _ h hw (lv_sub hl [0, 1, 2] rfl)
        · have h := h.2 c7
          refine lv_aload_n hx hb dX10_stepOn_26 rfl (lv_at hl 0 rfl) ?_
          refine gM_X10_26_main E hw dX10_stepOn_27 ?_
          refine lv_iload_n hx hb dX10_stepOn_30 rfl (lv_at hl 2 rfl) ?_
          refine lM_clock E hw h.1 dX10_stepOn_31 ?_
          have h := h.2
          refine lv_if_eq (tgt := 45) hx hb dX10_stepOn_32 (by decide) (fun c8 => ?_) (fun c8 => ?_)
          · have h := h.1 c8
            exact J45 x3 f_known f_worth f_trial _ _ _ h hw (lv_sub hl [0, 1, 2] rfl)
          · have h := h.2 c8
            refine lv_aload_n hx hb dX10_stepOn_35 rfl (lv_at hl 1 rfl) ?_
            refine lv_bipush (v := 21) hx hb dX10_stepOn_36 (by decide) ?_
            refine lM_trial E hw h.1 dX10_stepOn_38 ?_
            have h := h.2
            refine lv_iconst (v := 2) hx hb dX10_stepOn_39 (by decide) ?_
            refine lv_irem hx hb dX10_stepOn_40 (by decide) ?_
            refine lv_iconst (v := 1) hx hb dX10_stepOn_41 (by decide) ?_
            refine lv_icmp_ne (tgt := 59) hx hb dX10_stepOn_42 (by decide) (fun c9 => ?_) (fun c9 => ?_)
            · have h := h.1 c9
              exact J59 x3 f_known f_worth f_trial _ _ _ h hw (lv_sub hl [0, 1, 2] rfl)
            · have h := h.2 c9
              exact J45 x3 f_known f_worth f_trial _ _ _ h hw (lv_sub hl [0, 1, 2] rfl)
  unfold wp_X10_stepOn at h
  refine lv_aload_n hx hb dX10_stepOn_0 rfl (lv_at hl 0 rfl) ?_
  refine lv_aload_n hx hb dX10_stepOn_1 rfl (lv_at hl 1 rfl) ?_
  refine lv_iload_n hx hb dX10_stepOn_2 rfl (lv_at hl 2 rfl) ?_
  refine g_aV E hw (g_rV E hw (c_X10_layWorth_trial h _) ym_X10_layWorth k_674 ⟨rfl, rfl⟩ ⟨Nat.le_of_ble_eq_true rfl, Nat.le_of_ble_eq_true rfl⟩ 23 rfl rfl rfl rfl hl.1 rfl (Nat.le_of_ble_eq_true rfl) ⟨Nat.zero_le _, Nat.zero_le _⟩ dX10_stepOn_3) (fun u H locs hq hw => ?_)
  obtain ⟨y11, y12, hu, h⟩ := hq
  rw [hu] at hw
  refine lv_iconst (v := 0) hx hb dX10_stepOn_6 (by decide) ?_
  refine lv_istore_n (lv' := [(3, .int (0 : Int32)), (0, .ref (ad 23)), (1, .ref (ad 11)), (2, .int p2)]) hx hb dX10_stepOn_7 rfl hl (by decide) rfl (fun ls hl => ?_)
  obtain ⟨n, h⟩ := h
  exact L8 n (0 : Int32) y11 y12 f_trial _ _ _ h hw (lv_sub hl [1, 2, 0] rfl)
set_option maxRecDepth 100000 in
set_option maxHeartbeats 4000000 in
theorem c_X10_ahead {l : Launch} {D : va_G} {cI cZ : ClassId} {ad : Nat → Nat} {f_thrown : Int32} {f_text : Nat → Int32} {f_textSize : Int32} {f_place : Int32} {f_chips : Int32} {f_gates : Int32} {f_kind : Nat → Int32} {f_source : Nat → Int32} {f_second : Nat → Int32} {f_clock : Nat → Int32} {f_readChips : Int32} {f_readPins : Int32} {f_readGates : Int32} {f_readKind : Nat → Int32} {f_readLies : Nat → Int32} {f_readSource : Nat → Int32} {f_readSecond : Nat → Int32} {f_readClock : Nat → Int32} {f_page : Nat → Int32} {f_trial : Nat → Int32} {f_book : Nat → Int32} {f_doings : Int32} {f_kept : Nat → Int32} {f_isKept : Nat → Int32} {f_seen : Int32} {f_seenBehind : Nat → Int32} {f_seenGate : Nat → Int32} {f_seenWorth : Nat → Int32} {f_seenWas : Nat → Int32} {f_seed : Int64} {f_worth : Nat → Int32} {f_known : Int32} {f_hand : Nat → Int32} {f_goes : Nat → Int32} {f_takes : Int32} {f_crossed : Int32} {f_last : Int32} {f_lastNow : Int32} {f_states : Nat → Int32} {X : va_W} {p1 : Int32} {p2 : Int32} {Q : Int32 → Int32 → Int32 → (Nat → Int32) → (Nat → Int32) → Prop} (h : wp_X10_ahead f_clock f_gates f_kind f_known f_page f_second f_source f_thrown f_trial f_worth p1 p2 Q) : CtI l yX10_ahead cX10_ahead 4 (some .int) ({ frames := 3, cells := 0, slots := 0, locals := 70 } : Room) D [(cI, .int), (cZ, .boolean)] [.ref (ad 23), .int p1, .int p2] (wM ad cI cZ f_thrown f_text f_textSize f_place f_chips f_gates f_kind f_source f_second f_clock f_readChips f_readPins f_readGates f_readKind f_readLies f_readSource f_readSecond f_readClock f_page f_trial f_book f_doings f_kept f_isKept f_seen f_seenBehind f_seenGate f_seenWorth f_seenWas f_seed f_worth f_known f_hand f_goes f_takes f_crossed f_last f_lastNow f_states X) (fun r u => ∃ w0 w1 w2 w3, u = (wM ad cI cZ w1 f_text f_textSize f_place f_chips f_gates f_kind f_source f_second f_clock f_readChips f_readPins f_readGates f_readKind f_readLies f_readSource f_readSecond f_readClock f_page w2 f_book f_doings f_kept f_isKept f_seen f_seenBehind f_seenGate f_seenWorth f_seenWas f_seed w3 w0 f_hand f_goes f_takes f_crossed f_last f_lastNow f_states X) ∧ Q r w0 w1 w2 w3) := by
  refine CtI.of (by decide) rfl (Nat.le_of_ble_eq_true rfl) ?_
  intro p e s m args below meth c A Z E hret ls hl hw
  have E : gE p m c cX10_ahead 4 s args RX10 D [(cI, .int), (cZ, .boolean)] A := E
  have hx := E.1.1
  have hb := E.1.2.1
  have hl : lv_has ls 4 [(0, .ref (ad 23)), (1, .int p1), (2, .int p2)] := hl
  have L36 : ∀ (n : Nat) (x3 : Int32) (f_known : Int32) (f_thrown : Int32) (f_trial : Nat → Int32) (f_worth : Nat → Int32) (H : Heap) (locs : List Loc) (ls : Array Slot), wp_X10_ahead_h36 f_clock f_gates f_kind f_page f_second f_source p1 p2 Q  n x3 f_known f_thrown f_trial f_worth → gW D s A (wM ad cI cZ f_thrown f_text f_textSize f_place f_chips f_gates f_kind f_source f_second f_clock f_readChips f_readPins f_readGates f_readKind f_readLies f_readSource f_readSecond f_readClock f_page f_trial f_book f_doings f_kept f_isKept f_seen f_seenBehind f_seenGate f_seenWorth f_seenWas f_seed f_worth f_known f_hand f_goes f_takes f_crossed f_last f_lastNow f_states X) H locs → lv_has ls 4 [(0, .ref (ad 23)), (1, .int p1), (2, .int p2), (3, .int x3)] → W p l e ({ frames := 3, cells := 0, slots := 0, locals := 70 } : Room) s m args below meth c H locs 0 0 Z (F0 m 36 ls []) := by
    intro n
    induction n with
    | zero => intro x3 f_known f_thrown f_trial f_worth H locs ls h; exact False.elim h
    | succ n36 ih36 =>
      intro x3 f_known f_thrown f_trial f_worth H locs ls h hw hl
      have h : wp_X10_ahead_b36 f_clock f_gates f_kind f_page f_second f_source p1 p2 Q (wp_X10_ahead_h36 f_clock f_gates f_kind f_page f_second f_source p1 p2 Q  n36) x3 f_known f_thrown f_trial f_worth := h
      unfold wp_X10_ahead_b36 at h
      refine lv_iload_n hx hb dX10_ahead_36 rfl (lv_at hl 3 rfl) ?_
      refine lv_iload_n hx hb dX10_ahead_37 rfl (lv_at hl 1 rfl) ?_
      refine lv_icmp_ge (tgt := 57) hx hb dX10_ahead_38 (by decide) (fun c1 => ?_) (fun c1 => ?_)
      · have h := h.1 c1
        refine lv_aload_n hx hb dX10_ahead_57 rfl (lv_at hl 0 rfl) ?_
        refine lv_aload_n hx hb dX10_ahead_58 rfl (lv_at hl 0 rfl) ?_
        refine gM_X10_47_main E hw dX10_ahead_59 ?_
        refine lv_iload_n hx hb dX10_ahead_62 rfl (lv_at hl 2 rfl) ?_
        refine g_aI E hw (g_rV E hw (c_X10_worthOf_trial h _) ym_X10_worthOf k_671 ⟨rfl, rfl⟩ ⟨Nat.le_of_ble_eq_true rfl, Nat.le_of_ble_eq_true rfl⟩ 23 rfl rfl rfl rfl hl.1 rfl (Nat.le_of_ble_eq_true rfl) ⟨Nat.zero_le _, Nat.zero_le _⟩ dX10_ahead_63) (fun r2 u H locs hq hw => ?_)
        obtain ⟨y3, y4, hu, h⟩ := hq
        rw [hu] at hw
        exact hret _ _ _ _ _ _ ⟨_, _, _, _, rfl, h⟩ hw dX10_ahead_66
      · have h := h.2 c1
        refine lv_aload_n hx hb dX10_ahead_41 rfl (lv_at hl 0 rfl) ?_
        refine lv_aload_n hx hb dX10_ahead_42 rfl (lv_at hl 0 rfl) ?_
        refine gM_X10_47_main E hw dX10_ahead_43 ?_
        refine lv_bipush (v := -9) hx hb dX10_ahead_46 (by decide) ?_
        refine g_aV E hw (g_rV E hw (c_X10_stepOn_trial h _) ym_X10_stepOn k_697 ⟨rfl, rfl⟩ ⟨Nat.le_of_ble_eq_true rfl, Nat.le_of_ble_eq_true rfl⟩ 23 rfl rfl rfl rfl hl.1 rfl (Nat.le_of_ble_eq_true rfl) ⟨Nat.zero_le _, Nat.zero_le _⟩ dX10_ahead_48) (fun u H locs hq hw => ?_)
        obtain ⟨y6, y7, y8, hu, h⟩ := hq
        rw [hu] at hw
        obtain ⟨v9, ev9⟩ : ∃ y : Int32, y = x3 + 1 := ⟨_, rfl⟩
        have h := h v9 ev9
        refine lv_iinc (v := v9) (lv' := [(3, .int v9), (0, .ref (ad 23)), (1, .int p1), (2, .int p2)]) hx hb dX10_ahead_51 hl (k := 3) rfl (by rw [ev9]; rfl) (by decide) rfl (fun ls hl => ?_)
        refine lv_goto (tgt := 36) hx hb dX10_ahead_54 (by decide) ?_
        exact ih36 v9 y6 f_thrown y8 y7 _ _ _ h hw (lv_sub hl [1, 2, 3, 0] rfl)
  unfold wp_X10_ahead at h
  refine lv_aload_n hx hb dX10_ahead_0 rfl (lv_at hl 0 rfl) ?_
  refine lv_iconst (v := 0) hx hb dX10_ahead_1 (by decide) ?_
  refine pM_X10_84_main E hw dX10_ahead_2 (fun H locs hw => ?_)
  refine lv_iload_n hx hb dX10_ahead_5 rfl (lv_at hl 1 rfl) ?_
  refine lv_i2l hx hb dX10_ahead_6 rfl ?_
  refine lv_lconst (v := 0) hx hb dX10_ahead_7 (by decide) ?_
  refine lv_ldc2 (v := 99) hx hb E.1.2.2.2.1 (E.1.2.2.2.2 _ k_693) dX10_ahead_8 ?_
  refine g_aI E hw (g_rS E hw (c_X10_in h _) ym_X10_in k_632 ⟨rfl, rfl⟩ ⟨Nat.le_of_ble_eq_true rfl, Nat.le_of_ble_eq_true rfl⟩ rfl hl.1 rfl (Nat.le_of_ble_eq_true rfl) ⟨Nat.zero_le _, Nat.zero_le _⟩ dX10_ahead_11) (fun r10 u H locs hq hw => ?_)
  obtain ⟨hu, h⟩ := hq
  rw [hu] at hw
  refine lv_if_ne (tgt := 20) hx hb dX10_ahead_14 (by decide) (fun c11 => ?_) (fun c11 => ?_)
  · have h := h.1 c11
    refine lv_aload_n hx hb dX10_ahead_20 rfl (lv_at hl 0 rfl) ?_
    refine lv_iload_n hx hb dX10_ahead_21 rfl (lv_at hl 2 rfl) ?_
    refine g_aI E hw (g_rV E hw (c_X10_noGate h _) ym_X10_noGate k_668 ⟨rfl, rfl⟩ ⟨Nat.le_of_ble_eq_true rfl, Nat.le_of_ble_eq_true rfl⟩ 23 rfl rfl rfl rfl hl.1 rfl (Nat.le_of_ble_eq_true rfl) ⟨Nat.zero_le _, Nat.zero_le _⟩ dX10_ahead_22) (fun r12 u H locs hq hw => ?_)
    obtain ⟨hu, h⟩ := hq
    rw [hu] at hw
    refine lv_if_eq (tgt := 30) hx hb dX10_ahead_25 (by decide) (fun c13 => ?_) (fun c13 => ?_)
    · have h := h.1 c13
      refine lv_aload_n hx hb dX10_ahead_30 rfl (lv_at hl 0 rfl) ?_
      refine g_aV E hw (g_rV E hw (c_X10_layTrial h _) ym_X10_layTrial k_724 ⟨rfl, rfl⟩ ⟨Nat.le_of_ble_eq_true rfl, Nat.le_of_ble_eq_true rfl⟩ 23 rfl rfl rfl rfl hl.1 rfl (Nat.le_of_ble_eq_true rfl) ⟨Nat.zero_le _, Nat.zero_le _⟩ dX10_ahead_31) (fun u H locs hq hw => ?_)
      obtain ⟨y15, hu, h⟩ := hq
      rw [hu] at hw
      refine lv_iconst (v := 0) hx hb dX10_ahead_34 (by decide) ?_
      refine lv_istore_n (lv' := [(3, .int (0 : Int32)), (0, .ref (ad 23)), (1, .int p1), (2, .int p2)]) hx hb dX10_ahead_35 rfl hl (by decide) rfl (fun ls hl => ?_)
      obtain ⟨n, h⟩ := h
      exact L36 n (0 : Int32) f_known (0 : Int32) y15 f_worth _ _ _ h hw (lv_sub hl [1, 2, 3, 0] rfl)
    · have h := h.2 c13
      refine lv_iconst (v := -1) hx hb dX10_ahead_28 (by decide) ?_
      exact hret _ _ _ _ _ _ ⟨_, _, _, _, rfl, h⟩ hw dX10_ahead_29
  · have h := h.2 c11
    refine lv_bipush (v := -2) hx hb dX10_ahead_17 (by decide) ?_
    exact hret _ _ _ _ _ _ ⟨_, _, _, _, rfl, h⟩ hw dX10_ahead_19
set_option maxRecDepth 100000 in
set_option maxHeartbeats 4000000 in
theorem c_X10_stateOf_trial {l : Launch} {D : va_G} {cI cZ : ClassId} {ad : Nat → Nat} {f_thrown : Int32} {f_text : Nat → Int32} {f_textSize : Int32} {f_place : Int32} {f_chips : Int32} {f_gates : Int32} {f_kind : Nat → Int32} {f_source : Nat → Int32} {f_second : Nat → Int32} {f_clock : Nat → Int32} {f_readChips : Int32} {f_readPins : Int32} {f_readGates : Int32} {f_readKind : Nat → Int32} {f_readLies : Nat → Int32} {f_readSource : Nat → Int32} {f_readSecond : Nat → Int32} {f_readClock : Nat → Int32} {f_page : Nat → Int32} {f_trial : Nat → Int32} {f_book : Nat → Int32} {f_doings : Int32} {f_kept : Nat → Int32} {f_isKept : Nat → Int32} {f_seen : Int32} {f_seenBehind : Nat → Int32} {f_seenGate : Nat → Int32} {f_seenWorth : Nat → Int32} {f_seenWas : Nat → Int32} {f_seed : Int64} {f_worth : Nat → Int32} {f_known : Int32} {f_hand : Nat → Int32} {f_goes : Nat → Int32} {f_takes : Int32} {f_crossed : Int32} {f_last : Int32} {f_lastNow : Int32} {f_states : Nat → Int32} {X : va_W} {Q : Int32 → Int32 → (Nat → Int32) → Prop} (h : wp_X10_stateOf f_gates f_kind f_known f_second f_source f_worth f_trial Q) : CtI l yX10_stateOf cX10_stateOf 4 (some .int) ({ frames := 2, cells := 0, slots := 0, locals := 47 } : Room) D [(cI, .int), (cZ, .boolean)] [.ref (ad 23), .ref (ad 11)] (wM ad cI cZ f_thrown f_text f_textSize f_place f_chips f_gates f_kind f_source f_second f_clock f_readChips f_readPins f_readGates f_readKind f_readLies f_readSource f_readSecond f_readClock f_page f_trial f_book f_doings f_kept f_isKept f_seen f_seenBehind f_seenGate f_seenWorth f_seenWas f_seed f_worth f_known f_hand f_goes f_takes f_crossed f_last f_lastNow f_states X) (fun r u => ∃ w0 w1, u = (wM ad cI cZ f_thrown f_text f_textSize f_place f_chips f_gates f_kind f_source f_second f_clock f_readChips f_readPins f_readGates f_readKind f_readLies f_readSource f_readSecond f_readClock f_page f_trial f_book f_doings f_kept f_isKept f_seen f_seenBehind f_seenGate f_seenWorth f_seenWas f_seed w1 w0 f_hand f_goes f_takes f_crossed f_last f_lastNow f_states X) ∧ Q r w0 w1) := by
  refine CtI.of (by decide) rfl (Nat.le_of_ble_eq_true rfl) ?_
  intro p e s m args below meth c A Z E hret ls hl hw
  have E : gE p m c cX10_stateOf 4 s args RX10 D [(cI, .int), (cZ, .boolean)] A := E
  have hx := E.1.1
  have hb := E.1.2.1
  have hl : lv_has ls 4 [(0, .ref (ad 23)), (1, .ref (ad 11))] := hl
  have L16 : ∀ (n : Nat) (x2 : Int32) (x3 : Int32) (f_known : Int32) (f_worth : Nat → Int32) (H : Heap) (locs : List Loc) (ls : Array Slot), wp_X10_stateOf_h16 f_gates f_kind f_second f_source f_trial Q  n x2 x3 f_known f_worth → gW D s A (wM ad cI cZ f_thrown f_text f_textSize f_place f_chips f_gates f_kind f_source f_second f_clock f_readChips f_readPins f_readGates f_readKind f_readLies f_readSource f_readSecond f_readClock f_page f_trial f_book f_doings f_kept f_isKept f_seen f_seenBehind f_seenGate f_seenWorth f_seenWas f_seed f_worth f_known f_hand f_goes f_takes f_crossed f_last f_lastNow f_states X) H locs → lv_has ls 4 [(0, .ref (ad 23)), (2, .int x2), (3, .int x3)] → W p l e ({ frames := 2, cells := 0, slots := 0, locals := 47 } : Room) s m args below meth c H locs 0 0 Z (F0 m 16 ls []) := by
    intro n
    induction n with
    | zero => intro x2 x3 f_known f_worth H locs ls h; exact False.elim h
    | succ n16 ih16 =>
      intro x2 x3 f_known f_worth H locs ls h hw hl
      have h : wp_X10_stateOf_b16 f_gates f_kind f_second f_source f_trial Q (wp_X10_stateOf_h16 f_gates f_kind f_second f_source f_trial Q  n16) x2 x3 f_known f_worth := h
      unfold wp_X10_stateOf_b16 at h
      refine lv_iload_n hx hb dX10_stateOf_16 rfl (lv_at hl 2 rfl) ?_
      refine lv_aload_n hx hb dX10_stateOf_17 rfl (lv_at hl 0 rfl) ?_
      refine gM_X10_87_main E hw dX10_stateOf_18 ?_
      refine lv_icmp_ge (tgt := 41) hx hb dX10_stateOf_21 (by decide) (fun c1 => ?_) (fun c1 => ?_)
      · have h := h.1 c1
        refine lv_iload_n hx hb dX10_stateOf_41 rfl (lv_at hl 1 rfl) ?_
        exact hret _ _ _ _ _ _ ⟨_, _, rfl, h⟩ hw dX10_stateOf_42
      · have h := h.2 c1
        refine lv_iconst (v := 3) hx hb dX10_stateOf_24 (by decide) ?_
        refine lv_iload_n hx hb dX10_stateOf_25 rfl (lv_at hl 1 rfl) ?_
        refine lv_imul hx hb dX10_stateOf_26 ?_
        refine lv_aload_n hx hb dX10_stateOf_27 rfl (lv_at hl 0 rfl) ?_
        refine gM_X10_72_main E hw dX10_stateOf_28 ?_
        refine lv_iload_n hx hb dX10_stateOf_31 rfl (lv_at hl 2 rfl) ?_
        refine lM_worth E hw h.1 dX10_stateOf_32 ?_
        have h := h.2
        refine lv_iadd hx hb dX10_stateOf_33 ?_
        refine lv_topi (fun v2 ev2 => ?_)
        have h := h v2 ev2
        refine lv_istore_n (lv' := [(2, .int v2), (0, .ref (ad 23)), (3, .int x3)]) hx hb dX10_stateOf_34 rfl hl (by decide) rfl (fun ls hl => ?_)
        obtain ⟨v3, ev3⟩ : ∃ y : Int32, y = x3 + 1 := ⟨_, rfl⟩
        have h := h v3 ev3
        refine lv_iinc (v := v3) (lv' := [(3, .int v3), (2, .int v2), (0, .ref (ad 23))]) hx hb dX10_stateOf_35 hl (k := 2) rfl (by rw [ev3]; rfl) (by decide) rfl (fun ls hl => ?_)
        refine lv_goto (tgt := 16) hx hb dX10_stateOf_38 (by decide) ?_
        exact ih16 v2 v3 f_known f_worth _ _ _ h hw (lv_sub hl [2, 1, 0] rfl)
  unfold wp_X10_stateOf at h
  refine lv_aload_n hx hb dX10_stateOf_0 rfl (lv_at hl 0 rfl) ?_
  refine lv_aload_n hx hb dX10_stateOf_1 rfl (lv_at hl 1 rfl) ?_
  refine lv_bipush (v := -9) hx hb dX10_stateOf_2 (by decide) ?_
  refine g_aV E hw (g_rV E hw (c_X10_layWorth_trial h _) ym_X10_layWorth k_674 ⟨rfl, rfl⟩ ⟨Nat.le_of_ble_eq_true rfl, Nat.le_of_ble_eq_true rfl⟩ 23 rfl rfl rfl rfl hl.1 rfl (Nat.le_of_ble_eq_true rfl) ⟨Nat.zero_le _, Nat.zero_le _⟩ dX10_stateOf_4) (fun u H locs hq hw => ?_)
  obtain ⟨y5, y6, hu, h⟩ := hq
  rw [hu] at hw
  refine lv_aload_n hx hb dX10_stateOf_7 rfl (lv_at hl 1 rfl) ?_
  refine lv_bipush (v := 21) hx hb dX10_stateOf_8 (by decide) ?_
  refine lM_trial E hw h.1 dX10_stateOf_10 ?_
  have h := h.2
  refine lv_iconst (v := 2) hx hb dX10_stateOf_11 (by decide) ?_
  refine lv_irem hx hb dX10_stateOf_12 (by decide) ?_
  refine lv_topi (fun v7 ev7 => ?_)
  have h := h v7 ev7
  refine lv_istore_n (lv' := [(2, .int v7), (0, .ref (ad 23)), (1, .ref (ad 11))]) hx hb dX10_stateOf_13 rfl hl (by decide) rfl (fun ls hl => ?_)
  refine lv_iconst (v := 0) hx hb dX10_stateOf_14 (by decide) ?_
  refine lv_istore_n (lv' := [(3, .int (0 : Int32)), (2, .int v7), (0, .ref (ad 23)), (1, .ref (ad 11))]) hx hb dX10_stateOf_15 rfl hl (by decide) rfl (fun ls hl => ?_)
  obtain ⟨n, h⟩ := h
  exact L16 n v7 (0 : Int32) y5 y6 _ _ _ h hw (lv_sub hl [2, 1, 0] rfl)
set_option maxRecDepth 100000 in
set_option maxHeartbeats 4000000 in
theorem c_X10_round {l : Launch} {D : va_G} {cI cZ : ClassId} {ad : Nat → Nat} {f_thrown : Int32} {f_text : Nat → Int32} {f_textSize : Int32} {f_place : Int32} {f_chips : Int32} {f_gates : Int32} {f_kind : Nat → Int32} {f_source : Nat → Int32} {f_second : Nat → Int32} {f_clock : Nat → Int32} {f_readChips : Int32} {f_readPins : Int32} {f_readGates : Int32} {f_readKind : Nat → Int32} {f_readLies : Nat → Int32} {f_readSource : Nat → Int32} {f_readSecond : Nat → Int32} {f_readClock : Nat → Int32} {f_page : Nat → Int32} {f_trial : Nat → Int32} {f_book : Nat → Int32} {f_doings : Int32} {f_kept : Nat → Int32} {f_isKept : Nat → Int32} {f_seen : Int32} {f_seenBehind : Nat → Int32} {f_seenGate : Nat → Int32} {f_seenWorth : Nat → Int32} {f_seenWas : Nat → Int32} {f_seed : Int64} {f_worth : Nat → Int32} {f_known : Int32} {f_hand : Nat → Int32} {f_goes : Nat → Int32} {f_takes : Int32} {f_crossed : Int32} {f_last : Int32} {f_lastNow : Int32} {f_states : Nat → Int32} {X : va_W} {p1 : Int32} {Q : Int32 → Int32 → (Nat → Int32) → Int32 → (Nat → Int32) → (Nat → Int32) → Prop} (h : wp_X10_round f_clock f_gates f_kind f_known f_page f_second f_source f_states f_thrown f_trial f_worth p1 Q) : CtI l yX10_round cX10_round 4 (some .int) ({ frames := 3, cells := 0, slots := 0, locals := 70 } : Room) D [(cI, .int), (cZ, .boolean)] [.ref (ad 23), .int p1] (wM ad cI cZ f_thrown f_text f_textSize f_place f_chips f_gates f_kind f_source f_second f_clock f_readChips f_readPins f_readGates f_readKind f_readLies f_readSource f_readSecond f_readClock f_page f_trial f_book f_doings f_kept f_isKept f_seen f_seenBehind f_seenGate f_seenWorth f_seenWas f_seed f_worth f_known f_hand f_goes f_takes f_crossed f_last f_lastNow f_states X) (fun r u => ∃ w0 w1 w2 w3 w4, u = (wM ad cI cZ w2 f_text f_textSize f_place f_chips f_gates f_kind f_source f_second f_clock f_readChips f_readPins f_readGates f_readKind f_readLies f_readSource f_readSecond f_readClock f_page w3 f_book f_doings f_kept f_isKept f_seen f_seenBehind f_seenGate f_seenWorth f_seenWas f_seed w4 w0 f_hand f_goes f_takes f_crossed f_last f_lastNow w1 X) ∧ Q r w0 w1 w2 w3 w4) := by
  refine CtI.of (by decide) rfl (Nat.le_of_ble_eq_true rfl) ?_
  intro p e s m args below meth c A Z E hret ls hl hw
  have E : gE p m c cX10_round 4 s args RX10 D [(cI, .int), (cZ, .boolean)] A := E
  have hx := E.1.1
  have hb := E.1.2.1
  have hl : lv_has ls 4 [(0, .ref (ad 23)), (1, .int p1)] := hl
  have L62 : ∀ (n : Nat) (x2 : Int32) (f_known : Int32) (f_states : Nat → Int32) (f_thrown : Int32) (f_trial : Nat → Int32) (f_worth : Nat → Int32) (H : Heap) (locs : List Loc) (ls : Array Slot), wp_X10_round_h62 f_clock f_gates f_kind f_page f_second f_source p1 Q  n x2 f_known f_states f_thrown f_trial f_worth → gW D s A (wM ad cI cZ f_thrown f_text f_textSize f_place f_chips f_gates f_kind f_source f_second f_clock f_readChips f_readPins f_readGates f_readKind f_readLies f_readSource f_readSecond f_readClock f_page f_trial f_book f_doings f_kept f_isKept f_seen f_seenBehind f_seenGate f_seenWorth f_seenWas f_seed f_worth f_known f_hand f_goes f_takes f_crossed f_last f_lastNow f_states X) H locs → lv_has ls 4 [(0, .ref (ad 23)), (1, .int p1), (2, .int x2)] → W p l e ({ frames := 3, cells := 0, slots := 0, locals := 70 } : Room) s m args below meth c H locs 0 0 Z (F0 m 62 ls []) := by
    intro n
    induction n with
    | zero => intro x2 f_known f_states f_thrown f_trial f_worth H locs ls h; exact False.elim h
    | succ n62 ih62 =>
      intro x2 f_known f_states f_thrown f_trial f_worth H locs ls h hw hl
      have h : wp_X10_round_b62 f_clock f_gates f_kind f_page f_second f_source p1 Q (wp_X10_round_h62 f_clock f_gates f_kind f_page f_second f_source p1 Q  n62) x2 f_known f_states f_thrown f_trial f_worth := h
      have L70 : ∀ (n : Nat) (x2 : Int32) (x3 : Int32) (f_known : Int32) (f_states : Nat → Int32) (f_thrown : Int32) (f_trial : Nat → Int32) (f_worth : Nat → Int32) (H : Heap) (locs : List Loc) (ls : Array Slot), wp_X10_round_h70 f_clock f_gates f_kind f_page f_second f_source p1 Q (wp_X10_round_h62 f_clock f_gates f_kind f_page f_second f_source p1 Q  n62) n x2 x3 f_known f_states f_thrown f_trial f_worth → gW D s A (wM ad cI cZ f_thrown f_text f_textSize f_place f_chips f_gates f_kind f_source f_second f_clock f_readChips f_readPins f_readGates f_readKind f_readLies f_readSource f_readSecond f_readClock f_page f_trial f_book f_doings f_kept f_isKept f_seen f_seenBehind f_seenGate f_seenWorth f_seenWas f_seed f_worth f_known f_hand f_goes f_takes f_crossed f_last f_lastNow f_states X) H locs → lv_has ls 4 [(0, .ref (ad 23)), (1, .int p1), (2, .int x2), (3, .int x3)] → W p l e ({ frames := 3, cells := 0, slots := 0, locals := 70 } : Room) s m args below meth c H locs 0 0 Z (F0 m 70 ls []) := by
        intro n
        induction n with
        | zero => intro x2 x3 f_known f_states f_thrown f_trial f_worth H locs ls h; exact False.elim h
        | succ n70 ih70 =>
          intro x2 x3 f_known f_states f_thrown f_trial f_worth H locs ls h hw hl
          have h : wp_X10_round_b70 f_clock f_gates f_kind f_page f_second f_source p1 Q (wp_X10_round_h62 f_clock f_gates f_kind f_page f_second f_source p1 Q  n62) (wp_X10_round_h70 f_clock f_gates f_kind f_page f_second f_source p1 Q (wp_X10_round_h62 f_clock f_gates f_kind f_page f_second f_source p1 Q  n62) n70) x2 x3 f_known f_states f_thrown f_trial f_worth := h
          unfold wp_X10_round_b70 at h
          refine lv_iload_n hx hb dX10_round_70 rfl (lv_at hl 3 rfl) ?_
          refine lv_bipush (v := 60) hx hb dX10_round_71 (by decide) ?_
          refine lv_icmp_gt (tgt := 109) hx hb dX10_round_73 (by decide) (fun c1 => ?_) (fun c1 => ?_)
          · have h := h.1 c1
            obtain ⟨v2, ev2⟩ : ∃ y : Int32, y = x2 + 1 := ⟨_, rfl⟩
            have h := h v2 ev2
            refine lv_iinc (v := v2) (lv' := [(2, .int v2), (0, .ref (ad 23)), (1, .int p1), (3, .int x3)]) hx hb dX10_round_109 hl (k := 2) rfl (by rw [ev2]; rfl) (by decide) rfl (fun ls hl => ?_)
            refine lv_goto (tgt := 62) hx hb dX10_round_112 (by decide) ?_
            exact ih62 v2 f_known f_states f_thrown f_trial f_worth _ _ _ h hw (lv_sub hl [1, 2, 0] rfl)
          · have h := h.2 c1
            refine lv_aload_n hx hb dX10_round_76 rfl (lv_at hl 0 rfl) ?_
            refine gM_X10_81_main E hw dX10_round_77 ?_
            refine lv_iload_n hx hb dX10_round_80 rfl (lv_at hl 2 rfl) ?_
            refine lM_states E hw h.1 dX10_round_81 ?_
            have h := h.2
            refine lv_aload_n hx hb dX10_round_82 rfl (lv_at hl 0 rfl) ?_
            refine gM_X10_81_main E hw dX10_round_83 ?_
            refine lv_iload_n hx hb dX10_round_86 rfl (lv_at hl 2 rfl) ?_
            refine lv_iload_n hx hb dX10_round_87 rfl (lv_at hl 3 rfl) ?_
            refine lv_iadd hx hb dX10_round_88 ?_
            refine lM_states E hw h.1 dX10_round_89 ?_
            have h := h.2
            refine lv_icmp_ne (tgt := 103) hx hb dX10_round_90 (by decide) (fun c3 => ?_) (fun c3 => ?_)
            · have h := h.1 c3
              obtain ⟨v4, ev4⟩ : ∃ y : Int32, y = x3 + 1 := ⟨_, rfl⟩
              have h := h v4 ev4
              refine lv_iinc (v := v4) (lv' := [(3, .int v4), (0, .ref (ad 23)), (1, .int p1), (2, .int x2)]) hx hb dX10_round_103 hl (k := 3) rfl (by rw [ev4]; rfl) (by decide) rfl (fun ls hl => ?_)
              refine lv_goto (tgt := 70) hx hb dX10_round_106 (by decide) ?_
              exact ih70 x2 v4 f_known f_states f_thrown f_trial f_worth _ _ _ h hw (lv_sub hl [1, 2, 3, 0] rfl)
            · have h := h.2 c3
              refine lv_iload_n hx hb dX10_round_93 rfl (lv_at hl 1 rfl) ?_
              refine lv_if_ne (tgt := 101) hx hb dX10_round_94 (by decide) (fun c5 => ?_) (fun c5 => ?_)
              · have h := h.1 c5
                refine lv_iload_n hx hb dX10_round_101 rfl (lv_at hl 3 rfl) ?_
                exact hret _ _ _ _ _ _ ⟨_, _, _, _, _, rfl, h⟩ hw dX10_round_102
              · have h := h.2 c5
                refine lv_iload_n hx hb dX10_round_97 rfl (lv_at hl 2 rfl) ?_
                refine lv_goto (tgt := 102) hx hb dX10_round_98 (by decide) ?_
                exact hret _ _ _ _ _ _ ⟨_, _, _, _, _, rfl, h⟩ hw dX10_round_102
      unfold wp_X10_round_b62 at h
      refine lv_iload_n hx hb dX10_round_62 rfl (lv_at hl 2 rfl) ?_
      refine lv_bipush (v := 60) hx hb dX10_round_63 (by decide) ?_
      refine lv_icmp_gt (tgt := 115) hx hb dX10_round_65 (by decide) (fun c6 => ?_) (fun c6 => ?_)
      · have h := h.1 c6
        refine lv_bipush (v := -9) hx hb dX10_round_115 (by decide) ?_
        exact hret _ _ _ _ _ _ ⟨_, _, _, _, _, rfl, h⟩ hw dX10_round_117
      · have h := h.2 c6
        refine lv_iconst (v := 1) hx hb dX10_round_68 (by decide) ?_
        refine lv_istore_n (lv' := [(3, .int (1 : Int32)), (0, .ref (ad 23)), (1, .int p1), (2, .int x2)]) hx hb dX10_round_69 rfl hl (by decide) rfl (fun ls hl => ?_)
        obtain ⟨n, h⟩ := h
        exact L70 n x2 (1 : Int32) f_known f_states f_thrown f_trial f_worth _ _ _ h hw (lv_sub hl [1, 2, 3, 0] rfl)
  have L24 : ∀ (n : Nat) (x2 : Int32) (f_known : Int32) (f_states : Nat → Int32) (f_thrown : Int32) (f_trial : Nat → Int32) (f_worth : Nat → Int32) (H : Heap) (locs : List Loc) (ls : Array Slot), wp_X10_round_h24 f_clock f_gates f_kind f_page f_second f_source p1 Q  n x2 f_known f_states f_thrown f_trial f_worth → gW D s A (wM ad cI cZ f_thrown f_text f_textSize f_place f_chips f_gates f_kind f_source f_second f_clock f_readChips f_readPins f_readGates f_readKind f_readLies f_readSource f_readSecond f_readClock f_page f_trial f_book f_doings f_kept f_isKept f_seen f_seenBehind f_seenGate f_seenWorth f_seenWas f_seed f_worth f_known f_hand f_goes f_takes f_crossed f_last f_lastNow f_states X) H locs → lv_has ls 4 [(0, .ref (ad 23)), (1, .int p1), (2, .int x2)] → W p l e ({ frames := 3, cells := 0, slots := 0, locals := 70 } : Room) s m args below meth c H locs 0 0 Z (F0 m 24 ls []) := by
    intro n
    induction n with
    | zero => intro x2 f_known f_states f_thrown f_trial f_worth H locs ls h; exact False.elim h
    | succ n24 ih24 =>
      intro x2 f_known f_states f_thrown f_trial f_worth H locs ls h hw hl
      have h : wp_X10_round_b24 f_clock f_gates f_kind f_page f_second f_source p1 Q (wp_X10_round_h24 f_clock f_gates f_kind f_page f_second f_source p1 Q  n24) x2 f_known f_states f_thrown f_trial f_worth := h
      unfold wp_X10_round_b24 at h
      refine lv_iload_n hx hb dX10_round_24 rfl (lv_at hl 2 rfl) ?_
      refine lv_bipush (v := 121) hx hb dX10_round_25 (by decide) ?_
      refine lv_icmp_ge (tgt := 60) hx hb dX10_round_27 (by decide) (fun c7 => ?_) (fun c7 => ?_)
      · have h := h.1 c7
        refine lv_iconst (v := 0) hx hb dX10_round_60 (by decide) ?_
        refine lv_istore_n (lv' := [(2, .int (0 : Int32)), (0, .ref (ad 23)), (1, .int p1)]) hx hb dX10_round_61 rfl hl (by decide) rfl (fun ls hl => ?_)
        obtain ⟨n, h⟩ := h
        exact L62 n (0 : Int32) f_known f_states f_thrown f_trial f_worth _ _ _ h hw (lv_sub hl [1, 2, 0] rfl)
      · have h := h.2 c7
        refine lv_aload_n hx hb dX10_round_30 rfl (lv_at hl 0 rfl) ?_
        refine gM_X10_81_main E hw dX10_round_31 ?_
        refine lv_iload_n hx hb dX10_round_34 rfl (lv_at hl 2 rfl) ?_
        refine lv_aload_n hx hb dX10_round_35 rfl (lv_at hl 0 rfl) ?_
        refine lv_aload_n hx hb dX10_round_36 rfl (lv_at hl 0 rfl) ?_
        refine gM_X10_47_main E hw dX10_round_37 ?_
        refine g_aI E hw (g_rV E hw (c_X10_stateOf_trial h _) ym_X10_stateOf k_731 ⟨rfl, rfl⟩ ⟨Nat.le_of_ble_eq_true rfl, Nat.le_of_ble_eq_true rfl⟩ 23 rfl rfl rfl rfl hl.1 rfl (Nat.le_of_ble_eq_true rfl) ⟨Nat.zero_le _, Nat.zero_le _⟩ dX10_round_40) (fun r8 u H locs hq hw => ?_)
        obtain ⟨y9, y10, hu, h⟩ := hq
        rw [hu] at hw
        refine sM_states E hw h.1 dX10_round_43 (fun y11 ey11 H locs hw => ?_)
        have h := h.2 y11 ey11
        refine lv_aload_n hx hb dX10_round_44 rfl (lv_at hl 0 rfl) ?_
        refine lv_aload_n hx hb dX10_round_45 rfl (lv_at hl 0 rfl) ?_
        refine gM_X10_47_main E hw dX10_round_46 ?_
        refine lv_bipush (v := -9) hx hb dX10_round_49 (by decide) ?_
        refine g_aV E hw (g_rV E hw (c_X10_stepOn_trial h _) ym_X10_stepOn k_697 ⟨rfl, rfl⟩ ⟨Nat.le_of_ble_eq_true rfl, Nat.le_of_ble_eq_true rfl⟩ 23 rfl rfl rfl rfl hl.1 rfl (Nat.le_of_ble_eq_true rfl) ⟨Nat.zero_le _, Nat.zero_le _⟩ dX10_round_51) (fun u H locs hq hw => ?_)
        obtain ⟨y13, y14, y15, hu, h⟩ := hq
        rw [hu] at hw
        obtain ⟨v16, ev16⟩ : ∃ y : Int32, y = x2 + 1 := ⟨_, rfl⟩
        have h := h v16 ev16
        refine lv_iinc (v := v16) (lv' := [(2, .int v16), (0, .ref (ad 23)), (1, .int p1)]) hx hb dX10_round_54 hl (k := 2) rfl (by rw [ev16]; rfl) (by decide) rfl (fun ls hl => ?_)
        refine lv_goto (tgt := 24) hx hb dX10_round_57 (by decide) ?_
        exact ih24 v16 y13 y11 f_thrown y15 y14 _ _ _ h hw (lv_sub hl [1, 2, 0] rfl)
  unfold wp_X10_round at h
  refine lv_aload_n hx hb dX10_round_0 rfl (lv_at hl 0 rfl) ?_
  refine lv_iconst (v := 0) hx hb dX10_round_1 (by decide) ?_
  refine pM_X10_84_main E hw dX10_round_2 (fun H locs hw => ?_)
  refine lv_iload_n hx hb dX10_round_5 rfl (lv_at hl 1 rfl) ?_
  refine lv_i2l hx hb dX10_round_6 rfl ?_
  refine lv_lconst (v := 0) hx hb dX10_round_7 (by decide) ?_
  refine lv_lconst (v := 1) hx hb dX10_round_8 (by decide) ?_
  refine g_aI E hw (g_rS E hw (c_X10_in h _) ym_X10_in k_632 ⟨rfl, rfl⟩ ⟨Nat.le_of_ble_eq_true rfl, Nat.le_of_ble_eq_true rfl⟩ rfl hl.1 rfl (Nat.le_of_ble_eq_true rfl) ⟨Nat.zero_le _, Nat.zero_le _⟩ dX10_round_9) (fun r17 u H locs hq hw => ?_)
  obtain ⟨hu, h⟩ := hq
  rw [hu] at hw
  refine lv_if_ne (tgt := 18) hx hb dX10_round_12 (by decide) (fun c18 => ?_) (fun c18 => ?_)
  · have h := h.1 c18
    refine lv_aload_n hx hb dX10_round_18 rfl (lv_at hl 0 rfl) ?_
    refine g_aV E hw (g_rV E hw (c_X10_layTrial h _) ym_X10_layTrial k_724 ⟨rfl, rfl⟩ ⟨Nat.le_of_ble_eq_true rfl, Nat.le_of_ble_eq_true rfl⟩ 23 rfl rfl rfl rfl hl.1 rfl (Nat.le_of_ble_eq_true rfl) ⟨Nat.zero_le _, Nat.zero_le _⟩ dX10_round_19) (fun u H locs hq hw => ?_)
    obtain ⟨y20, hu, h⟩ := hq
    rw [hu] at hw
    refine lv_iconst (v := 0) hx hb dX10_round_22 (by decide) ?_
    refine lv_istore_n (lv' := [(2, .int (0 : Int32)), (0, .ref (ad 23)), (1, .int p1)]) hx hb dX10_round_23 rfl hl (by decide) rfl (fun ls hl => ?_)
    obtain ⟨n, h⟩ := h
    exact L24 n (0 : Int32) f_known f_states (0 : Int32) y20 f_worth _ _ _ h hw (lv_sub hl [1, 2, 0] rfl)
  · have h := h.2 c18
    refine lv_bipush (v := -2) hx hb dX10_round_15 (by decide) ?_
    exact hret _ _ _ _ _ _ ⟨_, _, _, _, _, rfl, h⟩ hw dX10_round_17
set_option maxRecDepth 100000 in
set_option maxHeartbeats 4000000 in
theorem c_X10_isWanted_page {l : Launch} {D : va_G} {cI cZ : ClassId} {ad : Nat → Nat} {f_thrown : Int32} {f_text : Nat → Int32} {f_textSize : Int32} {f_place : Int32} {f_chips : Int32} {f_gates : Int32} {f_kind : Nat → Int32} {f_source : Nat → Int32} {f_second : Nat → Int32} {f_clock : Nat → Int32} {f_readChips : Int32} {f_readPins : Int32} {f_readGates : Int32} {f_readKind : Nat → Int32} {f_readLies : Nat → Int32} {f_readSource : Nat → Int32} {f_readSecond : Nat → Int32} {f_readClock : Nat → Int32} {f_page : Nat → Int32} {f_trial : Nat → Int32} {f_book : Nat → Int32} {f_doings : Int32} {f_kept : Nat → Int32} {f_isKept : Nat → Int32} {f_seen : Int32} {f_seenBehind : Nat → Int32} {f_seenGate : Nat → Int32} {f_seenWorth : Nat → Int32} {f_seenWas : Nat → Int32} {f_seed : Int64} {f_worth : Nat → Int32} {f_known : Int32} {f_hand : Nat → Int32} {f_goes : Nat → Int32} {f_takes : Int32} {f_crossed : Int32} {f_last : Int32} {f_lastNow : Int32} {f_states : Nat → Int32} {X : va_W} {p2 : Int32} {p3 : Int32} {Q : Int32 → Prop} (h : wp_X10_isWanted f_gates f_second f_source f_page p2 p3 Q) : CtI l yX10_isWanted cX10_isWanted 8 (some .boolean) ({ frames := 0, cells := 0, slots := 0, locals := 0 } : Room) D [(cI, .int), (cZ, .boolean)] [.ref (ad 23), .ref (ad 12), .int p2, .int p3] (wM ad cI cZ f_thrown f_text f_textSize f_place f_chips f_gates f_kind f_source f_second f_clock f_readChips f_readPins f_readGates f_readKind f_readLies f_readSource f_readSecond f_readClock f_page f_trial f_book f_doings f_kept f_isKept f_seen f_seenBehind f_seenGate f_seenWorth f_seenWas f_seed f_worth f_known f_hand f_goes f_takes f_crossed f_last f_lastNow f_states X) (fun r u => u = (wM ad cI cZ f_thrown f_text f_textSize f_place f_chips f_gates f_kind f_source f_second f_clock f_readChips f_readPins f_readGates f_readKind f_readLies f_readSource f_readSecond f_readClock f_page f_trial f_book f_doings f_kept f_isKept f_seen f_seenBehind f_seenGate f_seenWorth f_seenWas f_seed f_worth f_known f_hand f_goes f_takes f_crossed f_last f_lastNow f_states X) ∧ Q r) := by
  refine CtI.ofZ (by decide) rfl (Nat.le_of_ble_eq_true rfl) ?_
  intro p e s m args below meth c A Z E hret ls hl hw
  have E : gE p m c cX10_isWanted 8 s args RX10 D [(cI, .int), (cZ, .boolean)] A := E
  have hx := E.1.1
  have hb := E.1.2.1
  have hl : lv_has ls 8 [(0, .ref (ad 23)), (1, .ref (ad 12)), (2, .int p2), (3, .int p3)] := hl
  have L14 : ∀ (n : Nat) (x4 : Int32) (x5 : Int32) (x6 : Int32) (H : Heap) (locs : List Loc) (ls : Array Slot), wp_X10_isWanted_h14 f_gates f_second f_source f_page p2 p3 Q  n x4 x5 x6 → gW D s A (wM ad cI cZ f_thrown f_text f_textSize f_place f_chips f_gates f_kind f_source f_second f_clock f_readChips f_readPins f_readGates f_readKind f_readLies f_readSource f_readSecond f_readClock f_page f_trial f_book f_doings f_kept f_isKept f_seen f_seenBehind f_seenGate f_seenWorth f_seenWas f_seed f_worth f_known f_hand f_goes f_takes f_crossed f_last f_lastNow f_states X) H locs → lv_has ls 8 [(0, .ref (ad 23)), (1, .ref (ad 12)), (2, .int p2), (3, .int p3), (4, .int x4), (5, .int x5), (6, .int x6)] → W p l e ({ frames := 0, cells := 0, slots := 0, locals := 0 } : Room) s m args below meth c H locs 0 0 Z (F0 m 14 ls []) := by
    intro n
    induction n with
    | zero => intro x4 x5 x6 H locs ls h; exact False.elim h
    | succ n14 ih14 =>
      intro x4 x5 x6 H locs ls h hw hl
      have h : wp_X10_isWanted_b14 f_gates f_second f_source f_page p2 p3 Q (wp_X10_isWanted_h14 f_gates f_second f_source f_page p2 p3 Q  n14) x4 x5 x6 := h
      have J91 : ∀ (x4 : Int32) (x6 : Int32) (s0 : Int32) (H : Heap) (locs : List Loc) (ls : Array Slot), wp_X10_isWanted_b91 f_gates f_second f_source f_page p2 p3 Q (wp_X10_isWanted_h14 f_gates f_second f_source f_page p2 p3 Q  n14) x4 x6 s0 → gW D s A (wM ad cI cZ f_thrown f_text f_textSize f_place f_chips f_gates f_kind f_source f_second f_clock f_readChips f_readPins f_readGates f_readKind f_readLies f_readSource f_readSecond f_readClock f_page f_trial f_book f_doings f_kept f_isKept f_seen f_seenBehind f_seenGate f_seenWorth f_seenWas f_seed f_worth f_known f_hand f_goes f_takes f_crossed f_last f_lastNow f_states X) H locs → lv_has ls 8 [(0, .ref (ad 23)), (1, .ref (ad 12)), (2, .int p2), (3, .int p3), (4, .int x4), (6, .int x6)] → W p l e ({ frames := 0, cells := 0, slots := 0, locals := 0 } : Room) s m args below meth c H locs 0 0 Z (F0 m 91 ls [.int s0]) := by
        intro x4 x6 s0 H locs ls h hw hl
        unfold wp_X10_isWanted_b91 at h
        refine lv_istore (lv' := [(5, .int s0), (0, .ref (ad 23)), (1, .ref (ad 12)), (2, .int p2), (3, .int p3), (4, .int x4), (6, .int x6)]) hx hb dX10_isWanted_91 hl (by decide) rfl (fun ls hl => ?_)
        obtain ⟨v1, ev1⟩ : ∃ y : Int32, y = x6 + 1 := ⟨_, rfl⟩
        have h := h v1 ev1
        refine lv_iinc (v := v1) (lv' := [(6, .int v1), (5, .int s0), (0, .ref (ad 23)), (1, .ref (ad 12)), (2, .int p2), (3, .int p3), (4, .int x4)]) hx hb dX10_isWanted_93 hl (k := 6) rfl (by rw [ev1]; rfl) (by decide) rfl (fun ls hl => ?_)
        refine lv_goto (tgt := 14) hx hb dX10_isWanted_96 (by decide) ?_
        exact ih14 x4 s0 v1 _ _ _ h hw (lv_sub hl [2, 3, 4, 5, 6, 1, 0] rfl)
      have J86 : ∀ (x4 : Int32) (x6 : Int32) (H : Heap) (locs : List Loc) (ls : Array Slot), wp_X10_isWanted_b86 f_gates f_second f_source f_page p2 p3 Q (wp_X10_isWanted_h14 f_gates f_second f_source f_page p2 p3 Q  n14) x4 x6 → gW D s A (wM ad cI cZ f_thrown f_text f_textSize f_place f_chips f_gates f_kind f_source f_second f_clock f_readChips f_readPins f_readGates f_readKind f_readLies f_readSource f_readSecond f_readClock f_page f_trial f_book f_doings f_kept f_isKept f_seen f_seenBehind f_seenGate f_seenWorth f_seenWas f_seed f_worth f_known f_hand f_goes f_takes f_crossed f_last f_lastNow f_states X) H locs → lv_has ls 8 [(0, .ref (ad 23)), (1, .ref (ad 12)), (2, .int p2), (3, .int p3), (4, .int x4), (6, .int x6)] → W p l e ({ frames := 0, cells := 0, slots := 0, locals := 0 } : Room) s m args below meth c H locs 0 0 Z (F0 m 86 ls []) := by
        intro x4 x6 H locs ls h hw hl
        unfold wp_X10_isWanted_b86 at h
        refine lv_iconst (v := 1) hx hb dX10_isWanted_86 (by decide) ?_
        refine lv_goto (tgt := 91) hx hb dX10_isWanted_87 (by decide) ?_
        exact J91 x4 x6 (1 : Int32) _ _ _ h hw (lv_sub hl [0, 1, 2, 3, 4, 5] rfl)
      have J90 : ∀ (x4 : Int32) (x6 : Int32) (H : Heap) (locs : List Loc) (ls : Array Slot), wp_X10_isWanted_b90 f_gates f_second f_source f_page p2 p3 Q (wp_X10_isWanted_h14 f_gates f_second f_source f_page p2 p3 Q  n14) x4 x6 → gW D s A (wM ad cI cZ f_thrown f_text f_textSize f_place f_chips f_gates f_kind f_source f_second f_clock f_readChips f_readPins f_readGates f_readKind f_readLies f_readSource f_readSecond f_readClock f_page f_trial f_book f_doings f_kept f_isKept f_seen f_seenBehind f_seenGate f_seenWorth f_seenWas f_seed f_worth f_known f_hand f_goes f_takes f_crossed f_last f_lastNow f_states X) H locs → lv_has ls 8 [(0, .ref (ad 23)), (1, .ref (ad 12)), (2, .int p2), (3, .int p3), (4, .int x4), (6, .int x6)] → W p l e ({ frames := 0, cells := 0, slots := 0, locals := 0 } : Room) s m args below meth c H locs 0 0 Z (F0 m 90 ls []) := by
        intro x4 x6 H locs ls h hw hl
        unfold wp_X10_isWanted_b90 at h
        refine lv_iconst (v := 0) hx hb dX10_isWanted_90 (by decide) ?_
        exact J91 x4 x6 (0 : Int32) _ _ _ h hw (lv_sub hl [0, 1, 2, 3, 4, 5] rfl)
      have J59 : ∀ (x4 : Int32) (x6 : Int32) (x7 : Int32) (H : Heap) (locs : List Loc) (ls : Array Slot), wp_X10_isWanted_b59 f_gates f_second f_source f_page p2 p3 Q (wp_X10_isWanted_h14 f_gates f_second f_source f_page p2 p3 Q  n14) x4 x6 x7 → gW D s A (wM ad cI cZ f_thrown f_text f_textSize f_place f_chips f_gates f_kind f_source f_second f_clock f_readChips f_readPins f_readGates f_readKind f_readLies f_readSource f_readSecond f_readClock f_page f_trial f_book f_doings f_kept f_isKept f_seen f_seenBehind f_seenGate f_seenWorth f_seenWas f_seed f_worth f_known f_hand f_goes f_takes f_crossed f_last f_lastNow f_states X) H locs → lv_has ls 8 [(0, .ref (ad 23)), (1, .ref (ad 12)), (2, .int p2), (3, .int p3), (4, .int x4), (6, .int x6), (7, .int x7)] → W p l e ({ frames := 0, cells := 0, slots := 0, locals := 0 } : Room) s m args below meth c H locs 0 0 Z (F0 m 59 ls []) := by
        intro x4 x6 x7 H locs ls h hw hl
        unfold wp_X10_isWanted_b59 at h
        refine lv_iload_n hx hb dX10_isWanted_59 rfl (lv_at hl 3 rfl) ?_
        refine lv_iload hx hb dX10_isWanted_60 (lv_at hl 4 rfl) ?_
        refine lv_icmp_le (tgt := 74) hx hb dX10_isWanted_62 (by decide) (fun c2 => ?_) (fun c2 => ?_)
        · have h := h.1 c2
          refine lv_iload_n hx hb dX10_isWanted_74 rfl (lv_at hl 3 rfl) ?_
          refine lv_iload hx hb dX10_isWanted_75 (lv_at hl 4 rfl) ?_
          refine lv_icmp_ge (tgt := 90) hx hb dX10_isWanted_77 (by decide) (fun c3 => ?_) (fun c3 => ?_)
          · have h := h.1 c3
            exact J90 x4 x6 _ _ _ h hw (lv_sub hl [0, 1, 2, 3, 4, 5] rfl)
          · have h := h.2 c3
            refine lv_iload hx hb dX10_isWanted_80 (lv_at hl 6 rfl) ?_
            refine lv_iload_n hx hb dX10_isWanted_82 rfl (lv_at hl 3 rfl) ?_
            refine lv_icmp_gt (tgt := 90) hx hb dX10_isWanted_83 (by decide) (fun c4 => ?_) (fun c4 => ?_)
            · have h := h.1 c4
              exact J90 x4 x6 _ _ _ h hw (lv_sub hl [0, 1, 2, 3, 4, 5] rfl)
            · have h := h.2 c4
              exact J86 x4 x6 _ _ _ h hw (lv_sub hl [0, 1, 2, 3, 4, 5] rfl)
        · have h := h.2 c2
          refine lv_iload hx hb dX10_isWanted_65 (lv_at hl 6 rfl) ?_
          refine lv_iload_n hx hb dX10_isWanted_67 rfl (lv_at hl 3 rfl) ?_
          refine lv_icmp_lt (tgt := 90) hx hb dX10_isWanted_68 (by decide) (fun c5 => ?_) (fun c5 => ?_)
          · have h := h.1 c5
            exact J90 x4 x6 _ _ _ h hw (lv_sub hl [0, 1, 2, 3, 4, 5] rfl)
          · have h := h.2 c5
            refine lv_goto (tgt := 86) hx hb dX10_isWanted_71 (by decide) ?_
            exact J86 x4 x6 _ _ _ h hw (lv_sub hl [0, 1, 2, 3, 4, 5] rfl)
      unfold wp_X10_isWanted_b14 at h
      refine lv_iload hx hb dX10_isWanted_14 (lv_at hl 6 rfl) ?_
      refine lv_aload_n hx hb dX10_isWanted_16 rfl (lv_at hl 0 rfl) ?_
      refine gM_X10_87_main E hw dX10_isWanted_17 ?_
      refine lv_icmp_ge (tgt := 99) hx hb dX10_isWanted_20 (by decide) (fun c6 => ?_) (fun c6 => ?_)
      · have h := h.1 c6
        refine lv_iload hx hb dX10_isWanted_99 (lv_at hl 5 rfl) ?_
        exact hret _ _ _ _ _ _ h.1 ⟨rfl, h.2⟩ hw dX10_isWanted_101
      · have h := h.2 c6
        refine lv_aload_n hx hb dX10_isWanted_23 rfl (lv_at hl 1 rfl) ?_
        refine lv_bipush (v := 10) hx hb dX10_isWanted_24 (by decide) ?_
        refine lv_iload hx hb dX10_isWanted_26 (lv_at hl 6 rfl) ?_
        refine lv_iadd hx hb dX10_isWanted_28 ?_
        refine lM_page E hw h.1 dX10_isWanted_29 ?_
        have h := h.2
        refine lv_topi (fun v7 ev7 => ?_)
        have h := h v7 ev7
        refine lv_istore (lv' := [(7, .int v7), (0, .ref (ad 23)), (1, .ref (ad 12)), (2, .int p2), (3, .int p3), (4, .int x4), (5, .int x5), (6, .int x6)]) hx hb dX10_isWanted_30 hl (by decide) rfl (fun ls hl => ?_)
        refine lv_iload hx hb dX10_isWanted_32 (lv_at hl 6 rfl) ?_
        refine lv_if_ne (tgt := 86) hx hb dX10_isWanted_34 (by decide) (fun c8 => ?_) (fun c8 => ?_)
        · have h := h.1 c8
          exact J86 x4 x6 _ _ _ h hw (lv_sub hl [1, 2, 3, 4, 5, 7] rfl)
        · have h := h.2 c8
          refine lv_aload_n hx hb dX10_isWanted_37 rfl (lv_at hl 1 rfl) ?_
          refine gM_X10_20_main E hw dX10_isWanted_38 ?_
          refine lv_iload hx hb dX10_isWanted_41 (lv_at hl 7 rfl) ?_
          refine lM_source E hw h.1 dX10_isWanted_43 ?_
          have h := h.2
          refine lv_iload_n hx hb dX10_isWanted_44 rfl (lv_at hl 3 rfl) ?_
          refine lv_icmp_eq (tgt := 59) hx hb dX10_isWanted_45 (by decide) (fun c9 => ?_) (fun c9 => ?_)
          · have h := h.1 c9
            exact J59 x4 x6 v7 _ _ _ h hw (lv_sub hl [1, 2, 3, 4, 5, 7, 0] rfl)
          · have h := h.2 c9
            refine lv_aload_n hx hb dX10_isWanted_48 rfl (lv_at hl 1 rfl) ?_
            refine gM_X10_23_main E hw dX10_isWanted_49 ?_
            refine lv_iload hx hb dX10_isWanted_52 (lv_at hl 7 rfl) ?_
            refine lM_second E hw h.1 dX10_isWanted_54 ?_
            have h := h.2
            refine lv_iload_n hx hb dX10_isWanted_55 rfl (lv_at hl 3 rfl) ?_
            refine lv_icmp_ne (tgt := 90) hx hb dX10_isWanted_56 (by decide) (fun c10 => ?_) (fun c10 => ?_)
            · have h := h.1 c10
              exact J90 x4 x6 _ _ _ h hw (lv_sub hl [1, 2, 3, 4, 5, 7] rfl)
            · have h := h.2 c10
              exact J59 x4 x6 v7 _ _ _ h hw (lv_sub hl [1, 2, 3, 4, 5, 7, 0] rfl)
  unfold wp_X10_isWanted at h
  refine lv_aload_n hx hb dX10_isWanted_0 rfl (lv_at hl 1 rfl) ?_
  refine lv_bipush (v := 10) hx hb dX10_isWanted_1 (by decide) ?_
  refine lv_iload_n hx hb dX10_isWanted_3 rfl (lv_at hl 2 rfl) ?_
  refine lv_iadd hx hb dX10_isWanted_4 ?_
  refine lM_page E hw h.1 dX10_isWanted_5 ?_
  have h := h.2
  refine lv_topi (fun v11 ev11 => ?_)
  have h := h v11 ev11
  refine lv_istore (lv' := [(4, .int v11), (0, .ref (ad 23)), (1, .ref (ad 12)), (2, .int p2), (3, .int p3)]) hx hb dX10_isWanted_6 hl (by decide) rfl (fun ls hl => ?_)
  refine lv_iconst (v := 0) hx hb dX10_isWanted_8 (by decide) ?_
  refine lv_istore (lv' := [(5, .int (0 : Int32)), (4, .int v11), (0, .ref (ad 23)), (1, .ref (ad 12)), (2, .int p2), (3, .int p3)]) hx hb dX10_isWanted_9 hl (by decide) rfl (fun ls hl => ?_)
  refine lv_iconst (v := 0) hx hb dX10_isWanted_11 (by decide) ?_
  refine lv_istore (lv' := [(6, .int (0 : Int32)), (5, .int (0 : Int32)), (4, .int v11), (0, .ref (ad 23)), (1, .ref (ad 12)), (2, .int p2), (3, .int p3)]) hx hb dX10_isWanted_12 hl (by decide) rfl (fun ls hl => ?_)
  obtain ⟨n, h⟩ := h
  exact L14 n v11 (0 : Int32) (0 : Int32) _ _ _ h hw (lv_sub hl [3, 4, 5, 6, 2, 1, 0] rfl)
set_option maxRecDepth 100000 in
set_option maxHeartbeats 4000000 in
theorem c_X10_layGoing_page {l : Launch} {D : va_G} {cI cZ : ClassId} {ad : Nat → Nat} {f_thrown : Int32} {f_text : Nat → Int32} {f_textSize : Int32} {f_place : Int32} {f_chips : Int32} {f_gates : Int32} {f_kind : Nat → Int32} {f_source : Nat → Int32} {f_second : Nat → Int32} {f_clock : Nat → Int32} {f_readChips : Int32} {f_readPins : Int32} {f_readGates : Int32} {f_readKind : Nat → Int32} {f_readLies : Nat → Int32} {f_readSource : Nat → Int32} {f_readSecond : Nat → Int32} {f_readClock : Nat → Int32} {f_page : Nat → Int32} {f_trial : Nat → Int32} {f_book : Nat → Int32} {f_doings : Int32} {f_kept : Nat → Int32} {f_isKept : Nat → Int32} {f_seen : Int32} {f_seenBehind : Nat → Int32} {f_seenGate : Nat → Int32} {f_seenWorth : Nat → Int32} {f_seenWas : Nat → Int32} {f_seed : Int64} {f_worth : Nat → Int32} {f_known : Int32} {f_hand : Nat → Int32} {f_goes : Nat → Int32} {f_takes : Int32} {f_crossed : Int32} {f_last : Int32} {f_lastNow : Int32} {f_states : Nat → Int32} {X : va_W} {p2 : Int32} {p3 : Int32} {p4 : Int32} {Q : Int32 → (Nat → Int32) → Int32 → Prop} (h : wp_X10_layGoing f_gates f_goes f_hand f_lastNow f_second f_source f_page p2 p3 p4 Q) : CtI l yX10_layGoing cX10_layGoing 8 (some .int) ({ frames := 1, cells := 0, slots := 0, locals := 27 } : Room) D [(cI, .int), (cZ, .boolean)] [.ref (ad 23), .ref (ad 12), .int p2, .int p3, .int p4] (wM ad cI cZ f_thrown f_text f_textSize f_place f_chips f_gates f_kind f_source f_second f_clock f_readChips f_readPins f_readGates f_readKind f_readLies f_readSource f_readSecond f_readClock f_page f_trial f_book f_doings f_kept f_isKept f_seen f_seenBehind f_seenGate f_seenWorth f_seenWas f_seed f_worth f_known f_hand f_goes f_takes f_crossed f_last f_lastNow f_states X) (fun r u => ∃ w0 w1, u = (wM ad cI cZ f_thrown f_text f_textSize f_place f_chips f_gates f_kind f_source f_second f_clock f_readChips f_readPins f_readGates f_readKind f_readLies f_readSource f_readSecond f_readClock f_page f_trial f_book f_doings f_kept f_isKept f_seen f_seenBehind f_seenGate f_seenWorth f_seenWas f_seed f_worth f_known f_hand w0 f_takes f_crossed f_last w1 f_states X) ∧ Q r w0 w1) := by
  refine CtI.of (by decide) rfl (Nat.le_of_ble_eq_true rfl) ?_
  intro p e s m args below meth c A Z E hret ls hl hw
  have E : gE p m c cX10_layGoing 8 s args RX10 D [(cI, .int), (cZ, .boolean)] A := E
  have hx := E.1.1
  have hb := E.1.2.1
  have hl : lv_has ls 8 [(0, .ref (ad 23)), (1, .ref (ad 12)), (2, .int p2), (3, .int p3), (4, .int p4)] := hl
  have L6 : ∀ (n : Nat) (x5 : Int32) (x6 : Int32) (f_goes : Nat → Int32) (f_lastNow : Int32) (H : Heap) (locs : List Loc) (ls : Array Slot), wp_X10_layGoing_h6 f_gates f_hand f_second f_source f_page p2 p3 p4 Q  n x5 x6 f_goes f_lastNow → gW D s A (wM ad cI cZ f_thrown f_text f_textSize f_place f_chips f_gates f_kind f_source f_second f_clock f_readChips f_readPins f_readGates f_readKind f_readLies f_readSource f_readSecond f_readClock f_page f_trial f_book f_doings f_kept f_isKept f_seen f_seenBehind f_seenGate f_seenWorth f_seenWas f_seed f_worth f_known f_hand f_goes f_takes f_crossed f_last f_lastNow f_states X) H locs → lv_has ls 8 [(0, .ref (ad 23)), (1, .ref (ad 12)), (2, .int p2), (3, .int p3), (4, .int p4), (5, .int x5), (6, .int x6)] → W p l e ({ frames := 1, cells := 0, slots := 0, locals := 27 } : Room) s m args below meth c H locs 0 0 Z (F0 m 6 ls []) := by
    intro n
    induction n with
    | zero => intro x5 x6 f_goes f_lastNow H locs ls h; exact False.elim h
    | succ n6 ih6 =>
      intro x5 x6 f_goes f_lastNow H locs ls h hw hl
      have h : wp_X10_layGoing_b6 f_gates f_hand f_second f_source f_page p2 p3 p4 Q (wp_X10_layGoing_h6 f_gates f_hand f_second f_source f_page p2 p3 p4 Q  n6) x5 x6 f_goes f_lastNow := h
      have J137 : ∀ (x5 : Int32) (x6 : Int32) (s1 : Int32) (f_goes : Nat → Int32) (f_lastNow : Int32) (H : Heap) (locs : List Loc) (ls : Array Slot), wp_X10_layGoing_b137 f_gates f_hand f_second f_source f_page p2 p3 p4 Q (wp_X10_layGoing_h6 f_gates f_hand f_second f_source f_page p2 p3 p4 Q  n6) x5 x6 s1 f_goes f_lastNow → gW D s A (wM ad cI cZ f_thrown f_text f_textSize f_place f_chips f_gates f_kind f_source f_second f_clock f_readChips f_readPins f_readGates f_readKind f_readLies f_readSource f_readSecond f_readClock f_page f_trial f_book f_doings f_kept f_isKept f_seen f_seenBehind f_seenGate f_seenWorth f_seenWas f_seed f_worth f_known f_hand f_goes f_takes f_crossed f_last f_lastNow f_states X) H locs → lv_has ls 8 [(0, .ref (ad 23)), (1, .ref (ad 12)), (2, .int p2), (3, .int p3), (4, .int p4), (5, .int x5), (6, .int x6)] → W p l e ({ frames := 1, cells := 0, slots := 0, locals := 27 } : Room) s m args below meth c H locs 0 0 Z (F0 m 137 ls [.int s1, .ref (ad 23)]) := by
        intro x5 x6 s1 f_goes f_lastNow H locs ls h hw hl
        unfold wp_X10_layGoing_b137 at h
        refine pM_X10_163_main E hw dX10_layGoing_137 (fun H locs hw => ?_)
        obtain ⟨v1, ev1⟩ : ∃ y : Int32, y = x6 + 1 := ⟨_, rfl⟩
        have h := h v1 ev1
        refine lv_iinc (v := v1) (lv' := [(6, .int v1), (0, .ref (ad 23)), (1, .ref (ad 12)), (2, .int p2), (3, .int p3), (4, .int p4), (5, .int x5)]) hx hb dX10_layGoing_140 hl (k := 6) rfl (by rw [ev1]; rfl) (by decide) rfl (fun ls hl => ?_)
        refine lv_goto (tgt := 6) hx hb dX10_layGoing_143 (by decide) ?_
        exact ih6 x5 v1 f_goes s1 _ _ _ h hw (lv_sub hl [1, 2, 3, 4, 5, 6, 0] rfl)
      have J133 : ∀ (x5 : Int32) (x6 : Int32) (f_goes : Nat → Int32) (f_lastNow : Int32) (H : Heap) (locs : List Loc) (ls : Array Slot), wp_X10_layGoing_b133 f_gates f_hand f_second f_source f_page p2 p3 p4 Q (wp_X10_layGoing_h6 f_gates f_hand f_second f_source f_page p2 p3 p4 Q  n6) x5 x6 f_goes f_lastNow → gW D s A (wM ad cI cZ f_thrown f_text f_textSize f_place f_chips f_gates f_kind f_source f_second f_clock f_readChips f_readPins f_readGates f_readKind f_readLies f_readSource f_readSecond f_readClock f_page f_trial f_book f_doings f_kept f_isKept f_seen f_seenBehind f_seenGate f_seenWorth f_seenWas f_seed f_worth f_known f_hand f_goes f_takes f_crossed f_last f_lastNow f_states X) H locs → lv_has ls 8 [(0, .ref (ad 23)), (1, .ref (ad 12)), (2, .int p2), (3, .int p3), (4, .int p4), (5, .int x5), (6, .int x6)] → W p l e ({ frames := 1, cells := 0, slots := 0, locals := 27 } : Room) s m args below meth c H locs 0 0 Z (F0 m 133 ls [.ref (ad 23)]) := by
        intro x5 x6 f_goes f_lastNow H locs ls h hw hl
        unfold wp_X10_layGoing_b133 at h
        refine lv_aload_n hx hb dX10_layGoing_133 rfl (lv_at hl 0 rfl) ?_
        refine gM_X10_163_main E hw dX10_layGoing_134 ?_
        exact J137 x5 x6 f_lastNow f_goes f_lastNow _ _ _ h hw (lv_sub hl [0, 1, 2, 3, 4, 5, 6] rfl)
      have J110 : ∀ (x6 : Int32) (x7 : Int32) (s0 : Int32) (s1 : Int32) (f_goes : Nat → Int32) (f_lastNow : Int32) (H : Heap) (locs : List Loc) (ls : Array Slot), wp_X10_layGoing_b110 f_gates f_hand f_second f_source f_page p2 p3 p4 Q (wp_X10_layGoing_h6 f_gates f_hand f_second f_source f_page p2 p3 p4 Q  n6) x6 x7 s0 s1 f_goes f_lastNow → gW D s A (wM ad cI cZ f_thrown f_text f_textSize f_place f_chips f_gates f_kind f_source f_second f_clock f_readChips f_readPins f_readGates f_readKind f_readLies f_readSource f_readSecond f_readClock f_page f_trial f_book f_doings f_kept f_isKept f_seen f_seenBehind f_seenGate f_seenWorth f_seenWas f_seed f_worth f_known f_hand f_goes f_takes f_crossed f_last f_lastNow f_states X) H locs → lv_has ls 8 [(0, .ref (ad 23)), (1, .ref (ad 12)), (2, .int p2), (3, .int p3), (4, .int p4), (6, .int x6), (7, .int x7)] → W p l e ({ frames := 1, cells := 0, slots := 0, locals := 27 } : Room) s m args below meth c H locs 0 0 Z (F0 m 110 ls [.int s1, .int s0]) := by
        intro x6 x7 s0 s1 f_goes f_lastNow H locs ls h hw hl
        unfold wp_X10_layGoing_b110 at h
        refine lv_iadd hx hb dX10_layGoing_110 ?_
        refine lv_topi (fun v2 ev2 => ?_)
        have h := h v2 ev2
        refine lv_istore (lv' := [(5, .int v2), (0, .ref (ad 23)), (1, .ref (ad 12)), (2, .int p2), (3, .int p3), (4, .int p4), (6, .int x6), (7, .int x7)]) hx hb dX10_layGoing_111 hl (by decide) rfl (fun ls hl => ?_)
        refine lv_aload_n hx hb dX10_layGoing_113 rfl (lv_at hl 1 rfl) ?_
        refine lv_iload hx hb dX10_layGoing_114 (lv_at hl 7 rfl) ?_
        refine lv_if_eq (tgt := 133) hx hb dX10_layGoing_116 (by decide) (fun c3 => ?_) (fun c3 => ?_)
        · have h := h.1 c3
          exact J133 v2 x6 f_goes f_lastNow _ _ _ h hw (lv_sub hl [1, 2, 3, 4, 5, 0, 6] rfl)
        · have h := h.2 c3
          refine lv_iload hx hb dX10_layGoing_119 (lv_at hl 6 rfl) ?_
          refine lv_aload_n hx hb dX10_layGoing_121 rfl (lv_at hl 1 rfl) ?_
          refine gM_X10_163_main E hw dX10_layGoing_122 ?_
          refine lv_icmp_le (tgt := 133) hx hb dX10_layGoing_125 (by decide) (fun c4 => ?_) (fun c4 => ?_)
          · have h := h.1 c4
            exact J133 v2 x6 f_goes f_lastNow _ _ _ h hw (lv_sub hl [1, 2, 3, 4, 5, 0, 6] rfl)
          · have h := h.2 c4
            refine lv_iload hx hb dX10_layGoing_128 (lv_at hl 6 rfl) ?_
            refine lv_goto (tgt := 137) hx hb dX10_layGoing_130 (by decide) ?_
            exact J137 v2 x6 x6 f_goes f_lastNow _ _ _ h hw (lv_sub hl [1, 2, 3, 4, 5, 0, 6] rfl)
      have J97 : ∀ (x5 : Int32) (x6 : Int32) (x7 : Int32) (s1 : Int32) (s2 : Int32) (f_goes : Nat → Int32) (f_lastNow : Int32) (H : Heap) (locs : List Loc) (ls : Array Slot), wp_X10_layGoing_b97 f_gates f_hand f_second f_source f_page p2 p3 p4 Q (wp_X10_layGoing_h6 f_gates f_hand f_second f_source f_page p2 p3 p4 Q  n6) x5 x6 x7 s1 s2 f_goes f_lastNow → gW D s A (wM ad cI cZ f_thrown f_text f_textSize f_place f_chips f_gates f_kind f_source f_second f_clock f_readChips f_readPins f_readGates f_readKind f_readLies f_readSource f_readSecond f_readClock f_page f_trial f_book f_doings f_kept f_isKept f_seen f_seenBehind f_seenGate f_seenWorth f_seenWas f_seed f_worth f_known f_hand f_goes f_takes f_crossed f_last f_lastNow f_states X) H locs → lv_has ls 8 [(0, .ref (ad 23)), (1, .ref (ad 12)), (2, .int p2), (3, .int p3), (4, .int p4), (5, .int x5), (6, .int x6), (7, .int x7)] → W p l e ({ frames := 1, cells := 0, slots := 0, locals := 27 } : Room) s m args below meth c H locs 0 0 Z (F0 m 97 ls [.int s2, .int s1, .ref (ad 1)]) := by
        intro x5 x6 x7 s1 s2 f_goes f_lastNow H locs ls h hw hl
        unfold wp_X10_layGoing_b97 at h
        refine sM_goes E hw h.1 h.2.1 dX10_layGoing_97 (fun y5 ey5 H locs hw => ?_)
        have h := h.2.2 y5 ey5
        refine lv_iload hx hb dX10_layGoing_98 (lv_at hl 5 rfl) ?_
        refine lv_iload hx hb dX10_layGoing_100 (lv_at hl 7 rfl) ?_
        refine lv_if_eq (tgt := 109) hx hb dX10_layGoing_102 (by decide) (fun c6 => ?_) (fun c6 => ?_)
        · have h := h.1 c6
          refine lv_iconst (v := 0) hx hb dX10_layGoing_109 (by decide) ?_
          exact J110 x6 x7 x5 (0 : Int32) y5 f_lastNow _ _ _ h hw (lv_sub hl [0, 1, 2, 3, 4, 6, 7] rfl)
        · have h := h.2 c6
          refine lv_iconst (v := 1) hx hb dX10_layGoing_105 (by decide) ?_
          refine lv_goto (tgt := 110) hx hb dX10_layGoing_106 (by decide) ?_
          exact J110 x6 x7 x5 (1 : Int32) y5 f_lastNow _ _ _ h hw (lv_sub hl [0, 1, 2, 3, 4, 6, 7] rfl)
      have J92 : ∀ (x5 : Int32) (x6 : Int32) (x7 : Int32) (s1 : Int32) (f_goes : Nat → Int32) (f_lastNow : Int32) (H : Heap) (locs : List Loc) (ls : Array Slot), wp_X10_layGoing_b92 f_gates f_hand f_second f_source f_page p2 p3 p4 Q (wp_X10_layGoing_h6 f_gates f_hand f_second f_source f_page p2 p3 p4 Q  n6) x5 x6 x7 s1 f_goes f_lastNow → gW D s A (wM ad cI cZ f_thrown f_text f_textSize f_place f_chips f_gates f_kind f_source f_second f_clock f_readChips f_readPins f_readGates f_readKind f_readLies f_readSource f_readSecond f_readClock f_page f_trial f_book f_doings f_kept f_isKept f_seen f_seenBehind f_seenGate f_seenWorth f_seenWas f_seed f_worth f_known f_hand f_goes f_takes f_crossed f_last f_lastNow f_states X) H locs → lv_has ls 8 [(0, .ref (ad 23)), (1, .ref (ad 12)), (2, .int p2), (3, .int p3), (4, .int p4), (5, .int x5), (6, .int x6), (7, .int x7)] → W p l e ({ frames := 1, cells := 0, slots := 0, locals := 27 } : Room) s m args below meth c H locs 0 0 Z (F0 m 92 ls [.int s1, .ref (ad 1)]) := by
        intro x5 x6 x7 s1 f_goes f_lastNow H locs ls h hw hl
        unfold wp_X10_layGoing_b92 at h
        refine lv_iconst (v := 1) hx hb dX10_layGoing_92 (by decide) ?_
        refine lv_goto (tgt := 97) hx hb dX10_layGoing_93 (by decide) ?_
        exact J97 x5 x6 x7 s1 (1 : Int32) f_goes f_lastNow _ _ _ h hw (lv_sub hl [0, 1, 2, 3, 4, 5, 6, 7] rfl)
      have J59 : ∀ (x5 : Int32) (x6 : Int32) (s0 : Int32) (f_goes : Nat → Int32) (f_lastNow : Int32) (H : Heap) (locs : List Loc) (ls : Array Slot), wp_X10_layGoing_b59 f_gates f_hand f_second f_source f_page p2 p3 p4 Q (wp_X10_layGoing_h6 f_gates f_hand f_second f_source f_page p2 p3 p4 Q  n6) x5 x6 s0 f_goes f_lastNow → gW D s A (wM ad cI cZ f_thrown f_text f_textSize f_place f_chips f_gates f_kind f_source f_second f_clock f_readChips f_readPins f_readGates f_readKind f_readLies f_readSource f_readSecond f_readClock f_page f_trial f_book f_doings f_kept f_isKept f_seen f_seenBehind f_seenGate f_seenWorth f_seenWas f_seed f_worth f_known f_hand f_goes f_takes f_crossed f_last f_lastNow f_states X) H locs → lv_has ls 8 [(0, .ref (ad 23)), (1, .ref (ad 12)), (2, .int p2), (3, .int p3), (4, .int p4), (5, .int x5), (6, .int x6)] → W p l e ({ frames := 1, cells := 0, slots := 0, locals := 27 } : Room) s m args below meth c H locs 0 0 Z (F0 m 59 ls [.int s0]) := by
        intro x5 x6 s0 f_goes f_lastNow H locs ls h hw hl
        unfold wp_X10_layGoing_b59 at h
        refine lv_istore (lv' := [(7, .int s0), (0, .ref (ad 23)), (1, .ref (ad 12)), (2, .int p2), (3, .int p3), (4, .int p4), (5, .int x5), (6, .int x6)]) hx hb dX10_layGoing_59 hl (by decide) rfl (fun ls hl => ?_)
        refine lv_aload_n hx hb dX10_layGoing_61 rfl (lv_at hl 1 rfl) ?_
        refine gM_X10_78_main E hw dX10_layGoing_62 ?_
        refine lv_iconst (v := 4) hx hb dX10_layGoing_65 (by decide) ?_
        refine lv_iload hx hb dX10_layGoing_66 (lv_at hl 7 rfl) ?_
        refine lv_imul hx hb dX10_layGoing_68 ?_
        refine lv_iload hx hb dX10_layGoing_69 (lv_at hl 5 rfl) ?_
        refine lv_iadd hx hb dX10_layGoing_71 ?_
        refine lv_aload_n hx hb dX10_layGoing_72 rfl (lv_at hl 1 rfl) ?_
        refine gM_X10_78_main E hw dX10_layGoing_73 ?_
        refine lv_iconst (v := 4) hx hb dX10_layGoing_76 (by decide) ?_
        refine lv_iload hx hb dX10_layGoing_77 (lv_at hl 7 rfl) ?_
        refine lv_imul hx hb dX10_layGoing_79 ?_
        refine lv_iload hx hb dX10_layGoing_80 (lv_at hl 5 rfl) ?_
        refine lv_iadd hx hb dX10_layGoing_82 ?_
        refine lM_goes E hw h.1 dX10_layGoing_83 ?_
        have h := h.2
        refine lv_if_ne (tgt := 92) hx hb dX10_layGoing_84 (by decide) (fun c7 => ?_) (fun c7 => ?_)
        · have h := h.1 c7
          exact J92 x5 x6 s0 ((((4 : Int32) * x6) + p4)) f_goes f_lastNow _ _ _ h hw (lv_sub hl [1, 2, 3, 4, 5, 6, 7, 0] rfl)
        · have h := h.2 c7
          refine lv_iload hx hb dX10_layGoing_87 (lv_at hl 0 rfl) ?_
          refine lv_if_eq (tgt := 96) hx hb dX10_layGoing_89 (by decide) (fun c8 => ?_) (fun c8 => ?_)
          · have h := h.1 c8
            refine lv_iconst (v := 0) hx hb dX10_layGoing_96 (by decide) ?_
            exact J97 x5 x6 s0 ((((4 : Int32) * x6) + p4)) (0 : Int32) f_goes f_lastNow _ _ _ h hw (lv_sub hl [1, 2, 3, 4, 5, 6, 7, 0] rfl)
          · have h := h.2 c8
            exact J92 x5 x6 s0 ((((4 : Int32) * x6) + p4)) f_goes f_lastNow _ _ _ h hw (lv_sub hl [1, 2, 3, 4, 5, 6, 7, 0] rfl)
      have J58 : ∀ (x5 : Int32) (x6 : Int32) (f_goes : Nat → Int32) (f_lastNow : Int32) (H : Heap) (locs : List Loc) (ls : Array Slot), wp_X10_layGoing_b58 f_gates f_hand f_second f_source f_page p2 p3 p4 Q (wp_X10_layGoing_h6 f_gates f_hand f_second f_source f_page p2 p3 p4 Q  n6) x5 x6 f_goes f_lastNow → gW D s A (wM ad cI cZ f_thrown f_text f_textSize f_place f_chips f_gates f_kind f_source f_second f_clock f_readChips f_readPins f_readGates f_readKind f_readLies f_readSource f_readSecond f_readClock f_page f_trial f_book f_doings f_kept f_isKept f_seen f_seenBehind f_seenGate f_seenWorth f_seenWas f_seed f_worth f_known f_hand f_goes f_takes f_crossed f_last f_lastNow f_states X) H locs → lv_has ls 8 [(0, .ref (ad 23)), (1, .ref (ad 12)), (2, .int p2), (3, .int p3), (4, .int p4), (5, .int x5), (6, .int x6)] → W p l e ({ frames := 1, cells := 0, slots := 0, locals := 27 } : Room) s m args below meth c H locs 0 0 Z (F0 m 58 ls []) := by
        intro x5 x6 f_goes f_lastNow H locs ls h hw hl
        unfold wp_X10_layGoing_b58 at h
        refine lv_iconst (v := 0) hx hb dX10_layGoing_58 (by decide) ?_
        exact J59 x5 x6 (0 : Int32) f_goes f_lastNow _ _ _ h hw (lv_sub hl [0, 1, 2, 3, 4, 5, 6] rfl)
      unfold wp_X10_layGoing_b6 at h
      refine lv_iload hx hb dX10_layGoing_6 (lv_at hl 6 rfl) ?_
      refine lv_aload_n hx hb dX10_layGoing_8 rfl (lv_at hl 0 rfl) ?_
      refine gM_X10_87_main E hw dX10_layGoing_9 ?_
      refine lv_icmp_ge (tgt := 146) hx hb dX10_layGoing_12 (by decide) (fun c9 => ?_) (fun c9 => ?_)
      · have h := h.1 c9
        refine lv_iload hx hb dX10_layGoing_146 (lv_at hl 5 rfl) ?_
        exact hret _ _ _ _ _ _ ⟨_, _, rfl, h⟩ hw dX10_layGoing_148
      · have h := h.2 c9
        refine lv_iload hx hb dX10_layGoing_15 (lv_at hl 5 rfl) ?_
        refine lv_iload_n hx hb dX10_layGoing_17 rfl (lv_at hl 2 rfl) ?_
        refine lv_icmp_ge (tgt := 58) hx hb dX10_layGoing_18 (by decide) (fun c10 => ?_) (fun c10 => ?_)
        · have h := h.1 c10
          exact J58 x5 x6 f_goes f_lastNow _ _ _ h hw (lv_sub hl [0, 1, 2, 3, 4, 5, 6] rfl)
        · have h := h.2 c10
          refine lv_aload_n hx hb dX10_layGoing_21 rfl (lv_at hl 0 rfl) ?_
          refine lv_iload hx hb dX10_layGoing_22 (lv_at hl 6 rfl) ?_
          refine lv_iload_n hx hb dX10_layGoing_24 rfl (lv_at hl 3 rfl) ?_
          refine g_aI E hw (g_rV E hw (c_X10_isAt h _) ym_X10_isAt k_744 ⟨rfl, rfl⟩ ⟨Nat.le_of_ble_eq_true rfl, Nat.le_of_ble_eq_true rfl⟩ 23 rfl rfl rfl rfl hl.1 rfl (Nat.le_of_ble_eq_true rfl) ⟨Nat.zero_le _, Nat.zero_le _⟩ dX10_layGoing_25) (fun r11 u H locs hq hw => ?_)
          obtain ⟨hu, h⟩ := hq
          rw [hu] at hw
          refine lv_if_eq (tgt := 58) hx hb dX10_layGoing_28 (by decide) (fun c12 => ?_) (fun c12 => ?_)
          · have h := h.1 c12
            exact J58 x5 x6 f_goes f_lastNow _ _ _ h hw (lv_sub hl [0, 1, 2, 3, 4, 5, 6] rfl)
          · have h := h.2 c12
            refine lv_aload_n hx hb dX10_layGoing_31 rfl (lv_at hl 0 rfl) ?_
            refine lv_iload hx hb dX10_layGoing_32 (lv_at hl 6 rfl) ?_
            refine lv_iload hx hb dX10_layGoing_34 (lv_at hl 4 rfl) ?_
            refine g_aI E hw (g_rV E hw (c_X10_isAt h _) ym_X10_isAt k_744 ⟨rfl, rfl⟩ ⟨Nat.le_of_ble_eq_true rfl, Nat.le_of_ble_eq_true rfl⟩ 23 rfl rfl rfl rfl hl.1 rfl (Nat.le_of_ble_eq_true rfl) ⟨Nat.zero_le _, Nat.zero_le _⟩ dX10_layGoing_36) (fun r13 u H locs hq hw => ?_)
            obtain ⟨hu, h⟩ := hq
            rw [hu] at hw
            refine lv_if_ne (tgt := 58) hx hb dX10_layGoing_39 (by decide) (fun c14 => ?_) (fun c14 => ?_)
            · have h := h.1 c14
              exact J58 x5 x6 f_goes f_lastNow _ _ _ h hw (lv_sub hl [0, 1, 2, 3, 4, 5, 6] rfl)
            · have h := h.2 c14
              refine lv_aload_n hx hb dX10_layGoing_42 rfl (lv_at hl 0 rfl) ?_
              refine lv_aload_n hx hb dX10_layGoing_43 rfl (lv_at hl 1 rfl) ?_
              refine lv_iload hx hb dX10_layGoing_44 (lv_at hl 6 rfl) ?_
              refine lv_iload hx hb dX10_layGoing_46 (lv_at hl 4 rfl) ?_
              refine g_aI E hw (g_rV E hw (c_X10_isWanted_page h _) ym_X10_isWanted k_750 ⟨rfl, rfl⟩ ⟨Nat.le_of_ble_eq_true rfl, Nat.le_of_ble_eq_true rfl⟩ 23 rfl rfl rfl rfl hl.1 rfl (Nat.le_of_ble_eq_true rfl) ⟨Nat.zero_le _, Nat.zero_le _⟩ dX10_layGoing_48) (fun r15 u H locs hq hw => ?_)
              obtain ⟨hu, h⟩ := hq
              rw [hu] at hw
              refine lv_if_eq (tgt := 58) hx hb dX10_layGoing_51 (by decide) (fun c16 => ?_) (fun c16 => ?_)
              · have h := h.1 c16
                exact J58 x5 x6 f_goes f_lastNow _ _ _ h hw (lv_sub hl [0, 1, 2, 3, 4, 5, 6] rfl)
              · have h := h.2 c16
                refine lv_iconst (v := 1) hx hb dX10_layGoing_54 (by decide) ?_
                refine lv_goto (tgt := 59) hx hb dX10_layGoing_55 (by decide) ?_
                exact J59 x5 x6 (1 : Int32) f_goes f_lastNow _ _ _ h hw (lv_sub hl [0, 1, 2, 3, 4, 5, 6] rfl)
  unfold wp_X10_layGoing at h
  refine lv_iconst (v := 0) hx hb dX10_layGoing_0 (by decide) ?_
  refine lv_istore (lv' := [(5, .int (0 : Int32)), (0, .ref (ad 23)), (1, .ref (ad 12)), (2, .int p2), (3, .int p3), (4, .int p4)]) hx hb dX10_layGoing_1 hl (by decide) rfl (fun ls hl => ?_)
  refine lv_iconst (v := 0) hx hb dX10_layGoing_3 (by decide) ?_
  refine lv_istore (lv' := [(6, .int (0 : Int32)), (5, .int (0 : Int32)), (0, .ref (ad 23)), (1, .ref (ad 12)), (2, .int p2), (3, .int p3), (4, .int p4)]) hx hb dX10_layGoing_4 hl (by decide) rfl (fun ls hl => ?_)
  obtain ⟨n, h⟩ := h
  exact L6 n (0 : Int32) (0 : Int32) f_goes f_lastNow _ _ _ h hw (lv_sub hl [2, 3, 4, 5, 6, 1, 0] rfl)
set_option maxRecDepth 100000 in
set_option maxHeartbeats 4000000 in
theorem c_X10_layReady_page {l : Launch} {D : va_G} {cI cZ : ClassId} {ad : Nat → Nat} {f_thrown : Int32} {f_text : Nat → Int32} {f_textSize : Int32} {f_place : Int32} {f_chips : Int32} {f_gates : Int32} {f_kind : Nat → Int32} {f_source : Nat → Int32} {f_second : Nat → Int32} {f_clock : Nat → Int32} {f_readChips : Int32} {f_readPins : Int32} {f_readGates : Int32} {f_readKind : Nat → Int32} {f_readLies : Nat → Int32} {f_readSource : Nat → Int32} {f_readSecond : Nat → Int32} {f_readClock : Nat → Int32} {f_page : Nat → Int32} {f_trial : Nat → Int32} {f_book : Nat → Int32} {f_doings : Int32} {f_kept : Nat → Int32} {f_isKept : Nat → Int32} {f_seen : Int32} {f_seenBehind : Nat → Int32} {f_seenGate : Nat → Int32} {f_seenWorth : Nat → Int32} {f_seenWas : Nat → Int32} {f_seed : Int64} {f_worth : Nat → Int32} {f_known : Int32} {f_hand : Nat → Int32} {f_goes : Nat → Int32} {f_takes : Int32} {f_crossed : Int32} {f_last : Int32} {f_lastNow : Int32} {f_states : Nat → Int32} {X : va_W} {p2 : Int32} {Q : (Nat → Int32) → Prop} (h : wp_X10_layReady f_gates f_hand f_kind f_second f_source f_page p2 Q) : CtV l yX10_layReady cX10_layReady 7 none ({ frames := 1, cells := 0, slots := 0, locals := 22 } : Room) D [(cI, .int), (cZ, .boolean)] [.ref (ad 23), .ref (ad 12), .int p2] (wM ad cI cZ f_thrown f_text f_textSize f_place f_chips f_gates f_kind f_source f_second f_clock f_readChips f_readPins f_readGates f_readKind f_readLies f_readSource f_readSecond f_readClock f_page f_trial f_book f_doings f_kept f_isKept f_seen f_seenBehind f_seenGate f_seenWorth f_seenWas f_seed f_worth f_known f_hand f_goes f_takes f_crossed f_last f_lastNow f_states X) (fun  u => ∃ w0, u = (wM ad cI cZ f_thrown f_text f_textSize f_place f_chips f_gates f_kind f_source f_second f_clock f_readChips f_readPins f_readGates f_readKind f_readLies f_readSource f_readSecond f_readClock f_page f_trial f_book f_doings f_kept f_isKept f_seen f_seenBehind f_seenGate f_seenWorth f_seenWas f_seed f_worth f_known w0 f_goes f_takes f_crossed f_last f_lastNow f_states X) ∧ Q w0) := by
  refine CtV.of (by decide) rfl (Nat.le_of_ble_eq_true rfl) ?_
  intro p e s m args below meth c A Z E hret ls hl hw
  have E : gE p m c cX10_layReady 7 s args RX10 D [(cI, .int), (cZ, .boolean)] A := E
  have hx := E.1.1
  have hb := E.1.2.1
  have hl : lv_has ls 7 [(0, .ref (ad 23)), (1, .ref (ad 12)), (2, .int p2)] := hl
  have L2 : ∀ (n : Nat) (x3 : Int32) (f_hand : Nat → Int32) (H : Heap) (locs : List Loc) (ls : Array Slot), wp_X10_layReady_h2 f_gates f_kind f_second f_source f_page p2 Q  n x3 f_hand → gW D s A (wM ad cI cZ f_thrown f_text f_textSize f_place f_chips f_gates f_kind f_source f_second f_clock f_readChips f_readPins f_readGates f_readKind f_readLies f_readSource f_readSecond f_readClock f_page f_trial f_book f_doings f_kept f_isKept f_seen f_seenBehind f_seenGate f_seenWorth f_seenWas f_seed f_worth f_known f_hand f_goes f_takes f_crossed f_last f_lastNow f_states X) H locs → lv_has ls 7 [(0, .ref (ad 23)), (1, .ref (ad 12)), (2, .int p2), (3, .int x3)] → W p l e ({ frames := 1, cells := 0, slots := 0, locals := 22 } : Room) s m args below meth c H locs 0 0 Z (F0 m 2 ls []) := by
    intro n
    induction n with
    | zero => intro x3 f_hand H locs ls h; exact False.elim h
    | succ n2 ih2 =>
      intro x3 f_hand H locs ls h hw hl
      have h : wp_X10_layReady_b2 f_gates f_kind f_second f_source f_page p2 Q (wp_X10_layReady_h2 f_gates f_kind f_second f_source f_page p2 Q  n2) x3 f_hand := h
      have L13 : ∀ (n : Nat) (x3 : Int32) (x4 : Int32) (f_hand : Nat → Int32) (H : Heap) (locs : List Loc) (ls : Array Slot), wp_X10_layReady_h13 f_gates f_kind f_second f_source f_page p2 Q (wp_X10_layReady_h2 f_gates f_kind f_second f_source f_page p2 Q  n2) n x3 x4 f_hand → gW D s A (wM ad cI cZ f_thrown f_text f_textSize f_place f_chips f_gates f_kind f_source f_second f_clock f_readChips f_readPins f_readGates f_readKind f_readLies f_readSource f_readSecond f_readClock f_page f_trial f_book f_doings f_kept f_isKept f_seen f_seenBehind f_seenGate f_seenWorth f_seenWas f_seed f_worth f_known f_hand f_goes f_takes f_crossed f_last f_lastNow f_states X) H locs → lv_has ls 7 [(0, .ref (ad 23)), (1, .ref (ad 12)), (2, .int p2), (3, .int x3), (4, .int x4)] → W p l e ({ frames := 1, cells := 0, slots := 0, locals := 22 } : Room) s m args below meth c H locs 0 0 Z (F0 m 13 ls []) := by
        intro n
        induction n with
        | zero => intro x3 x4 f_hand H locs ls h; exact False.elim h
        | succ n13 ih13 =>
          intro x3 x4 f_hand H locs ls h hw hl
          have h : wp_X10_layReady_b13 f_gates f_kind f_second f_source f_page p2 Q (wp_X10_layReady_h2 f_gates f_kind f_second f_source f_page p2 Q  n2) (wp_X10_layReady_h13 f_gates f_kind f_second f_source f_page p2 Q (wp_X10_layReady_h2 f_gates f_kind f_second f_source f_page p2 Q  n2) n13) x3 x4 f_hand := h
          have J134 : ∀ (x3 : Int32) (x4 : Int32) (s1 : Int32) (s2 : Int32) (f_hand : Nat → Int32) (H : Heap) (locs : List Loc) (ls : Array Slot), wp_X10_layReady_b134 f_gates f_kind f_second f_source f_page p2 Q (wp_X10_layReady_h2 f_gates f_kind f_second f_source f_page p2 Q  n2) (wp_X10_layReady_h13 f_gates f_kind f_second f_source f_page p2 Q (wp_X10_layReady_h2 f_gates f_kind f_second f_source f_page p2 Q  n2) n13) x3 x4 s1 s2 f_hand → gW D s A (wM ad cI cZ f_thrown f_text f_textSize f_place f_chips f_gates f_kind f_source f_second f_clock f_readChips f_readPins f_readGates f_readKind f_readLies f_readSource f_readSecond f_readClock f_page f_trial f_book f_doings f_kept f_isKept f_seen f_seenBehind f_seenGate f_seenWorth f_seenWas f_seed f_worth f_known f_hand f_goes f_takes f_crossed f_last f_lastNow f_states X) H locs → lv_has ls 7 [(0, .ref (ad 23)), (1, .ref (ad 12)), (2, .int p2), (3, .int x3), (4, .int x4)] → W p l e ({ frames := 1, cells := 0, slots := 0, locals := 22 } : Room) s m args below meth c H locs 0 0 Z (F0 m 134 ls [.int s2, .int s1, .ref (ad 2)]) := by
            intro x3 x4 s1 s2 f_hand H locs ls h hw hl
            unfold wp_X10_layReady_b134 at h
            refine sM_hand E hw h.1 dX10_layReady_134 (fun y1 ey1 H locs hw => ?_)
            have h := h.2 y1 ey1
            obtain ⟨v2, ev2⟩ : ∃ y : Int32, y = x4 + 1 := ⟨_, rfl⟩
            have h := h v2 ev2
            refine lv_iinc (v := v2) (lv' := [(4, .int v2), (0, .ref (ad 23)), (1, .ref (ad 12)), (2, .int p2), (3, .int x3)]) hx hb dX10_layReady_135 hl (k := 4) rfl (by rw [ev2]; rfl) (by decide) rfl (fun ls hl => ?_)
            refine lv_goto (tgt := 13) hx hb dX10_layReady_138 (by decide) ?_
            exact ih13 x3 v2 y1 _ _ _ h hw (lv_sub hl [1, 2, 3, 4, 0] rfl)
          have J100 : ∀ (x3 : Int32) (x4 : Int32) (x5 : Int32) (s0 : Int32) (f_hand : Nat → Int32) (H : Heap) (locs : List Loc) (ls : Array Slot), wp_X10_layReady_b100 f_gates f_kind f_second f_source f_page p2 Q (wp_X10_layReady_h2 f_gates f_kind f_second f_source f_page p2 Q  n2) (wp_X10_layReady_h13 f_gates f_kind f_second f_source f_page p2 Q (wp_X10_layReady_h2 f_gates f_kind f_second f_source f_page p2 Q  n2) n13) x3 x4 x5 s0 f_hand → gW D s A (wM ad cI cZ f_thrown f_text f_textSize f_place f_chips f_gates f_kind f_source f_second f_clock f_readChips f_readPins f_readGates f_readKind f_readLies f_readSource f_readSecond f_readClock f_page f_trial f_book f_doings f_kept f_isKept f_seen f_seenBehind f_seenGate f_seenWorth f_seenWas f_seed f_worth f_known f_hand f_goes f_takes f_crossed f_last f_lastNow f_states X) H locs → lv_has ls 7 [(0, .ref (ad 23)), (1, .ref (ad 12)), (2, .int p2), (3, .int x3), (4, .int x4), (5, .int x5)] → W p l e ({ frames := 1, cells := 0, slots := 0, locals := 22 } : Room) s m args below meth c H locs 0 0 Z (F0 m 100 ls [.int s0]) := by
            intro x3 x4 x5 s0 f_hand H locs ls h hw hl
            unfold wp_X10_layReady_b100 at h
            refine lv_istore (lv' := [(6, .int s0), (0, .ref (ad 23)), (1, .ref (ad 12)), (2, .int p2), (3, .int x3), (4, .int x4), (5, .int x5)]) hx hb dX10_layReady_100 hl (by decide) rfl (fun ls hl => ?_)
            refine lv_aload_n hx hb dX10_layReady_102 rfl (lv_at hl 1 rfl) ?_
            refine gM_X10_75_main E hw dX10_layReady_103 ?_
            refine lv_iconst (v := 4) hx hb dX10_layReady_106 (by decide) ?_
            refine lv_iload hx hb dX10_layReady_107 (lv_at hl 5 rfl) ?_
            refine lv_imul hx hb dX10_layReady_109 ?_
            refine lv_iload hx hb dX10_layReady_110 (lv_at hl 6 rfl) ?_
            refine lv_iadd hx hb dX10_layReady_112 ?_
            refine lv_iload hx hb dX10_layReady_113 (lv_at hl 0 rfl) ?_
            refine lv_if_eq (tgt := 122) hx hb dX10_layReady_115 (by decide) (fun c3 => ?_) (fun c3 => ?_)
            · have h := h.1 c3
              refine lv_aload_n hx hb dX10_layReady_122 rfl (lv_at hl 1 rfl) ?_
              refine gM_X10_75_main E hw dX10_layReady_123 ?_
              refine lv_iconst (v := 4) hx hb dX10_layReady_126 (by decide) ?_
              refine lv_iload hx hb dX10_layReady_127 (lv_at hl 5 rfl) ?_
              refine lv_imul hx hb dX10_layReady_129 ?_
              refine lv_iload hx hb dX10_layReady_130 (lv_at hl 6 rfl) ?_
              refine lv_iadd hx hb dX10_layReady_132 ?_
              refine lM_hand E hw h.1 dX10_layReady_133 ?_
              have h := h.2
              exact J134 x3 x4 ((((4 : Int32) * x4) + x5)) ((f_hand ((((4 : Int32) * x4) + x5)).toNatClampNeg)) f_hand _ _ _ h hw (lv_sub hl [1, 2, 3, 4, 5] rfl)
            · have h := h.2 c3
              refine lv_iload_n hx hb dX10_layReady_118 rfl (lv_at hl 3 rfl) ?_
              refine lv_goto (tgt := 134) hx hb dX10_layReady_119 (by decide) ?_
              exact J134 x3 x4 ((((4 : Int32) * x4) + x5)) p2 f_hand _ _ _ h hw (lv_sub hl [1, 2, 3, 4, 5] rfl)
          have J99 : ∀ (x3 : Int32) (x4 : Int32) (x5 : Int32) (f_hand : Nat → Int32) (H : Heap) (locs : List Loc) (ls : Array Slot), wp_X10_layReady_b99 f_gates f_kind f_second f_source f_page p2 Q (wp_X10_layReady_h2 f_gates f_kind f_second f_source f_page p2 Q  n2) (wp_X10_layReady_h13 f_gates f_kind f_second f_source f_page p2 Q (wp_X10_layReady_h2 f_gates f_kind f_second f_source f_page p2 Q  n2) n13) x3 x4 x5 f_hand → gW D s A (wM ad cI cZ f_thrown f_text f_textSize f_place f_chips f_gates f_kind f_source f_second f_clock f_readChips f_readPins f_readGates f_readKind f_readLies f_readSource f_readSecond f_readClock f_page f_trial f_book f_doings f_kept f_isKept f_seen f_seenBehind f_seenGate f_seenWorth f_seenWas f_seed f_worth f_known f_hand f_goes f_takes f_crossed f_last f_lastNow f_states X) H locs → lv_has ls 7 [(0, .ref (ad 23)), (1, .ref (ad 12)), (2, .int p2), (3, .int x3), (4, .int x4), (5, .int x5)] → W p l e ({ frames := 1, cells := 0, slots := 0, locals := 22 } : Room) s m args below meth c H locs 0 0 Z (F0 m 99 ls []) := by
            intro x3 x4 x5 f_hand H locs ls h hw hl
            unfold wp_X10_layReady_b99 at h
            refine lv_iconst (v := 0) hx hb dX10_layReady_99 (by decide) ?_
            exact J100 x3 x4 x5 (0 : Int32) f_hand _ _ _ h hw (lv_sub hl [0, 1, 2, 3, 4, 5] rfl)
          have J95 : ∀ (x3 : Int32) (x4 : Int32) (x5 : Int32) (f_hand : Nat → Int32) (H : Heap) (locs : List Loc) (ls : Array Slot), wp_X10_layReady_b95 f_gates f_kind f_second f_source f_page p2 Q (wp_X10_layReady_h2 f_gates f_kind f_second f_source f_page p2 Q  n2) (wp_X10_layReady_h13 f_gates f_kind f_second f_source f_page p2 Q (wp_X10_layReady_h2 f_gates f_kind f_second f_source f_page p2 Q  n2) n13) x3 x4 x5 f_hand → gW D s A (wM ad cI cZ f_thrown f_text f_textSize f_place f_chips f_gates f_kind f_source f_second f_clock f_readChips f_readPins f_readGates f_readKind f_readLies f_readSource f_readSecond f_readClock f_page f_trial f_book f_doings f_kept f_isKept f_seen f_seenBehind f_seenGate f_seenWorth f_seenWas f_seed f_worth f_known f_hand f_goes f_takes f_crossed f_last f_lastNow f_states X) H locs → lv_has ls 7 [(0, .ref (ad 23)), (1, .ref (ad 12)), (2, .int p2), (3, .int x3), (4, .int x4), (5, .int x5)] → W p l e ({ frames := 1, cells := 0, slots := 0, locals := 22 } : Room) s m args below meth c H locs 0 0 Z (F0 m 95 ls []) := by
            intro x3 x4 x5 f_hand H locs ls h hw hl
            unfold wp_X10_layReady_b95 at h
            refine lv_iconst (v := 1) hx hb dX10_layReady_95 (by decide) ?_
            refine lv_goto (tgt := 100) hx hb dX10_layReady_96 (by decide) ?_
            exact J100 x3 x4 x5 (1 : Int32) f_hand _ _ _ h hw (lv_sub hl [0, 1, 2, 3, 4, 5] rfl)
          unfold wp_X10_layReady_b13 at h
          refine lv_iload hx hb dX10_layReady_13 (lv_at hl 4 rfl) ?_
          refine lv_aload_n hx hb dX10_layReady_15 rfl (lv_at hl 0 rfl) ?_
          refine gM_X10_87_main E hw dX10_layReady_16 ?_
          refine lv_icmp_ge (tgt := 141) hx hb dX10_layReady_19 (by decide) (fun c4 => ?_) (fun c4 => ?_)
          · have h := h.1 c4
            obtain ⟨v5, ev5⟩ : ∃ y : Int32, y = x3 + 1 := ⟨_, rfl⟩
            have h := h v5 ev5
            refine lv_iinc (v := v5) (lv' := [(3, .int v5), (0, .ref (ad 23)), (1, .ref (ad 12)), (2, .int p2), (4, .int x4)]) hx hb dX10_layReady_141 hl (k := 3) rfl (by rw [ev5]; rfl) (by decide) rfl (fun ls hl => ?_)
            refine lv_goto (tgt := 2) hx hb dX10_layReady_144 (by decide) ?_
            exact ih2 v5 f_hand _ _ _ h hw (lv_sub hl [1, 2, 3, 0] rfl)
          · have h := h.2 c4
            refine lv_aload_n hx hb dX10_layReady_22 rfl (lv_at hl 1 rfl) ?_
            refine lv_bipush (v := 10) hx hb dX10_layReady_23 (by decide) ?_
            refine lv_iload hx hb dX10_layReady_25 (lv_at hl 4 rfl) ?_
            refine lv_iadd hx hb dX10_layReady_27 ?_
            refine lM_page E hw h.1 dX10_layReady_28 ?_
            have h := h.2
            refine lv_topi (fun v6 ev6 => ?_)
            have h := h v6 ev6
            refine lv_istore (lv' := [(5, .int v6), (0, .ref (ad 23)), (1, .ref (ad 12)), (2, .int p2), (3, .int x3), (4, .int x4)]) hx hb dX10_layReady_29 hl (by decide) rfl (fun ls hl => ?_)
            refine lv_aload_n hx hb dX10_layReady_31 rfl (lv_at hl 1 rfl) ?_
            refine lv_iload hx hb dX10_layReady_32 (lv_at hl 5 rfl) ?_
            refine g_aI E hw (g_rV E hw (c_X10_stands h _) ym_X10_stands k_677 ⟨rfl, rfl⟩ ⟨Nat.le_of_ble_eq_true rfl, Nat.le_of_ble_eq_true rfl⟩ 23 rfl rfl rfl rfl hl.1 rfl (Nat.le_of_ble_eq_true rfl) ⟨Nat.zero_le _, Nat.zero_le _⟩ dX10_layReady_34) (fun r7 u H locs hq hw => ?_)
            obtain ⟨hu, h⟩ := hq
            rw [hu] at hw
            refine lv_if_ne (tgt := 99) hx hb dX10_layReady_37 (by decide) (fun c8 => ?_) (fun c8 => ?_)
            · have h := h.1 c8
              exact J99 x3 x4 v6 f_hand _ _ _ h hw (lv_sub hl [1, 2, 3, 4, 5, 0] rfl)
            · have h := h.2 c8
              refine lv_aload_n hx hb dX10_layReady_40 rfl (lv_at hl 1 rfl) ?_
              refine lv_iload hx hb dX10_layReady_41 (lv_at hl 5 rfl) ?_
              refine lv_iload hx hb dX10_layReady_43 (lv_at hl 0 rfl) ?_
              refine g_aI E hw (g_rV E hw (c_X10_isAt h _) ym_X10_isAt k_744 ⟨rfl, rfl⟩ ⟨Nat.le_of_ble_eq_true rfl, Nat.le_of_ble_eq_true rfl⟩ 23 rfl rfl rfl rfl hl.1 rfl (Nat.le_of_ble_eq_true rfl) ⟨Nat.zero_le _, Nat.zero_le _⟩ dX10_layReady_45) (fun r9 u H locs hq hw => ?_)
              obtain ⟨hu, h⟩ := hq
              rw [hu] at hw
              refine lv_if_ne (tgt := 99) hx hb dX10_layReady_48 (by decide) (fun c10 => ?_) (fun c10 => ?_)
              · have h := h.1 c10
                exact J99 x3 x4 v6 f_hand _ _ _ h hw (lv_sub hl [1, 2, 3, 4, 5, 0] rfl)
              · have h := h.2 c10
                refine lv_aload_n hx hb dX10_layReady_51 rfl (lv_at hl 1 rfl) ?_
                refine lv_aload_n hx hb dX10_layReady_52 rfl (lv_at hl 1 rfl) ?_
                refine gM_X10_20_main E hw dX10_layReady_53 ?_
                refine lv_iload hx hb dX10_layReady_56 (lv_at hl 5 rfl) ?_
                refine lM_source E hw h.1 dX10_layReady_58 ?_
                have h := h.2
                refine lv_iload hx hb dX10_layReady_59 (lv_at hl 0 rfl) ?_
                refine g_aI E hw (g_rV E hw (c_X10_isAt h _) ym_X10_isAt k_744 ⟨rfl, rfl⟩ ⟨Nat.le_of_ble_eq_true rfl, Nat.le_of_ble_eq_true rfl⟩ 23 rfl rfl rfl rfl hl.1 rfl (Nat.le_of_ble_eq_true rfl) ⟨Nat.zero_le _, Nat.zero_le _⟩ dX10_layReady_61) (fun r11 u H locs hq hw => ?_)
                obtain ⟨hu, h⟩ := hq
                rw [hu] at hw
                refine lv_if_eq (tgt := 99) hx hb dX10_layReady_64 (by decide) (fun c12 => ?_) (fun c12 => ?_)
                · have h := h.1 c12
                  exact J99 x3 x4 v6 f_hand _ _ _ h hw (lv_sub hl [1, 2, 3, 4, 5, 0] rfl)
                · have h := h.2 c12
                  refine lv_aload_n hx hb dX10_layReady_67 rfl (lv_at hl 1 rfl) ?_
                  refine gM_X10_23_main E hw dX10_layReady_68 ?_
                  refine lv_iload hx hb dX10_layReady_71 (lv_at hl 5 rfl) ?_
                  refine lM_second E hw h.1 dX10_layReady_73 ?_
                  have h := h.2
                  refine lv_bipush (v := -9) hx hb dX10_layReady_74 (by decide) ?_
                  refine lv_icmp_eq (tgt := 95) hx hb dX10_layReady_76 (by decide) (fun c13 => ?_) (fun c13 => ?_)
                  · have h := h.1 c13
                    exact J95 x3 x4 v6 f_hand _ _ _ h hw (lv_sub hl [1, 2, 3, 4, 5, 0] rfl)
                  · have h := h.2 c13
                    refine lv_aload_n hx hb dX10_layReady_79 rfl (lv_at hl 1 rfl) ?_
                    refine lv_aload_n hx hb dX10_layReady_80 rfl (lv_at hl 1 rfl) ?_
                    refine gM_X10_23_main E hw dX10_layReady_81 ?_
                    refine lv_iload hx hb dX10_layReady_84 (lv_at hl 5 rfl) ?_
                    refine lM_second E hw h.1 dX10_layReady_86 ?_
                    have h := h.2
                    refine lv_iload hx hb dX10_layReady_87 (lv_at hl 0 rfl) ?_
                    refine g_aI E hw (g_rV E hw (c_X10_isAt h _) ym_X10_isAt k_744 ⟨rfl, rfl⟩ ⟨Nat.le_of_ble_eq_true rfl, Nat.le_of_ble_eq_true rfl⟩ 23 rfl rfl rfl rfl hl.1 rfl (Nat.le_of_ble_eq_true rfl) ⟨Nat.zero_le _, Nat.zero_le _⟩ dX10_layReady_89) (fun r14 u H locs hq hw => ?_)
                    obtain ⟨hu, h⟩ := hq
                    rw [hu] at hw
                    refine lv_if_eq (tgt := 99) hx hb dX10_layReady_92 (by decide) (fun c15 => ?_) (fun c15 => ?_)
                    · have h := h.1 c15
                      exact J99 x3 x4 v6 f_hand _ _ _ h hw (lv_sub hl [1, 2, 3, 4, 5, 0] rfl)
                    · have h := h.2 c15
                      exact J95 x3 x4 v6 f_hand _ _ _ h hw (lv_sub hl [1, 2, 3, 4, 5, 0] rfl)
      unfold wp_X10_layReady_b2 at h
      refine lv_iload_n hx hb dX10_layReady_2 rfl (lv_at hl 3 rfl) ?_
      refine lv_aload_n hx hb dX10_layReady_3 rfl (lv_at hl 0 rfl) ?_
      refine gM_X10_87_main E hw dX10_layReady_4 ?_
      refine lv_icmp_ge (tgt := 147) hx hb dX10_layReady_7 (by decide) (fun c16 => ?_) (fun c16 => ?_)
      · have h := h.1 c16
        exact hret _ _ _ _ _ ⟨_, rfl, h⟩ hw dX10_layReady_147
      · have h := h.2 c16
        refine lv_iconst (v := 0) hx hb dX10_layReady_10 (by decide) ?_
        refine lv_istore (lv' := [(4, .int (0 : Int32)), (0, .ref (ad 23)), (1, .ref (ad 12)), (2, .int p2), (3, .int x3)]) hx hb dX10_layReady_11 hl (by decide) rfl (fun ls hl => ?_)
        obtain ⟨n, h⟩ := h
        exact L13 n x3 (0 : Int32) f_hand _ _ _ h hw (lv_sub hl [1, 2, 3, 4, 0] rfl)
  unfold wp_X10_layReady at h
  refine lv_iconst (v := 0) hx hb dX10_layReady_0 (by decide) ?_
  refine lv_istore_n (lv' := [(3, .int (0 : Int32)), (0, .ref (ad 23)), (1, .ref (ad 12)), (2, .int p2)]) hx hb dX10_layReady_1 rfl hl (by decide) rfl (fun ls hl => ?_)
  obtain ⟨n, h⟩ := h
  exact L2 n (0 : Int32) f_hand _ _ _ h hw (lv_sub hl [1, 2, 3, 0] rfl)
set_option maxRecDepth 100000 in
set_option maxHeartbeats 4000000 in
theorem c_X10_laySchedule_page {l : Launch} {D : va_G} {cI cZ : ClassId} {ad : Nat → Nat} {f_thrown : Int32} {f_text : Nat → Int32} {f_textSize : Int32} {f_place : Int32} {f_chips : Int32} {f_gates : Int32} {f_kind : Nat → Int32} {f_source : Nat → Int32} {f_second : Nat → Int32} {f_clock : Nat → Int32} {f_readChips : Int32} {f_readPins : Int32} {f_readGates : Int32} {f_readKind : Nat → Int32} {f_readLies : Nat → Int32} {f_readSource : Nat → Int32} {f_readSecond : Nat → Int32} {f_readClock : Nat → Int32} {f_page : Nat → Int32} {f_trial : Nat → Int32} {f_book : Nat → Int32} {f_doings : Int32} {f_kept : Nat → Int32} {f_isKept : Nat → Int32} {f_seen : Int32} {f_seenBehind : Nat → Int32} {f_seenGate : Nat → Int32} {f_seenWorth : Nat → Int32} {f_seenWas : Nat → Int32} {f_seed : Int64} {f_worth : Nat → Int32} {f_known : Int32} {f_hand : Nat → Int32} {f_goes : Nat → Int32} {f_takes : Int32} {f_crossed : Int32} {f_last : Int32} {f_lastNow : Int32} {f_states : Nat → Int32} {X : va_W} {p2 : Int32} {p3 : Int32} {p4 : Int32} {Q : Int32 → (Nat → Int32) → (Nat → Int32) → Int32 → Int32 → Int32 → Prop} (h : wp_X10_laySchedule f_chips f_crossed f_gates f_goes f_hand f_kind f_last f_lastNow f_second f_source f_takes f_page p2 p3 p4 Q) : CtV l yX10_laySchedule cX10_laySchedule 9 none ({ frames := 2, cells := 0, slots := 0, locals := 54 } : Room) D [(cI, .int), (cZ, .boolean)] [.ref (ad 23), .ref (ad 12), .int p2, .int p3, .int p4] (wM ad cI cZ f_thrown f_text f_textSize f_place f_chips f_gates f_kind f_source f_second f_clock f_readChips f_readPins f_readGates f_readKind f_readLies f_readSource f_readSecond f_readClock f_page f_trial f_book f_doings f_kept f_isKept f_seen f_seenBehind f_seenGate f_seenWorth f_seenWas f_seed f_worth f_known f_hand f_goes f_takes f_crossed f_last f_lastNow f_states X) (fun  u => ∃ w0 w1 w2 w3 w4 w5, u = (wM ad cI cZ f_thrown f_text f_textSize f_place f_chips f_gates f_kind f_source f_second f_clock f_readChips f_readPins f_readGates f_readKind f_readLies f_readSource f_readSecond f_readClock f_page f_trial f_book f_doings f_kept f_isKept f_seen f_seenBehind f_seenGate f_seenWorth f_seenWas f_seed f_worth f_known w2 w1 w5 w0 w3 w4 f_states X) ∧ Q w0 w1 w2 w3 w4 w5) := by
  refine CtV.of (by decide) rfl (Nat.le_of_ble_eq_true rfl) ?_
  intro p e s m args below meth c A Z E hret ls hl hw
  have E : gE p m c cX10_laySchedule 9 s args RX10 D [(cI, .int), (cZ, .boolean)] A := E
  have hx := E.1.1
  have hb := E.1.2.1
  have hl : lv_has ls 9 [(0, .ref (ad 23)), (1, .ref (ad 12)), (2, .int p2), (3, .int p3), (4, .int p4)] := hl
  have L97 : ∀ (n : Nat) (x5 : Int32) (x6 : Int32) (f_crossed : Int32) (f_goes : Nat → Int32) (f_hand : Nat → Int32) (f_last : Int32) (f_lastNow : Int32) (f_takes : Int32) (H : Heap) (locs : List Loc) (ls : Array Slot), wp_X10_laySchedule_h97 f_chips f_gates f_kind f_second f_source f_page p2 p3 p4 Q  n x5 x6 f_crossed f_goes f_hand f_last f_lastNow f_takes → gW D s A (wM ad cI cZ f_thrown f_text f_textSize f_place f_chips f_gates f_kind f_source f_second f_clock f_readChips f_readPins f_readGates f_readKind f_readLies f_readSource f_readSecond f_readClock f_page f_trial f_book f_doings f_kept f_isKept f_seen f_seenBehind f_seenGate f_seenWorth f_seenWas f_seed f_worth f_known f_hand f_goes f_takes f_crossed f_last f_lastNow f_states X) H locs → lv_has ls 9 [(0, .ref (ad 23)), (1, .ref (ad 12)), (2, .int p2), (3, .int p3), (4, .int p4), (5, .int x5), (6, .int x6)] → W p l e ({ frames := 2, cells := 0, slots := 0, locals := 54 } : Room) s m args below meth c H locs 0 0 Z (F0 m 97 ls []) := by
    intro n
    induction n with
    | zero => intro x5 x6 f_crossed f_goes f_hand f_last f_lastNow f_takes H locs ls h; exact False.elim h
    | succ n97 ih97 =>
      intro x5 x6 f_crossed f_goes f_hand f_last f_lastNow f_takes H locs ls h hw hl
      have h : wp_X10_laySchedule_b97 f_chips f_gates f_kind f_second f_source f_page p2 p3 p4 Q (wp_X10_laySchedule_h97 f_chips f_gates f_kind f_second f_source f_page p2 p3 p4 Q  n97) x5 x6 f_crossed f_goes f_hand f_last f_lastNow f_takes := h
      have J319 : ∀ (x5 : Int32) (x6 : Int32) (s1 : Int32) (f_crossed : Int32) (f_goes : Nat → Int32) (f_hand : Nat → Int32) (f_last : Int32) (f_lastNow : Int32) (f_takes : Int32) (H : Heap) (locs : List Loc) (ls : Array Slot), wp_X10_laySchedule_b319 f_chips f_gates f_kind f_second f_source f_page p2 p3 p4 Q (wp_X10_laySchedule_h97 f_chips f_gates f_kind f_second f_source f_page p2 p3 p4 Q  n97) x5 x6 s1 f_crossed f_goes f_hand f_last f_lastNow f_takes → gW D s A (wM ad cI cZ f_thrown f_text f_textSize f_place f_chips f_gates f_kind f_source f_second f_clock f_readChips f_readPins f_readGates f_readKind f_readLies f_readSource f_readSecond f_readClock f_page f_trial f_book f_doings f_kept f_isKept f_seen f_seenBehind f_seenGate f_seenWorth f_seenWas f_seed f_worth f_known f_hand f_goes f_takes f_crossed f_last f_lastNow f_states X) H locs → lv_has ls 9 [(0, .ref (ad 23)), (1, .ref (ad 12)), (2, .int p2), (3, .int p3), (4, .int p4), (5, .int x5), (6, .int x6)] → W p l e ({ frames := 2, cells := 0, slots := 0, locals := 54 } : Room) s m args below meth c H locs 0 0 Z (F0 m 319 ls [.int s1, .ref (ad 23)]) := by
        intro x5 x6 s1 f_crossed f_goes f_hand f_last f_lastNow f_takes H locs ls h hw hl
        unfold wp_X10_laySchedule_b319 at h
        refine pM_X10_172_main E hw dX10_laySchedule_319 (fun H locs hw => ?_)
        obtain ⟨v1, ev1⟩ : ∃ y : Int32, y = x6 + 1 := ⟨_, rfl⟩
        have h := h v1 ev1
        refine lv_iinc (v := v1) (lv' := [(6, .int v1), (0, .ref (ad 23)), (1, .ref (ad 12)), (2, .int p2), (3, .int p3), (4, .int p4), (5, .int x5)]) hx hb dX10_laySchedule_322 hl (k := 6) rfl (by rw [ev1]; rfl) (by decide) rfl (fun ls hl => ?_)
        refine lv_goto (tgt := 97) hx hb dX10_laySchedule_325 (by decide) ?_
        exact ih97 x5 v1 f_crossed f_goes f_hand s1 f_lastNow f_takes _ _ _ h hw (lv_sub hl [1, 2, 3, 4, 5, 6, 0] rfl)
      have L237 : ∀ (n : Nat) (x5 : Int32) (x6 : Int32) (x8 : Int32) (f_crossed : Int32) (f_goes : Nat → Int32) (f_hand : Nat → Int32) (f_last : Int32) (f_lastNow : Int32) (f_takes : Int32) (H : Heap) (locs : List Loc) (ls : Array Slot), wp_X10_laySchedule_h237 f_chips f_gates f_kind f_second f_source f_page p2 p3 p4 Q (wp_X10_laySchedule_h97 f_chips f_gates f_kind f_second f_source f_page p2 p3 p4 Q  n97) n x5 x6 x8 f_crossed f_goes f_hand f_last f_lastNow f_takes → gW D s A (wM ad cI cZ f_thrown f_text f_textSize f_place f_chips f_gates f_kind f_source f_second f_clock f_readChips f_readPins f_readGates f_readKind f_readLies f_readSource f_readSecond f_readClock f_page f_trial f_book f_doings f_kept f_isKept f_seen f_seenBehind f_seenGate f_seenWorth f_seenWas f_seed f_worth f_known f_hand f_goes f_takes f_crossed f_last f_lastNow f_states X) H locs → lv_has ls 9 [(0, .ref (ad 23)), (1, .ref (ad 12)), (2, .int p2), (3, .int p3), (4, .int p4), (5, .int x5), (6, .int x6), (8, .int x8)] → W p l e ({ frames := 2, cells := 0, slots := 0, locals := 54 } : Room) s m args below meth c H locs 0 0 Z (F0 m 237 ls []) := by
        intro n
        induction n with
        | zero => intro x5 x6 x8 f_crossed f_goes f_hand f_last f_lastNow f_takes H locs ls h; exact False.elim h
        | succ n237 ih237 =>
          intro x5 x6 x8 f_crossed f_goes f_hand f_last f_lastNow f_takes H locs ls h hw hl
          have h : wp_X10_laySchedule_b237 f_chips f_gates f_kind f_second f_source f_page p2 p3 p4 Q (wp_X10_laySchedule_h97 f_chips f_gates f_kind f_second f_source f_page p2 p3 p4 Q  n97) (wp_X10_laySchedule_h237 f_chips f_gates f_kind f_second f_source f_page p2 p3 p4 Q (wp_X10_laySchedule_h97 f_chips f_gates f_kind f_second f_source f_page p2 p3 p4 Q  n97) n237) x5 x6 x8 f_crossed f_goes f_hand f_last f_lastNow f_takes := h
          have J274 : ∀ (x5 : Int32) (x6 : Int32) (x8 : Int32) (s1 : Int32) (s2 : Int32) (f_crossed : Int32) (f_goes : Nat → Int32) (f_hand : Nat → Int32) (f_last : Int32) (f_lastNow : Int32) (f_takes : Int32) (H : Heap) (locs : List Loc) (ls : Array Slot), wp_X10_laySchedule_b274 f_chips f_gates f_kind f_second f_source f_page p2 p3 p4 Q (wp_X10_laySchedule_h97 f_chips f_gates f_kind f_second f_source f_page p2 p3 p4 Q  n97) (wp_X10_laySchedule_h237 f_chips f_gates f_kind f_second f_source f_page p2 p3 p4 Q (wp_X10_laySchedule_h97 f_chips f_gates f_kind f_second f_source f_page p2 p3 p4 Q  n97) n237) x5 x6 x8 s1 s2 f_crossed f_goes f_hand f_last f_lastNow f_takes → gW D s A (wM ad cI cZ f_thrown f_text f_textSize f_place f_chips f_gates f_kind f_source f_second f_clock f_readChips f_readPins f_readGates f_readKind f_readLies f_readSource f_readSecond f_readClock f_page f_trial f_book f_doings f_kept f_isKept f_seen f_seenBehind f_seenGate f_seenWorth f_seenWas f_seed f_worth f_known f_hand f_goes f_takes f_crossed f_last f_lastNow f_states X) H locs → lv_has ls 9 [(0, .ref (ad 23)), (1, .ref (ad 12)), (2, .int p2), (3, .int p3), (4, .int p4), (5, .int x5), (6, .int x6), (8, .int x8)] → W p l e ({ frames := 2, cells := 0, slots := 0, locals := 54 } : Room) s m args below meth c H locs 0 0 Z (F0 m 274 ls [.int s2, .int s1, .ref (ad 2)]) := by
            intro x5 x6 x8 s1 s2 f_crossed f_goes f_hand f_last f_lastNow f_takes H locs ls h hw hl
            unfold wp_X10_laySchedule_b274 at h
            refine sM_hand E hw h.1 dX10_laySchedule_274 (fun y2 ey2 H locs hw => ?_)
            have h := h.2 y2 ey2
            obtain ⟨v3, ev3⟩ : ∃ y : Int32, y = x8 + 1 := ⟨_, rfl⟩
            have h := h v3 ev3
            refine lv_iinc (v := v3) (lv' := [(8, .int v3), (0, .ref (ad 23)), (1, .ref (ad 12)), (2, .int p2), (3, .int p3), (4, .int p4), (5, .int x5), (6, .int x6)]) hx hb dX10_laySchedule_275 hl (k := 7) rfl (by rw [ev3]; rfl) (by decide) rfl (fun ls hl => ?_)
            refine lv_goto (tgt := 237) hx hb dX10_laySchedule_278 (by decide) ?_
            exact ih237 x5 x6 v3 f_crossed f_goes y2 f_last f_lastNow f_takes _ _ _ h hw (lv_sub hl [1, 2, 3, 4, 5, 6, 7, 0] rfl)
          unfold wp_X10_laySchedule_b237 at h
          refine lv_iload hx hb dX10_laySchedule_237 (lv_at hl 7 rfl) ?_
          refine lv_bipush (v := 40) hx hb dX10_laySchedule_239 (by decide) ?_
          refine lv_icmp_ge (tgt := 281) hx hb dX10_laySchedule_241 (by decide) (fun c4 => ?_) (fun c4 => ?_)
          · have h := h.1 c4
            refine lv_aload_n hx hb dX10_laySchedule_281 rfl (lv_at hl 0 rfl) ?_
            refine lv_dup hx hb dX10_laySchedule_282 rfl ?_
            refine gM_X10_166_main E hw dX10_laySchedule_283 ?_
            refine lv_iconst (v := 1) hx hb dX10_laySchedule_286 (by decide) ?_
            refine lv_iadd hx hb dX10_laySchedule_287 ?_
            refine lv_topi (fun v5 ev5 => ?_)
            have h := h v5 ev5
            refine pM_X10_166_main E hw dX10_laySchedule_288 (fun H locs hw => ?_)
            refine lv_aload_n hx hb dX10_laySchedule_291 rfl (lv_at hl 0 rfl) ?_
            refine lv_dup hx hb dX10_laySchedule_292 rfl ?_
            refine gM_X10_169_main E hw dX10_laySchedule_293 ?_
            refine lv_iload hx hb dX10_laySchedule_296 (lv_at hl 5 rfl) ?_
            refine lv_iadd hx hb dX10_laySchedule_298 ?_
            refine lv_topi (fun v6 ev6 => ?_)
            have h := h v6 ev6
            refine pM_X10_169_main E hw dX10_laySchedule_299 (fun H locs hw => ?_)
            refine lv_aload_n hx hb dX10_laySchedule_302 rfl (lv_at hl 0 rfl) ?_
            refine lv_iload hx hb dX10_laySchedule_303 (lv_at hl 5 rfl) ?_
            refine lv_if_le (tgt := 315) hx hb dX10_laySchedule_305 (by decide) (fun c7 => ?_) (fun c7 => ?_)
            · have h := h.1 c7
              refine lv_aload_n hx hb dX10_laySchedule_315 rfl (lv_at hl 0 rfl) ?_
              refine gM_X10_172_main E hw dX10_laySchedule_316 ?_
              exact J319 x5 x6 f_last v6 f_goes f_hand f_last f_lastNow v5 _ _ _ h hw (lv_sub hl [0, 1, 2, 3, 4, 5, 6] rfl)
            · have h := h.2 c7
              refine lv_aload_n hx hb dX10_laySchedule_308 rfl (lv_at hl 0 rfl) ?_
              refine gM_X10_163_main E hw dX10_laySchedule_309 ?_
              refine lv_goto (tgt := 319) hx hb dX10_laySchedule_312 (by decide) ?_
              exact J319 x5 x6 f_lastNow v6 f_goes f_hand f_last f_lastNow v5 _ _ _ h hw (lv_sub hl [0, 1, 2, 3, 4, 5, 6] rfl)
          · have h := h.2 c4
            refine lv_aload_n hx hb dX10_laySchedule_244 rfl (lv_at hl 0 rfl) ?_
            refine gM_X10_75_main E hw dX10_laySchedule_245 ?_
            refine lv_iload hx hb dX10_laySchedule_248 (lv_at hl 7 rfl) ?_
            refine lv_aload_n hx hb dX10_laySchedule_250 rfl (lv_at hl 0 rfl) ?_
            refine gM_X10_78_main E hw dX10_laySchedule_251 ?_
            refine lv_iload hx hb dX10_laySchedule_254 (lv_at hl 7 rfl) ?_
            refine lM_goes E hw h.1 dX10_laySchedule_256 ?_
            have h := h.2
            refine lv_if_eq (tgt := 267) hx hb dX10_laySchedule_257 (by decide) (fun c8 => ?_) (fun c8 => ?_)
            · have h := h.1 c8
              refine lv_aload_n hx hb dX10_laySchedule_267 rfl (lv_at hl 0 rfl) ?_
              refine gM_X10_75_main E hw dX10_laySchedule_268 ?_
              refine lv_iload hx hb dX10_laySchedule_271 (lv_at hl 7 rfl) ?_
              refine lM_hand E hw h.1 dX10_laySchedule_273 ?_
              have h := h.2
              exact J274 x5 x6 x8 x8 ((f_hand (x8).toNatClampNeg)) f_crossed f_goes f_hand f_last f_lastNow f_takes _ _ _ h hw (lv_sub hl [0, 1, 2, 3, 4, 5, 6, 7] rfl)
            · have h := h.2 c8
              refine lv_iload hx hb dX10_laySchedule_260 (lv_at hl 6 rfl) ?_
              refine lv_iconst (v := 1) hx hb dX10_laySchedule_262 (by decide) ?_
              refine lv_iadd hx hb dX10_laySchedule_263 ?_
              refine lv_goto (tgt := 274) hx hb dX10_laySchedule_264 (by decide) ?_
              exact J274 x5 x6 x8 x8 ((x6 + (1 : Int32))) f_crossed f_goes f_hand f_last f_lastNow f_takes _ _ _ h hw (lv_sub hl [0, 1, 2, 3, 4, 5, 6, 7] rfl)
      have J234 : ∀ (x5 : Int32) (x6 : Int32) (f_crossed : Int32) (f_goes : Nat → Int32) (f_hand : Nat → Int32) (f_last : Int32) (f_lastNow : Int32) (f_takes : Int32) (H : Heap) (locs : List Loc) (ls : Array Slot), wp_X10_laySchedule_b234 f_chips f_gates f_kind f_second f_source f_page p2 p3 p4 Q (wp_X10_laySchedule_h97 f_chips f_gates f_kind f_second f_source f_page p2 p3 p4 Q  n97) x5 x6 f_crossed f_goes f_hand f_last f_lastNow f_takes → gW D s A (wM ad cI cZ f_thrown f_text f_textSize f_place f_chips f_gates f_kind f_source f_second f_clock f_readChips f_readPins f_readGates f_readKind f_readLies f_readSource f_readSecond f_readClock f_page f_trial f_book f_doings f_kept f_isKept f_seen f_seenBehind f_seenGate f_seenWorth f_seenWas f_seed f_worth f_known f_hand f_goes f_takes f_crossed f_last f_lastNow f_states X) H locs → lv_has ls 9 [(0, .ref (ad 23)), (1, .ref (ad 12)), (2, .int p2), (3, .int p3), (4, .int p4), (5, .int x5), (6, .int x6)] → W p l e ({ frames := 2, cells := 0, slots := 0, locals := 54 } : Room) s m args below meth c H locs 0 0 Z (F0 m 234 ls []) := by
        intro x5 x6 f_crossed f_goes f_hand f_last f_lastNow f_takes H locs ls h hw hl
        unfold wp_X10_laySchedule_b234 at h
        refine lv_iconst (v := 0) hx hb dX10_laySchedule_234 (by decide) ?_
        refine lv_istore (lv' := [(8, .int (0 : Int32)), (0, .ref (ad 23)), (1, .ref (ad 12)), (2, .int p2), (3, .int p3), (4, .int p4), (5, .int x5), (6, .int x6)]) hx hb dX10_laySchedule_235 hl (by decide) rfl (fun ls hl => ?_)
        obtain ⟨n, h⟩ := h
        exact L237 n x5 x6 (0 : Int32) f_crossed f_goes f_hand f_last f_lastNow f_takes _ _ _ h hw (lv_sub hl [1, 2, 3, 4, 5, 6, 7, 0] rfl)
      have L182 : ∀ (n : Nat) (x5 : Int32) (x6 : Int32) (x7 : Int32) (x8 : Int32) (f_crossed : Int32) (f_goes : Nat → Int32) (f_hand : Nat → Int32) (f_last : Int32) (f_lastNow : Int32) (f_takes : Int32) (H : Heap) (locs : List Loc) (ls : Array Slot), wp_X10_laySchedule_h182 f_chips f_gates f_kind f_second f_source f_page p2 p3 p4 Q (wp_X10_laySchedule_h97 f_chips f_gates f_kind f_second f_source f_page p2 p3 p4 Q  n97) n x5 x6 x7 x8 f_crossed f_goes f_hand f_last f_lastNow f_takes → gW D s A (wM ad cI cZ f_thrown f_text f_textSize f_place f_chips f_gates f_kind f_source f_second f_clock f_readChips f_readPins f_readGates f_readKind f_readLies f_readSource f_readSecond f_readClock f_page f_trial f_book f_doings f_kept f_isKept f_seen f_seenBehind f_seenGate f_seenWorth f_seenWas f_seed f_worth f_known f_hand f_goes f_takes f_crossed f_last f_lastNow f_states X) H locs → lv_has ls 9 [(0, .ref (ad 23)), (1, .ref (ad 12)), (2, .int p2), (3, .int p3), (4, .int p4), (5, .int x5), (6, .int x6), (7, .int x7), (8, .int x8)] → W p l e ({ frames := 2, cells := 0, slots := 0, locals := 54 } : Room) s m args below meth c H locs 0 0 Z (F0 m 182 ls []) := by
        intro n
        induction n with
        | zero => intro x5 x6 x7 x8 f_crossed f_goes f_hand f_last f_lastNow f_takes H locs ls h; exact False.elim h
        | succ n182 ih182 =>
          intro x5 x6 x7 x8 f_crossed f_goes f_hand f_last f_lastNow f_takes H locs ls h hw hl
          have h : wp_X10_laySchedule_b182 f_chips f_gates f_kind f_second f_source f_page p2 p3 p4 Q (wp_X10_laySchedule_h97 f_chips f_gates f_kind f_second f_source f_page p2 p3 p4 Q  n97) (wp_X10_laySchedule_h182 f_chips f_gates f_kind f_second f_source f_page p2 p3 p4 Q (wp_X10_laySchedule_h97 f_chips f_gates f_kind f_second f_source f_page p2 p3 p4 Q  n97) n182) x5 x6 x7 x8 f_crossed f_goes f_hand f_last f_lastNow f_takes := h
          unfold wp_X10_laySchedule_b182 at h
          refine lv_iload hx hb dX10_laySchedule_182 (lv_at hl 8 rfl) ?_
          refine lv_iconst (v := 1) hx hb dX10_laySchedule_184 (by decide) ?_
          refine lv_iadd hx hb dX10_laySchedule_185 ?_
          refine lv_aload_n hx hb dX10_laySchedule_186 rfl (lv_at hl 0 rfl) ?_
          refine gM_X10_13_main E hw dX10_laySchedule_187 ?_
          refine lv_icmp_ge (tgt := 234) hx hb dX10_laySchedule_190 (by decide) (fun c9 => ?_) (fun c9 => ?_)
          · have h := h.1 c9
            exact J234 x5 x6 f_crossed f_goes f_hand f_last f_lastNow f_takes _ _ _ h hw (lv_sub hl [0, 1, 2, 3, 4, 5, 6] rfl)
          · have h := h.2 c9
            refine lv_iload hx hb dX10_laySchedule_193 (lv_at hl 7 rfl) ?_
            refine lv_if_ne (tgt := 234) hx hb dX10_laySchedule_195 (by decide) (fun c10 => ?_) (fun c10 => ?_)
            · have h := h.1 c10
              exact J234 x5 x6 f_crossed f_goes f_hand f_last f_lastNow f_takes _ _ _ h hw (lv_sub hl [0, 1, 2, 3, 4, 5, 6] rfl)
            · have h := h.2 c10
              refine lv_iload hx hb dX10_laySchedule_198 (lv_at hl 5 rfl) ?_
              refine lv_aload_n hx hb dX10_laySchedule_200 rfl (lv_at hl 0 rfl) ?_
              refine lv_aload_n hx hb dX10_laySchedule_201 rfl (lv_at hl 1 rfl) ?_
              refine lv_iload_n hx hb dX10_laySchedule_202 rfl (lv_at hl 2 rfl) ?_
              refine lv_iload hx hb dX10_laySchedule_203 (lv_at hl 8 rfl) ?_
              refine lv_iload hx hb dX10_laySchedule_205 (lv_at hl 8 rfl) ?_
              refine lv_iconst (v := 1) hx hb dX10_laySchedule_207 (by decide) ?_
              refine lv_iadd hx hb dX10_laySchedule_208 ?_
              refine g_aI E hw (g_rV E hw (c_X10_layGoing_page h _) ym_X10_layGoing k_747 ⟨rfl, rfl⟩ ⟨Nat.le_of_ble_eq_true rfl, Nat.le_of_ble_eq_true rfl⟩ 23 rfl rfl rfl rfl hl.1 rfl (Nat.le_of_ble_eq_true rfl) ⟨Nat.zero_le _, Nat.zero_le _⟩ dX10_laySchedule_209) (fun r11 u H locs hq hw => ?_)
              obtain ⟨y12, y13, hu, h⟩ := hq
              rw [hu] at hw
              refine lv_aload_n hx hb dX10_laySchedule_212 rfl (lv_at hl 0 rfl) ?_
              refine lv_aload_n hx hb dX10_laySchedule_213 rfl (lv_at hl 1 rfl) ?_
              refine lv_iload_n hx hb dX10_laySchedule_214 rfl (lv_at hl 2 rfl) ?_
              refine lv_iload hx hb dX10_laySchedule_215 (lv_at hl 8 rfl) ?_
              refine lv_iconst (v := 1) hx hb dX10_laySchedule_217 (by decide) ?_
              refine lv_iadd hx hb dX10_laySchedule_218 ?_
              refine lv_iload hx hb dX10_laySchedule_219 (lv_at hl 8 rfl) ?_
              refine g_aI E hw (g_rV E hw (c_X10_layGoing_page h _) ym_X10_layGoing k_747 ⟨rfl, rfl⟩ ⟨Nat.le_of_ble_eq_true rfl, Nat.le_of_ble_eq_true rfl⟩ 23 rfl rfl rfl rfl hl.1 rfl (Nat.le_of_ble_eq_true rfl) ⟨Nat.zero_le _, Nat.zero_le _⟩ dX10_laySchedule_221) (fun r14 u H locs hq hw => ?_)
              obtain ⟨y15, y16, hu, h⟩ := hq
              rw [hu] at hw
              refine lv_iadd hx hb dX10_laySchedule_224 ?_
              refine lv_iadd hx hb dX10_laySchedule_225 ?_
              refine lv_topi (fun v17 ev17 => ?_)
              have h := h v17 ev17
              refine lv_istore (lv' := [(5, .int v17), (0, .ref (ad 23)), (1, .ref (ad 12)), (2, .int p2), (3, .int p3), (4, .int p4), (6, .int x6), (7, .int x7), (8, .int x8)]) hx hb dX10_laySchedule_226 hl (by decide) rfl (fun ls hl => ?_)
              obtain ⟨v18, ev18⟩ : ∃ y : Int32, y = x8 + 1 := ⟨_, rfl⟩
              have h := h v18 ev18
              refine lv_iinc (v := v18) (lv' := [(8, .int v18), (5, .int v17), (0, .ref (ad 23)), (1, .ref (ad 12)), (2, .int p2), (3, .int p3), (4, .int p4), (6, .int x6), (7, .int x7)]) hx hb dX10_laySchedule_228 hl (k := 8) rfl (by rw [ev18]; rfl) (by decide) rfl (fun ls hl => ?_)
              refine lv_goto (tgt := 182) hx hb dX10_laySchedule_231 (by decide) ?_
              exact ih182 v17 x6 x7 v18 f_crossed y15 f_hand f_last y16 f_takes _ _ _ h hw (lv_sub hl [2, 3, 4, 5, 6, 1, 7, 8, 0] rfl)
      have J177 : ∀ (x5 : Int32) (x6 : Int32) (s0 : Int32) (f_crossed : Int32) (f_goes : Nat → Int32) (f_hand : Nat → Int32) (f_last : Int32) (f_lastNow : Int32) (f_takes : Int32) (H : Heap) (locs : List Loc) (ls : Array Slot), wp_X10_laySchedule_b177 f_chips f_gates f_kind f_second f_source f_page p2 p3 p4 Q (wp_X10_laySchedule_h97 f_chips f_gates f_kind f_second f_source f_page p2 p3 p4 Q  n97) x5 x6 s0 f_crossed f_goes f_hand f_last f_lastNow f_takes → gW D s A (wM ad cI cZ f_thrown f_text f_textSize f_place f_chips f_gates f_kind f_source f_second f_clock f_readChips f_readPins f_readGates f_readKind f_readLies f_readSource f_readSecond f_readClock f_page f_trial f_book f_doings f_kept f_isKept f_seen f_seenBehind f_seenGate f_seenWorth f_seenWas f_seed f_worth f_known f_hand f_goes f_takes f_crossed f_last f_lastNow f_states X) H locs → lv_has ls 9 [(0, .ref (ad 23)), (1, .ref (ad 12)), (2, .int p2), (3, .int p3), (4, .int p4), (5, .int x5), (6, .int x6)] → W p l e ({ frames := 2, cells := 0, slots := 0, locals := 54 } : Room) s m args below meth c H locs 0 0 Z (F0 m 177 ls [.int s0]) := by
        intro x5 x6 s0 f_crossed f_goes f_hand f_last f_lastNow f_takes H locs ls h hw hl
        unfold wp_X10_laySchedule_b177 at h
        refine lv_istore (lv' := [(7, .int s0), (0, .ref (ad 23)), (1, .ref (ad 12)), (2, .int p2), (3, .int p3), (4, .int p4), (5, .int x5), (6, .int x6)]) hx hb dX10_laySchedule_177 hl (by decide) rfl (fun ls hl => ?_)
        refine lv_iconst (v := 0) hx hb dX10_laySchedule_179 (by decide) ?_
        refine lv_istore (lv' := [(8, .int (0 : Int32)), (7, .int s0), (0, .ref (ad 23)), (1, .ref (ad 12)), (2, .int p2), (3, .int p3), (4, .int p4), (5, .int x5), (6, .int x6)]) hx hb dX10_laySchedule_180 hl (by decide) rfl (fun ls hl => ?_)
        obtain ⟨n, h⟩ := h
        exact L182 n x5 x6 s0 (0 : Int32) f_crossed f_goes f_hand f_last f_lastNow f_takes _ _ _ h hw (lv_sub hl [2, 3, 4, 5, 6, 7, 8, 1, 0] rfl)
      have J176 : ∀ (x5 : Int32) (x6 : Int32) (f_crossed : Int32) (f_goes : Nat → Int32) (f_hand : Nat → Int32) (f_last : Int32) (f_lastNow : Int32) (f_takes : Int32) (H : Heap) (locs : List Loc) (ls : Array Slot), wp_X10_laySchedule_b176 f_chips f_gates f_kind f_second f_source f_page p2 p3 p4 Q (wp_X10_laySchedule_h97 f_chips f_gates f_kind f_second f_source f_page p2 p3 p4 Q  n97) x5 x6 f_crossed f_goes f_hand f_last f_lastNow f_takes → gW D s A (wM ad cI cZ f_thrown f_text f_textSize f_place f_chips f_gates f_kind f_source f_second f_clock f_readChips f_readPins f_readGates f_readKind f_readLies f_readSource f_readSecond f_readClock f_page f_trial f_book f_doings f_kept f_isKept f_seen f_seenBehind f_seenGate f_seenWorth f_seenWas f_seed f_worth f_known f_hand f_goes f_takes f_crossed f_last f_lastNow f_states X) H locs → lv_has ls 9 [(0, .ref (ad 23)), (1, .ref (ad 12)), (2, .int p2), (3, .int p3), (4, .int p4), (5, .int x5), (6, .int x6)] → W p l e ({ frames := 2, cells := 0, slots := 0, locals := 54 } : Room) s m args below meth c H locs 0 0 Z (F0 m 176 ls []) := by
        intro x5 x6 f_crossed f_goes f_hand f_last f_lastNow f_takes H locs ls h hw hl
        unfold wp_X10_laySchedule_b176 at h
        refine lv_iconst (v := 0) hx hb dX10_laySchedule_176 (by decide) ?_
        exact J177 x5 x6 (0 : Int32) f_crossed f_goes f_hand f_last f_lastNow f_takes _ _ _ h hw (lv_sub hl [0, 1, 2, 3, 4, 5, 6] rfl)
      have L126 : ∀ (n : Nat) (x6 : Int32) (x7 : Int32) (f_crossed : Int32) (f_goes : Nat → Int32) (f_hand : Nat → Int32) (f_last : Int32) (f_lastNow : Int32) (f_takes : Int32) (H : Heap) (locs : List Loc) (ls : Array Slot), wp_X10_laySchedule_h126 f_chips f_gates f_kind f_second f_source f_page p2 p3 p4 Q (wp_X10_laySchedule_h97 f_chips f_gates f_kind f_second f_source f_page p2 p3 p4 Q  n97) n x6 x7 f_crossed f_goes f_hand f_last f_lastNow f_takes → gW D s A (wM ad cI cZ f_thrown f_text f_textSize f_place f_chips f_gates f_kind f_source f_second f_clock f_readChips f_readPins f_readGates f_readKind f_readLies f_readSource f_readSecond f_readClock f_page f_trial f_book f_doings f_kept f_isKept f_seen f_seenBehind f_seenGate f_seenWorth f_seenWas f_seed f_worth f_known f_hand f_goes f_takes f_crossed f_last f_lastNow f_states X) H locs → lv_has ls 9 [(0, .ref (ad 23)), (1, .ref (ad 12)), (2, .int p2), (3, .int p3), (4, .int p4), (6, .int x6), (7, .int x7)] → W p l e ({ frames := 2, cells := 0, slots := 0, locals := 54 } : Room) s m args below meth c H locs 0 0 Z (F0 m 126 ls []) := by
        intro n
        induction n with
        | zero => intro x6 x7 f_crossed f_goes f_hand f_last f_lastNow f_takes H locs ls h; exact False.elim h
        | succ n126 ih126 =>
          intro x6 x7 f_crossed f_goes f_hand f_last f_lastNow f_takes H locs ls h hw hl
          have h : wp_X10_laySchedule_b126 f_chips f_gates f_kind f_second f_source f_page p2 p3 p4 Q (wp_X10_laySchedule_h97 f_chips f_gates f_kind f_second f_source f_page p2 p3 p4 Q  n97) (wp_X10_laySchedule_h126 f_chips f_gates f_kind f_second f_source f_page p2 p3 p4 Q (wp_X10_laySchedule_h97 f_chips f_gates f_kind f_second f_source f_page p2 p3 p4 Q  n97) n126) x6 x7 f_crossed f_goes f_hand f_last f_lastNow f_takes := h
          unfold wp_X10_laySchedule_b126 at h
          refine lv_iload hx hb dX10_laySchedule_126 (lv_at hl 6 rfl) ?_
          refine lv_bipush (v := 40) hx hb dX10_laySchedule_128 (by decide) ?_
          refine lv_icmp_ge (tgt := 147) hx hb dX10_laySchedule_130 (by decide) (fun c19 => ?_) (fun c19 => ?_)
          · have h := h.1 c19
            refine lv_iconst (v := 0) hx hb dX10_laySchedule_147 (by decide) ?_
            refine lv_istore (lv' := [(5, .int (0 : Int32)), (0, .ref (ad 23)), (1, .ref (ad 12)), (2, .int p2), (3, .int p3), (4, .int p4), (6, .int x6), (7, .int x7)]) hx hb dX10_laySchedule_148 hl (by decide) rfl (fun ls hl => ?_)
            refine lv_aload_n hx hb dX10_laySchedule_150 rfl (lv_at hl 1 rfl) ?_
            refine lv_bipush (v := -9) hx hb dX10_laySchedule_151 (by decide) ?_
            refine pM_X10_163_main E hw dX10_laySchedule_153 (fun H locs hw => ?_)
            refine lv_iload hx hb dX10_laySchedule_156 (lv_at hl 6 rfl) ?_
            refine lv_iload hx hb dX10_laySchedule_158 (lv_at hl 5 rfl) ?_
            refine lv_icmp_ge (tgt := 176) hx hb dX10_laySchedule_160 (by decide) (fun c20 => ?_) (fun c20 => ?_)
            · have h := h.1 c20
              exact J176 (0 : Int32) x6 f_crossed f_goes f_hand f_last (-9 : Int32) f_takes _ _ _ h hw (lv_sub hl [1, 2, 3, 4, 5, 0, 6] rfl)
            · have h := h.2 c20
              refine lv_iload_n hx hb dX10_laySchedule_163 rfl (lv_at hl 4 rfl) ?_
              refine lv_iload hx hb dX10_laySchedule_164 (lv_at hl 6 rfl) ?_
              refine g_aI E hw (g_rS E hw (c_X10_has h _) ym_X10_has k_680 ⟨rfl, rfl⟩ ⟨Nat.le_of_ble_eq_true rfl, Nat.le_of_ble_eq_true rfl⟩ rfl hl.1 rfl (Nat.le_of_ble_eq_true rfl) ⟨Nat.zero_le _, Nat.zero_le _⟩ dX10_laySchedule_166) (fun r21 u H locs hq hw => ?_)
              obtain ⟨hu, h⟩ := hq
              rw [hu] at hw
              refine lv_if_eq (tgt := 176) hx hb dX10_laySchedule_169 (by decide) (fun c22 => ?_) (fun c22 => ?_)
              · have h := h.1 c22
                exact J176 (0 : Int32) x6 f_crossed f_goes f_hand f_last (-9 : Int32) f_takes _ _ _ h hw (lv_sub hl [1, 2, 3, 4, 5, 0, 6] rfl)
              · have h := h.2 c22
                refine lv_iconst (v := 1) hx hb dX10_laySchedule_172 (by decide) ?_
                refine lv_goto (tgt := 177) hx hb dX10_laySchedule_173 (by decide) ?_
                exact J177 (0 : Int32) x6 (1 : Int32) f_crossed f_goes f_hand f_last (-9 : Int32) f_takes _ _ _ h hw (lv_sub hl [1, 2, 3, 4, 5, 0, 6] rfl)
          · have h := h.2 c19
            refine lv_aload_n hx hb dX10_laySchedule_133 rfl (lv_at hl 0 rfl) ?_
            refine gM_X10_78_main E hw dX10_laySchedule_134 ?_
            refine lv_iload hx hb dX10_laySchedule_137 (lv_at hl 6 rfl) ?_
            refine lv_iconst (v := 0) hx hb dX10_laySchedule_139 (by decide) ?_
            refine sM_goes E hw (Or.inl rfl) h.1 dX10_laySchedule_140 (fun y23 ey23 H locs hw => ?_)
            have h := h.2 y23 ey23
            obtain ⟨v24, ev24⟩ : ∃ y : Int32, y = x7 + 1 := ⟨_, rfl⟩
            have h := h v24 ev24
            refine lv_iinc (v := v24) (lv' := [(7, .int v24), (0, .ref (ad 23)), (1, .ref (ad 12)), (2, .int p2), (3, .int p3), (4, .int p4), (6, .int x6)]) hx hb dX10_laySchedule_141 hl (k := 6) rfl (by rw [ev24]; rfl) (by decide) rfl (fun ls hl => ?_)
            refine lv_goto (tgt := 126) hx hb dX10_laySchedule_144 (by decide) ?_
            exact ih126 x6 v24 f_crossed y23 f_hand f_last f_lastNow f_takes _ _ _ h hw (lv_sub hl [1, 2, 3, 4, 5, 6, 0] rfl)
      have J116 : ∀ (x6 : Int32) (f_crossed : Int32) (f_goes : Nat → Int32) (f_hand : Nat → Int32) (f_last : Int32) (f_lastNow : Int32) (f_takes : Int32) (H : Heap) (locs : List Loc) (ls : Array Slot), wp_X10_laySchedule_b116 f_chips f_gates f_kind f_second f_source f_page p2 p3 p4 Q (wp_X10_laySchedule_h97 f_chips f_gates f_kind f_second f_source f_page p2 p3 p4 Q  n97) x6 f_crossed f_goes f_hand f_last f_lastNow f_takes → gW D s A (wM ad cI cZ f_thrown f_text f_textSize f_place f_chips f_gates f_kind f_source f_second f_clock f_readChips f_readPins f_readGates f_readKind f_readLies f_readSource f_readSecond f_readClock f_page f_trial f_book f_doings f_kept f_isKept f_seen f_seenBehind f_seenGate f_seenWorth f_seenWas f_seed f_worth f_known f_hand f_goes f_takes f_crossed f_last f_lastNow f_states X) H locs → lv_has ls 9 [(0, .ref (ad 23)), (1, .ref (ad 12)), (2, .int p2), (3, .int p3), (4, .int p4), (6, .int x6)] → W p l e ({ frames := 2, cells := 0, slots := 0, locals := 54 } : Room) s m args below meth c H locs 0 0 Z (F0 m 116 ls []) := by
        intro x6 f_crossed f_goes f_hand f_last f_lastNow f_takes H locs ls h hw hl
        unfold wp_X10_laySchedule_b116 at h
        refine lv_aload_n hx hb dX10_laySchedule_116 rfl (lv_at hl 0 rfl) ?_
        refine lv_aload_n hx hb dX10_laySchedule_117 rfl (lv_at hl 1 rfl) ?_
        refine lv_iload hx hb dX10_laySchedule_118 (lv_at hl 5 rfl) ?_
        refine g_aV E hw (g_rV E hw (c_X10_layReady_page h _) ym_X10_layReady k_741 ⟨rfl, rfl⟩ ⟨Nat.le_of_ble_eq_true rfl, Nat.le_of_ble_eq_true rfl⟩ 23 rfl rfl rfl rfl hl.1 rfl (Nat.le_of_ble_eq_true rfl) ⟨Nat.zero_le _, Nat.zero_le _⟩ dX10_laySchedule_120) (fun u H locs hq hw => ?_)
        obtain ⟨y26, hu, h⟩ := hq
        rw [hu] at hw
        refine lv_iconst (v := 0) hx hb dX10_laySchedule_123 (by decide) ?_
        refine lv_istore (lv' := [(7, .int (0 : Int32)), (0, .ref (ad 23)), (1, .ref (ad 12)), (2, .int p2), (3, .int p3), (4, .int p4), (6, .int x6)]) hx hb dX10_laySchedule_124 hl (by decide) rfl (fun ls hl => ?_)
        obtain ⟨n, h⟩ := h
        exact L126 n x6 (0 : Int32) f_crossed f_goes y26 f_last f_lastNow f_takes _ _ _ h hw (lv_sub hl [1, 2, 3, 4, 5, 6, 0] rfl)
      unfold wp_X10_laySchedule_b97 at h
      refine lv_iload hx hb dX10_laySchedule_97 (lv_at hl 6 rfl) ?_
      refine lv_bipush (v := 99) hx hb dX10_laySchedule_99 (by decide) ?_
      refine lv_icmp_ge (tgt := 328) hx hb dX10_laySchedule_101 (by decide) (fun c27 => ?_) (fun c27 => ?_)
      · have h := h.1 c27
        exact hret _ _ _ _ _ ⟨_, _, _, _, _, _, rfl, h⟩ hw dX10_laySchedule_328
      · have h := h.2 c27
        refine lv_iload hx hb dX10_laySchedule_104 (lv_at hl 5 rfl) ?_
        refine lv_if_gt (tgt := 116) hx hb dX10_laySchedule_106 (by decide) (fun c28 => ?_) (fun c28 => ?_)
        · have h := h.1 c28
          exact J116 x6 f_crossed f_goes f_hand f_last f_lastNow f_takes _ _ _ h hw (lv_sub hl [0, 1, 2, 3, 4, 6] rfl)
        · have h := h.2 c28
          refine lv_iload hx hb dX10_laySchedule_109 (lv_at hl 6 rfl) ?_
          refine lv_iload hx hb dX10_laySchedule_111 (lv_at hl 4 rfl) ?_
          refine lv_icmp_gt (tgt := 328) hx hb dX10_laySchedule_113 (by decide) (fun c29 => ?_) (fun c29 => ?_)
          · have h := h.1 c29
            exact hret _ _ _ _ _ ⟨_, _, _, _, _, _, rfl, h⟩ hw dX10_laySchedule_328
          · have h := h.2 c29
            exact J116 x6 f_crossed f_goes f_hand f_last f_lastNow f_takes _ _ _ h hw (lv_sub hl [0, 1, 2, 3, 4, 6] rfl)
  have L28 : ∀ (n : Nat) (x5 : Int32) (f_crossed : Int32) (f_goes : Nat → Int32) (f_hand : Nat → Int32) (f_last : Int32) (f_lastNow : Int32) (f_takes : Int32) (H : Heap) (locs : List Loc) (ls : Array Slot), wp_X10_laySchedule_h28 f_chips f_gates f_kind f_second f_source f_page p2 p3 p4 Q  n x5 f_crossed f_goes f_hand f_last f_lastNow f_takes → gW D s A (wM ad cI cZ f_thrown f_text f_textSize f_place f_chips f_gates f_kind f_source f_second f_clock f_readChips f_readPins f_readGates f_readKind f_readLies f_readSource f_readSecond f_readClock f_page f_trial f_book f_doings f_kept f_isKept f_seen f_seenBehind f_seenGate f_seenWorth f_seenWas f_seed f_worth f_known f_hand f_goes f_takes f_crossed f_last f_lastNow f_states X) H locs → lv_has ls 9 [(0, .ref (ad 23)), (1, .ref (ad 12)), (2, .int p2), (3, .int p3), (4, .int p4), (5, .int x5)] → W p l e ({ frames := 2, cells := 0, slots := 0, locals := 54 } : Room) s m args below meth c H locs 0 0 Z (F0 m 28 ls []) := by
    intro n
    induction n with
    | zero => intro x5 f_crossed f_goes f_hand f_last f_lastNow f_takes H locs ls h; exact False.elim h
    | succ n28 ih28 =>
      intro x5 f_crossed f_goes f_hand f_last f_lastNow f_takes H locs ls h hw hl
      have h : wp_X10_laySchedule_b28 f_chips f_gates f_kind f_second f_source f_page p2 p3 p4 Q (wp_X10_laySchedule_h28 f_chips f_gates f_kind f_second f_source f_page p2 p3 p4 Q  n28) x5 f_crossed f_goes f_hand f_last f_lastNow f_takes := h
      have J68 : ∀ (x5 : Int32) (s1 : Int32) (s2 : Int32) (f_crossed : Int32) (f_goes : Nat → Int32) (f_hand : Nat → Int32) (f_last : Int32) (f_lastNow : Int32) (f_takes : Int32) (H : Heap) (locs : List Loc) (ls : Array Slot), wp_X10_laySchedule_b68 f_chips f_gates f_kind f_second f_source f_page p2 p3 p4 Q (wp_X10_laySchedule_h28 f_chips f_gates f_kind f_second f_source f_page p2 p3 p4 Q  n28) x5 s1 s2 f_crossed f_goes f_hand f_last f_lastNow f_takes → gW D s A (wM ad cI cZ f_thrown f_text f_textSize f_place f_chips f_gates f_kind f_source f_second f_clock f_readChips f_readPins f_readGates f_readKind f_readLies f_readSource f_readSecond f_readClock f_page f_trial f_book f_doings f_kept f_isKept f_seen f_seenBehind f_seenGate f_seenWorth f_seenWas f_seed f_worth f_known f_hand f_goes f_takes f_crossed f_last f_lastNow f_states X) H locs → lv_has ls 9 [(0, .ref (ad 23)), (1, .ref (ad 12)), (2, .int p2), (3, .int p3), (4, .int p4), (5, .int x5)] → W p l e ({ frames := 2, cells := 0, slots := 0, locals := 54 } : Room) s m args below meth c H locs 0 0 Z (F0 m 68 ls [.int s2, .int s1, .ref (ad 2)]) := by
        intro x5 s1 s2 f_crossed f_goes f_hand f_last f_lastNow f_takes H locs ls h hw hl
        unfold wp_X10_laySchedule_b68 at h
        refine sM_hand E hw h.1 dX10_laySchedule_68 (fun y30 ey30 H locs hw => ?_)
        have h := h.2 y30 ey30
        obtain ⟨v31, ev31⟩ : ∃ y : Int32, y = x5 + 1 := ⟨_, rfl⟩
        have h := h v31 ev31
        refine lv_iinc (v := v31) (lv' := [(5, .int v31), (0, .ref (ad 23)), (1, .ref (ad 12)), (2, .int p2), (3, .int p3), (4, .int p4)]) hx hb dX10_laySchedule_69 hl (k := 5) rfl (by rw [ev31]; rfl) (by decide) rfl (fun ls hl => ?_)
        refine lv_goto (tgt := 28) hx hb dX10_laySchedule_72 (by decide) ?_
        exact ih28 v31 f_crossed f_goes y30 f_last f_lastNow f_takes _ _ _ h hw (lv_sub hl [1, 2, 3, 4, 5, 0] rfl)
      unfold wp_X10_laySchedule_b28 at h
      refine lv_iload hx hb dX10_laySchedule_28 (lv_at hl 5 rfl) ?_
      refine lv_aload_n hx hb dX10_laySchedule_30 rfl (lv_at hl 0 rfl) ?_
      refine gM_X10_87_main E hw dX10_laySchedule_31 ?_
      refine lv_icmp_ge (tgt := 75) hx hb dX10_laySchedule_34 (by decide) (fun c32 => ?_) (fun c32 => ?_)
      · have h := h.1 c32
        refine lv_aload_n hx hb dX10_laySchedule_75 rfl (lv_at hl 0 rfl) ?_
        refine lv_iconst (v := 0) hx hb dX10_laySchedule_76 (by decide) ?_
        refine pM_X10_166_main E hw dX10_laySchedule_77 (fun H locs hw => ?_)
        refine lv_aload_n hx hb dX10_laySchedule_80 rfl (lv_at hl 0 rfl) ?_
        refine lv_iconst (v := 0) hx hb dX10_laySchedule_81 (by decide) ?_
        refine pM_X10_169_main E hw dX10_laySchedule_82 (fun H locs hw => ?_)
        refine lv_aload_n hx hb dX10_laySchedule_85 rfl (lv_at hl 0 rfl) ?_
        refine lv_bipush (v := -9) hx hb dX10_laySchedule_86 (by decide) ?_
        refine pM_X10_172_main E hw dX10_laySchedule_88 (fun H locs hw => ?_)
        refine lv_iconst (v := 1) hx hb dX10_laySchedule_91 (by decide) ?_
        refine lv_istore (lv' := [(5, .int (1 : Int32)), (0, .ref (ad 23)), (1, .ref (ad 12)), (2, .int p2), (3, .int p3), (4, .int p4)]) hx hb dX10_laySchedule_92 hl (by decide) rfl (fun ls hl => ?_)
        refine lv_iconst (v := 0) hx hb dX10_laySchedule_94 (by decide) ?_
        refine lv_istore (lv' := [(6, .int (0 : Int32)), (5, .int (1 : Int32)), (0, .ref (ad 23)), (1, .ref (ad 12)), (2, .int p2), (3, .int p3), (4, .int p4)]) hx hb dX10_laySchedule_95 hl (by decide) rfl (fun ls hl => ?_)
        obtain ⟨n, h⟩ := h
        exact L97 n (1 : Int32) (0 : Int32) (0 : Int32) f_goes f_hand (-9 : Int32) f_lastNow (0 : Int32) _ _ _ h hw (lv_sub hl [2, 3, 4, 5, 6, 1, 0] rfl)
      · have h := h.2 c32
        refine lv_aload_n hx hb dX10_laySchedule_37 rfl (lv_at hl 0 rfl) ?_
        refine gM_X10_75_main E hw dX10_laySchedule_38 ?_
        refine lv_iconst (v := 4) hx hb dX10_laySchedule_41 (by decide) ?_
        refine lv_iload hx hb dX10_laySchedule_42 (lv_at hl 5 rfl) ?_
        refine lv_imul hx hb dX10_laySchedule_44 ?_
        refine lv_aload_n hx hb dX10_laySchedule_45 rfl (lv_at hl 1 rfl) ?_
        refine lv_bipush (v := 10) hx hb dX10_laySchedule_46 (by decide) ?_
        refine lv_iload hx hb dX10_laySchedule_48 (lv_at hl 5 rfl) ?_
        refine lv_iadd hx hb dX10_laySchedule_50 ?_
        refine lM_page E hw h.1 dX10_laySchedule_51 ?_
        have h := h.2
        refine lv_iadd hx hb dX10_laySchedule_52 ?_
        refine lv_aload_n hx hb dX10_laySchedule_53 rfl (lv_at hl 0 rfl) ?_
        refine lv_iload hx hb dX10_laySchedule_54 (lv_at hl 5 rfl) ?_
        refine g_aI E hw (g_rV E hw (c_X10_stands h _) ym_X10_stands k_677 ⟨rfl, rfl⟩ ⟨Nat.le_of_ble_eq_true rfl, Nat.le_of_ble_eq_true rfl⟩ 23 rfl rfl rfl rfl hl.1 rfl (Nat.le_of_ble_eq_true rfl) ⟨Nat.zero_le _, Nat.zero_le _⟩ dX10_laySchedule_56) (fun r33 u H locs hq hw => ?_)
        obtain ⟨hu, h⟩ := hq
        rw [hu] at hw
        refine lv_if_eq (tgt := 66) hx hb dX10_laySchedule_59 (by decide) (fun c34 => ?_) (fun c34 => ?_)
        · have h := h.1 c34
          refine lv_bipush (v := -9) hx hb dX10_laySchedule_66 (by decide) ?_
          exact J68 x5 ((((4 : Int32) * x5) + (f_page (((10 : Int32) + x5)).toNatClampNeg))) (-9 : Int32) f_crossed f_goes f_hand f_last f_lastNow f_takes _ _ _ h hw (lv_sub hl [0, 1, 2, 3, 4, 5] rfl)
        · have h := h.2 c34
          refine lv_iconst (v := 0) hx hb dX10_laySchedule_62 (by decide) ?_
          refine lv_goto (tgt := 68) hx hb dX10_laySchedule_63 (by decide) ?_
          exact J68 x5 ((((4 : Int32) * x5) + (f_page (((10 : Int32) + x5)).toNatClampNeg))) (0 : Int32) f_crossed f_goes f_hand f_last f_lastNow f_takes _ _ _ h hw (lv_sub hl [0, 1, 2, 3, 4, 5] rfl)
  have L3 : ∀ (n : Nat) (x5 : Int32) (f_crossed : Int32) (f_goes : Nat → Int32) (f_hand : Nat → Int32) (f_last : Int32) (f_lastNow : Int32) (f_takes : Int32) (H : Heap) (locs : List Loc) (ls : Array Slot), wp_X10_laySchedule_h3 f_chips f_gates f_kind f_second f_source f_page p2 p3 p4 Q  n x5 f_crossed f_goes f_hand f_last f_lastNow f_takes → gW D s A (wM ad cI cZ f_thrown f_text f_textSize f_place f_chips f_gates f_kind f_source f_second f_clock f_readChips f_readPins f_readGates f_readKind f_readLies f_readSource f_readSecond f_readClock f_page f_trial f_book f_doings f_kept f_isKept f_seen f_seenBehind f_seenGate f_seenWorth f_seenWas f_seed f_worth f_known f_hand f_goes f_takes f_crossed f_last f_lastNow f_states X) H locs → lv_has ls 9 [(0, .ref (ad 23)), (1, .ref (ad 12)), (2, .int p2), (3, .int p3), (4, .int p4), (5, .int x5)] → W p l e ({ frames := 2, cells := 0, slots := 0, locals := 54 } : Room) s m args below meth c H locs 0 0 Z (F0 m 3 ls []) := by
    intro n
    induction n with
    | zero => intro x5 f_crossed f_goes f_hand f_last f_lastNow f_takes H locs ls h; exact False.elim h
    | succ n3 ih3 =>
      intro x5 f_crossed f_goes f_hand f_last f_lastNow f_takes H locs ls h hw hl
      have h : wp_X10_laySchedule_b3 f_chips f_gates f_kind f_second f_source f_page p2 p3 p4 Q (wp_X10_laySchedule_h3 f_chips f_gates f_kind f_second f_source f_page p2 p3 p4 Q  n3) x5 f_crossed f_goes f_hand f_last f_lastNow f_takes := h
      unfold wp_X10_laySchedule_b3 at h
      refine lv_iload hx hb dX10_laySchedule_3 (lv_at hl 5 rfl) ?_
      refine lv_bipush (v := 40) hx hb dX10_laySchedule_5 (by decide) ?_
      refine lv_icmp_ge (tgt := 25) hx hb dX10_laySchedule_7 (by decide) (fun c35 => ?_) (fun c35 => ?_)
      · have h := h.1 c35
        refine lv_iconst (v := 0) hx hb dX10_laySchedule_25 (by decide) ?_
        refine lv_istore (lv' := [(5, .int (0 : Int32)), (0, .ref (ad 23)), (1, .ref (ad 12)), (2, .int p2), (3, .int p3), (4, .int p4)]) hx hb dX10_laySchedule_26 hl (by decide) rfl (fun ls hl => ?_)
        obtain ⟨n, h⟩ := h
        exact L28 n (0 : Int32) f_crossed f_goes f_hand f_last f_lastNow f_takes _ _ _ h hw (lv_sub hl [1, 2, 3, 4, 5, 0] rfl)
      · have h := h.2 c35
        refine lv_aload_n hx hb dX10_laySchedule_10 rfl (lv_at hl 0 rfl) ?_
        refine gM_X10_75_main E hw dX10_laySchedule_11 ?_
        refine lv_iload hx hb dX10_laySchedule_14 (lv_at hl 5 rfl) ?_
        refine lv_bipush (v := -9) hx hb dX10_laySchedule_16 (by decide) ?_
        refine sM_hand E hw h.1 dX10_laySchedule_18 (fun y36 ey36 H locs hw => ?_)
        have h := h.2 y36 ey36
        obtain ⟨v37, ev37⟩ : ∃ y : Int32, y = x5 + 1 := ⟨_, rfl⟩
        have h := h v37 ev37
        refine lv_iinc (v := v37) (lv' := [(5, .int v37), (0, .ref (ad 23)), (1, .ref (ad 12)), (2, .int p2), (3, .int p3), (4, .int p4)]) hx hb dX10_laySchedule_19 hl (k := 5) rfl (by rw [ev37]; rfl) (by decide) rfl (fun ls hl => ?_)
        refine lv_goto (tgt := 3) hx hb dX10_laySchedule_22 (by decide) ?_
        exact ih3 v37 f_crossed f_goes y36 f_last f_lastNow f_takes _ _ _ h hw (lv_sub hl [1, 2, 3, 4, 5, 0] rfl)
  unfold wp_X10_laySchedule at h
  refine lv_iconst (v := 0) hx hb dX10_laySchedule_0 (by decide) ?_
  refine lv_istore (lv' := [(5, .int (0 : Int32)), (0, .ref (ad 23)), (1, .ref (ad 12)), (2, .int p2), (3, .int p3), (4, .int p4)]) hx hb dX10_laySchedule_1 hl (by decide) rfl (fun ls hl => ?_)
  obtain ⟨n, h⟩ := h
  exact L3 n (0 : Int32) f_crossed f_goes f_hand f_last f_lastNow f_takes _ _ _ h hw (lv_sub hl [1, 2, 3, 4, 5, 0] rfl)
set_option maxRecDepth 100000 in
set_option maxHeartbeats 4000000 in
theorem c_X10_when {l : Launch} {D : va_G} {cI cZ : ClassId} {ad : Nat → Nat} {f_thrown : Int32} {f_text : Nat → Int32} {f_textSize : Int32} {f_place : Int32} {f_chips : Int32} {f_gates : Int32} {f_kind : Nat → Int32} {f_source : Nat → Int32} {f_second : Nat → Int32} {f_clock : Nat → Int32} {f_readChips : Int32} {f_readPins : Int32} {f_readGates : Int32} {f_readKind : Nat → Int32} {f_readLies : Nat → Int32} {f_readSource : Nat → Int32} {f_readSecond : Nat → Int32} {f_readClock : Nat → Int32} {f_page : Nat → Int32} {f_trial : Nat → Int32} {f_book : Nat → Int32} {f_doings : Int32} {f_kept : Nat → Int32} {f_isKept : Nat → Int32} {f_seen : Int32} {f_seenBehind : Nat → Int32} {f_seenGate : Nat → Int32} {f_seenWorth : Nat → Int32} {f_seenWas : Nat → Int32} {f_seed : Int64} {f_worth : Nat → Int32} {f_known : Int32} {f_hand : Nat → Int32} {f_goes : Nat → Int32} {f_takes : Int32} {f_crossed : Int32} {f_last : Int32} {f_lastNow : Int32} {f_states : Nat → Int32} {X : va_W} {p1 : Int32} {p2 : Int32} {Q : Int32 → Int32 → (Nat → Int32) → (Nat → Int32) → Int32 → Int32 → Int32 → Int32 → Prop} (h : wp_X10_when f_chips f_crossed f_gates f_goes f_hand f_kind f_last f_lastNow f_page f_second f_source f_takes f_thrown p1 p2 Q) : CtI l yX10_when cX10_when 3 (some .int) ({ frames := 3, cells := 0, slots := 0, locals := 82 } : Room) D [(cI, .int), (cZ, .boolean)] [.ref (ad 23), .int p1, .int p2] (wM ad cI cZ f_thrown f_text f_textSize f_place f_chips f_gates f_kind f_source f_second f_clock f_readChips f_readPins f_readGates f_readKind f_readLies f_readSource f_readSecond f_readClock f_page f_trial f_book f_doings f_kept f_isKept f_seen f_seenBehind f_seenGate f_seenWorth f_seenWas f_seed f_worth f_known f_hand f_goes f_takes f_crossed f_last f_lastNow f_states X) (fun r u => ∃ w0 w1 w2 w3 w4 w5 w6, u = (wM ad cI cZ w6 f_text f_textSize f_place f_chips f_gates f_kind f_source f_second f_clock f_readChips f_readPins f_readGates f_readKind f_readLies f_readSource f_readSecond f_readClock f_page f_trial f_book f_doings f_kept f_isKept f_seen f_seenBehind f_seenGate f_seenWorth f_seenWas f_seed f_worth f_known w2 w1 w5 w0 w3 w4 f_states X) ∧ Q r w0 w1 w2 w3 w4 w5 w6) := by
  refine CtI.of (by decide) rfl (Nat.le_of_ble_eq_true rfl) ?_
  intro p e s m args below meth c A Z E hret ls hl hw
  have E : gE p m c cX10_when 3 s args RX10 D [(cI, .int), (cZ, .boolean)] A := E
  have hx := E.1.1
  have hb := E.1.2.1
  have hl : lv_has ls 3 [(0, .ref (ad 23)), (1, .int p1), (2, .int p2)] := hl
  unfold wp_X10_when at h
  refine lv_aload_n hx hb dX10_when_0 rfl (lv_at hl 0 rfl) ?_
  refine lv_iconst (v := 0) hx hb dX10_when_1 (by decide) ?_
  refine pM_X10_84_main E hw dX10_when_2 (fun H locs hw => ?_)
  refine lv_aload_n hx hb dX10_when_5 rfl (lv_at hl 0 rfl) ?_
  refine lv_iload_n hx hb dX10_when_6 rfl (lv_at hl 1 rfl) ?_
  refine g_aI E hw (g_rV E hw (c_X10_noGate h _) ym_X10_noGate k_668 ⟨rfl, rfl⟩ ⟨Nat.le_of_ble_eq_true rfl, Nat.le_of_ble_eq_true rfl⟩ 23 rfl rfl rfl rfl hl.1 rfl (Nat.le_of_ble_eq_true rfl) ⟨Nat.zero_le _, Nat.zero_le _⟩ dX10_when_7) (fun r1 u H locs hq hw => ?_)
  obtain ⟨hu, h⟩ := hq
  rw [hu] at hw
  refine lv_if_ne (tgt := 21) hx hb dX10_when_10 (by decide) (fun c2 => ?_) (fun c2 => ?_)
  · have h := h.1 c2
    refine lv_iconst (v := -1) hx hb dX10_when_21 (by decide) ?_
    exact hret _ _ _ _ _ _ ⟨_, _, _, _, _, _, _, rfl, h⟩ hw dX10_when_22
  · have h := h.2 c2
    refine lv_aload_n hx hb dX10_when_13 rfl (lv_at hl 0 rfl) ?_
    refine lv_iload_n hx hb dX10_when_14 rfl (lv_at hl 2 rfl) ?_
    refine g_aI E hw (g_rV E hw (c_X10_noChip h _) ym_X10_noChip k_708 ⟨rfl, rfl⟩ ⟨Nat.le_of_ble_eq_true rfl, Nat.le_of_ble_eq_true rfl⟩ 23 rfl rfl rfl rfl hl.1 rfl (Nat.le_of_ble_eq_true rfl) ⟨Nat.zero_le _, Nat.zero_le _⟩ dX10_when_15) (fun r3 u H locs hq hw => ?_)
    obtain ⟨hu, h⟩ := hq
    rw [hu] at hw
    refine lv_if_eq (tgt := 23) hx hb dX10_when_18 (by decide) (fun c4 => ?_) (fun c4 => ?_)
    · have h := h.1 c4
      refine lv_aload_n hx hb dX10_when_23 rfl (lv_at hl 0 rfl) ?_
      refine lv_aload_n hx hb dX10_when_24 rfl (lv_at hl 0 rfl) ?_
      refine gM_X10_44_main E hw dX10_when_25 ?_
      refine lv_aload_n hx hb dX10_when_28 rfl (lv_at hl 0 rfl) ?_
      refine gM_X10_44_main E hw dX10_when_29 ?_
      refine lv_bipush (v := 20) hx hb dX10_when_32 (by decide) ?_
      refine lM_page E hw h.1 dX10_when_34 ?_
      have h := h.2
      refine lv_iconst (v := 0) hx hb dX10_when_35 (by decide) ?_
      refine lv_iconst (v := 0) hx hb dX10_when_36 (by decide) ?_
      refine g_aV E hw (g_rV E hw (c_X10_laySchedule_page h _) ym_X10_laySchedule k_738 ⟨rfl, rfl⟩ ⟨Nat.le_of_ble_eq_true rfl, Nat.le_of_ble_eq_true rfl⟩ 23 rfl rfl rfl rfl hl.1 rfl (Nat.le_of_ble_eq_true rfl) ⟨Nat.zero_le _, Nat.zero_le _⟩ dX10_when_37) (fun u H locs hq hw => ?_)
      obtain ⟨y6, y7, y8, y9, y10, y11, hu, h⟩ := hq
      rw [hu] at hw
      refine lv_aload_n hx hb dX10_when_40 rfl (lv_at hl 0 rfl) ?_
      refine gM_X10_75_main E hw dX10_when_41 ?_
      refine lv_iconst (v := 4) hx hb dX10_when_44 (by decide) ?_
      refine lv_iload_n hx hb dX10_when_45 rfl (lv_at hl 1 rfl) ?_
      refine lv_imul hx hb dX10_when_46 ?_
      refine lv_iload_n hx hb dX10_when_47 rfl (lv_at hl 2 rfl) ?_
      refine lv_iadd hx hb dX10_when_48 ?_
      refine lM_hand E hw h.1 dX10_when_49 ?_
      have h := h.2
      exact hret _ _ _ _ _ _ ⟨_, _, _, _, _, _, _, rfl, h⟩ hw dX10_when_50
    · have h := h.2 c4
      refine lv_iconst (v := -1) hx hb dX10_when_21 (by decide) ?_
      exact hret _ _ _ _ _ _ ⟨_, _, _, _, _, _, _, rfl, h⟩ hw dX10_when_22
set_option maxRecDepth 100000 in
set_option maxHeartbeats 4000000 in
theorem c_X10_isWanted_trial {l : Launch} {D : va_G} {cI cZ : ClassId} {ad : Nat → Nat} {f_thrown : Int32} {f_text : Nat → Int32} {f_textSize : Int32} {f_place : Int32} {f_chips : Int32} {f_gates : Int32} {f_kind : Nat → Int32} {f_source : Nat → Int32} {f_second : Nat → Int32} {f_clock : Nat → Int32} {f_readChips : Int32} {f_readPins : Int32} {f_readGates : Int32} {f_readKind : Nat → Int32} {f_readLies : Nat → Int32} {f_readSource : Nat → Int32} {f_readSecond : Nat → Int32} {f_readClock : Nat → Int32} {f_page : Nat → Int32} {f_trial : Nat → Int32} {f_book : Nat → Int32} {f_doings : Int32} {f_kept : Nat → Int32} {f_isKept : Nat → Int32} {f_seen : Int32} {f_seenBehind : Nat → Int32} {f_seenGate : Nat → Int32} {f_seenWorth : Nat → Int32} {f_seenWas : Nat → Int32} {f_seed : Int64} {f_worth : Nat → Int32} {f_known : Int32} {f_hand : Nat → Int32} {f_goes : Nat → Int32} {f_takes : Int32} {f_crossed : Int32} {f_last : Int32} {f_lastNow : Int32} {f_states : Nat → Int32} {X : va_W} {p2 : Int32} {p3 : Int32} {Q : Int32 → Prop} (h : wp_X10_isWanted f_gates f_second f_source f_trial p2 p3 Q) : CtI l yX10_isWanted cX10_isWanted 8 (some .boolean) ({ frames := 0, cells := 0, slots := 0, locals := 0 } : Room) D [(cI, .int), (cZ, .boolean)] [.ref (ad 23), .ref (ad 11), .int p2, .int p3] (wM ad cI cZ f_thrown f_text f_textSize f_place f_chips f_gates f_kind f_source f_second f_clock f_readChips f_readPins f_readGates f_readKind f_readLies f_readSource f_readSecond f_readClock f_page f_trial f_book f_doings f_kept f_isKept f_seen f_seenBehind f_seenGate f_seenWorth f_seenWas f_seed f_worth f_known f_hand f_goes f_takes f_crossed f_last f_lastNow f_states X) (fun r u => u = (wM ad cI cZ f_thrown f_text f_textSize f_place f_chips f_gates f_kind f_source f_second f_clock f_readChips f_readPins f_readGates f_readKind f_readLies f_readSource f_readSecond f_readClock f_page f_trial f_book f_doings f_kept f_isKept f_seen f_seenBehind f_seenGate f_seenWorth f_seenWas f_seed f_worth f_known f_hand f_goes f_takes f_crossed f_last f_lastNow f_states X) ∧ Q r) := by
  refine CtI.ofZ (by decide) rfl (Nat.le_of_ble_eq_true rfl) ?_
  intro p e s m args below meth c A Z E hret ls hl hw
  have E : gE p m c cX10_isWanted 8 s args RX10 D [(cI, .int), (cZ, .boolean)] A := E
  have hx := E.1.1
  have hb := E.1.2.1
  have hl : lv_has ls 8 [(0, .ref (ad 23)), (1, .ref (ad 11)), (2, .int p2), (3, .int p3)] := hl
  have L14 : ∀ (n : Nat) (x4 : Int32) (x5 : Int32) (x6 : Int32) (H : Heap) (locs : List Loc) (ls : Array Slot), wp_X10_isWanted_h14 f_gates f_second f_source f_trial p2 p3 Q  n x4 x5 x6 → gW D s A (wM ad cI cZ f_thrown f_text f_textSize f_place f_chips f_gates f_kind f_source f_second f_clock f_readChips f_readPins f_readGates f_readKind f_readLies f_readSource f_readSecond f_readClock f_page f_trial f_book f_doings f_kept f_isKept f_seen f_seenBehind f_seenGate f_seenWorth f_seenWas f_seed f_worth f_known f_hand f_goes f_takes f_crossed f_last f_lastNow f_states X) H locs → lv_has ls 8 [(0, .ref (ad 23)), (1, .ref (ad 11)), (2, .int p2), (3, .int p3), (4, .int x4), (5, .int x5), (6, .int x6)] → W p l e ({ frames := 0, cells := 0, slots := 0, locals := 0 } : Room) s m args below meth c H locs 0 0 Z (F0 m 14 ls []) := by
    intro n
    induction n with
    | zero => intro x4 x5 x6 H locs ls h; exact False.elim h
    | succ n14 ih14 =>
      intro x4 x5 x6 H locs ls h hw hl
      have h : wp_X10_isWanted_b14 f_gates f_second f_source f_trial p2 p3 Q (wp_X10_isWanted_h14 f_gates f_second f_source f_trial p2 p3 Q  n14) x4 x5 x6 := h
      have J91 : ∀ (x4 : Int32) (x6 : Int32) (s0 : Int32) (H : Heap) (locs : List Loc) (ls : Array Slot), wp_X10_isWanted_b91 f_gates f_second f_source f_trial p2 p3 Q (wp_X10_isWanted_h14 f_gates f_second f_source f_trial p2 p3 Q  n14) x4 x6 s0 → gW D s A (wM ad cI cZ f_thrown f_text f_textSize f_place f_chips f_gates f_kind f_source f_second f_clock f_readChips f_readPins f_readGates f_readKind f_readLies f_readSource f_readSecond f_readClock f_page f_trial f_book f_doings f_kept f_isKept f_seen f_seenBehind f_seenGate f_seenWorth f_seenWas f_seed f_worth f_known f_hand f_goes f_takes f_crossed f_last f_lastNow f_states X) H locs → lv_has ls 8 [(0, .ref (ad 23)), (1, .ref (ad 11)), (2, .int p2), (3, .int p3), (4, .int x4), (6, .int x6)] → W p l e ({ frames := 0, cells := 0, slots := 0, locals := 0 } : Room) s m args below meth c H locs 0 0 Z (F0 m 91 ls [.int s0]) := by
        intro x4 x6 s0 H locs ls h hw hl
        unfold wp_X10_isWanted_b91 at h
        refine lv_istore (lv' := [(5, .int s0), (0, .ref (ad 23)), (1, .ref (ad 11)), (2, .int p2), (3, .int p3), (4, .int x4), (6, .int x6)]) hx hb dX10_isWanted_91 hl (by decide) rfl (fun ls hl => ?_)
        obtain ⟨v1, ev1⟩ : ∃ y : Int32, y = x6 + 1 := ⟨_, rfl⟩
        have h := h v1 ev1
        refine lv_iinc (v := v1) (lv' := [(6, .int v1), (5, .int s0), (0, .ref (ad 23)), (1, .ref (ad 11)), (2, .int p2), (3, .int p3), (4, .int x4)]) hx hb dX10_isWanted_93 hl (k := 6) rfl (by rw [ev1]; rfl) (by decide) rfl (fun ls hl => ?_)
        refine lv_goto (tgt := 14) hx hb dX10_isWanted_96 (by decide) ?_
        exact ih14 x4 s0 v1 _ _ _ h hw (lv_sub hl [2, 3, 4, 5, 6, 1, 0] rfl)
      have J86 : ∀ (x4 : Int32) (x6 : Int32) (H : Heap) (locs : List Loc) (ls : Array Slot), wp_X10_isWanted_b86 f_gates f_second f_source f_trial p2 p3 Q (wp_X10_isWanted_h14 f_gates f_second f_source f_trial p2 p3 Q  n14) x4 x6 → gW D s A (wM ad cI cZ f_thrown f_text f_textSize f_place f_chips f_gates f_kind f_source f_second f_clock f_readChips f_readPins f_readGates f_readKind f_readLies f_readSource f_readSecond f_readClock f_page f_trial f_book f_doings f_kept f_isKept f_seen f_seenBehind f_seenGate f_seenWorth f_seenWas f_seed f_worth f_known f_hand f_goes f_takes f_crossed f_last f_lastNow f_states X) H locs → lv_has ls 8 [(0, .ref (ad 23)), (1, .ref (ad 11)), (2, .int p2), (3, .int p3), (4, .int x4), (6, .int x6)] → W p l e ({ frames := 0, cells := 0, slots := 0, locals := 0 } : Room) s m args below meth c H locs 0 0 Z (F0 m 86 ls []) := by
        intro x4 x6 H locs ls h hw hl
        unfold wp_X10_isWanted_b86 at h
        refine lv_iconst (v := 1) hx hb dX10_isWanted_86 (by decide) ?_
        refine lv_goto (tgt := 91) hx hb dX10_isWanted_87 (by decide) ?_
        exact J91 x4 x6 (1 : Int32) _ _ _ h hw (lv_sub hl [0, 1, 2, 3, 4, 5] rfl)
      have J90 : ∀ (x4 : Int32) (x6 : Int32) (H : Heap) (locs : List Loc) (ls : Array Slot), wp_X10_isWanted_b90 f_gates f_second f_source f_trial p2 p3 Q (wp_X10_isWanted_h14 f_gates f_second f_source f_trial p2 p3 Q  n14) x4 x6 → gW D s A (wM ad cI cZ f_thrown f_text f_textSize f_place f_chips f_gates f_kind f_source f_second f_clock f_readChips f_readPins f_readGates f_readKind f_readLies f_readSource f_readSecond f_readClock f_page f_trial f_book f_doings f_kept f_isKept f_seen f_seenBehind f_seenGate f_seenWorth f_seenWas f_seed f_worth f_known f_hand f_goes f_takes f_crossed f_last f_lastNow f_states X) H locs → lv_has ls 8 [(0, .ref (ad 23)), (1, .ref (ad 11)), (2, .int p2), (3, .int p3), (4, .int x4), (6, .int x6)] → W p l e ({ frames := 0, cells := 0, slots := 0, locals := 0 } : Room) s m args below meth c H locs 0 0 Z (F0 m 90 ls []) := by
        intro x4 x6 H locs ls h hw hl
        unfold wp_X10_isWanted_b90 at h
        refine lv_iconst (v := 0) hx hb dX10_isWanted_90 (by decide) ?_
        exact J91 x4 x6 (0 : Int32) _ _ _ h hw (lv_sub hl [0, 1, 2, 3, 4, 5] rfl)
      have J59 : ∀ (x4 : Int32) (x6 : Int32) (x7 : Int32) (H : Heap) (locs : List Loc) (ls : Array Slot), wp_X10_isWanted_b59 f_gates f_second f_source f_trial p2 p3 Q (wp_X10_isWanted_h14 f_gates f_second f_source f_trial p2 p3 Q  n14) x4 x6 x7 → gW D s A (wM ad cI cZ f_thrown f_text f_textSize f_place f_chips f_gates f_kind f_source f_second f_clock f_readChips f_readPins f_readGates f_readKind f_readLies f_readSource f_readSecond f_readClock f_page f_trial f_book f_doings f_kept f_isKept f_seen f_seenBehind f_seenGate f_seenWorth f_seenWas f_seed f_worth f_known f_hand f_goes f_takes f_crossed f_last f_lastNow f_states X) H locs → lv_has ls 8 [(0, .ref (ad 23)), (1, .ref (ad 11)), (2, .int p2), (3, .int p3), (4, .int x4), (6, .int x6), (7, .int x7)] → W p l e ({ frames := 0, cells := 0, slots := 0, locals := 0 } : Room) s m args below meth c H locs 0 0 Z (F0 m 59 ls []) := by
        intro x4 x6 x7 H locs ls h hw hl
        unfold wp_X10_isWanted_b59 at h
        refine lv_iload_n hx hb dX10_isWanted_59 rfl (lv_at hl 3 rfl) ?_
        refine lv_iload hx hb dX10_isWanted_60 (lv_at hl 4 rfl) ?_
        refine lv_icmp_le (tgt := 74) hx hb dX10_isWanted_62 (by decide) (fun c2 => ?_) (fun c2 => ?_)
        · have h := h.1 c2
          refine lv_iload_n hx hb dX10_isWanted_74 rfl (lv_at hl 3 rfl) ?_
          refine lv_iload hx hb dX10_isWanted_75 (lv_at hl 4 rfl) ?_
          refine lv_icmp_ge (tgt := 90) hx hb dX10_isWanted_77 (by decide) (fun c3 => ?_) (fun c3 => ?_)
          · have h := h.1 c3
            exact J90 x4 x6 _ _ _ h hw (lv_sub hl [0, 1, 2, 3, 4, 5] rfl)
          · have h := h.2 c3
            refine lv_iload hx hb dX10_isWanted_80 (lv_at hl 6 rfl) ?_
            refine lv_iload_n hx hb dX10_isWanted_82 rfl (lv_at hl 3 rfl) ?_
            refine lv_icmp_gt (tgt := 90) hx hb dX10_isWanted_83 (by decide) (fun c4 => ?_) (fun c4 => ?_)
            · have h := h.1 c4
              exact J90 x4 x6 _ _ _ h hw (lv_sub hl [0, 1, 2, 3, 4, 5] rfl)
            · have h := h.2 c4
              exact J86 x4 x6 _ _ _ h hw (lv_sub hl [0, 1, 2, 3, 4, 5] rfl)
        · have h := h.2 c2
          refine lv_iload hx hb dX10_isWanted_65 (lv_at hl 6 rfl) ?_
          refine lv_iload_n hx hb dX10_isWanted_67 rfl (lv_at hl 3 rfl) ?_
          refine lv_icmp_lt (tgt := 90) hx hb dX10_isWanted_68 (by decide) (fun c5 => ?_) (fun c5 => ?_)
          · have h := h.1 c5
            exact J90 x4 x6 _ _ _ h hw (lv_sub hl [0, 1, 2, 3, 4, 5] rfl)
          · have h := h.2 c5
            refine lv_goto (tgt := 86) hx hb dX10_isWanted_71 (by decide) ?_
            exact J86 x4 x6 _ _ _ h hw (lv_sub hl [0, 1, 2, 3, 4, 5] rfl)
      unfold wp_X10_isWanted_b14 at h
      refine lv_iload hx hb dX10_isWanted_14 (lv_at hl 6 rfl) ?_
      refine lv_aload_n hx hb dX10_isWanted_16 rfl (lv_at hl 0 rfl) ?_
      refine gM_X10_87_main E hw dX10_isWanted_17 ?_
      refine lv_icmp_ge (tgt := 99) hx hb dX10_isWanted_20 (by decide) (fun c6 => ?_) (fun c6 => ?_)
      · have h := h.1 c6
        refine lv_iload hx hb dX10_isWanted_99 (lv_at hl 5 rfl) ?_
        exact hret _ _ _ _ _ _ h.1 ⟨rfl, h.2⟩ hw dX10_isWanted_101
      · have h := h.2 c6
        refine lv_aload_n hx hb dX10_isWanted_23 rfl (lv_at hl 1 rfl) ?_
        refine lv_bipush (v := 10) hx hb dX10_isWanted_24 (by decide) ?_
        refine lv_iload hx hb dX10_isWanted_26 (lv_at hl 6 rfl) ?_
        refine lv_iadd hx hb dX10_isWanted_28 ?_
        refine lM_trial E hw h.1 dX10_isWanted_29 ?_
        have h := h.2
        refine lv_topi (fun v7 ev7 => ?_)
        have h := h v7 ev7
        refine lv_istore (lv' := [(7, .int v7), (0, .ref (ad 23)), (1, .ref (ad 11)), (2, .int p2), (3, .int p3), (4, .int x4), (5, .int x5), (6, .int x6)]) hx hb dX10_isWanted_30 hl (by decide) rfl (fun ls hl => ?_)
        refine lv_iload hx hb dX10_isWanted_32 (lv_at hl 6 rfl) ?_
        refine lv_if_ne (tgt := 86) hx hb dX10_isWanted_34 (by decide) (fun c8 => ?_) (fun c8 => ?_)
        · have h := h.1 c8
          exact J86 x4 x6 _ _ _ h hw (lv_sub hl [1, 2, 3, 4, 5, 7] rfl)
        · have h := h.2 c8
          refine lv_aload_n hx hb dX10_isWanted_37 rfl (lv_at hl 1 rfl) ?_
          refine gM_X10_20_main E hw dX10_isWanted_38 ?_
          refine lv_iload hx hb dX10_isWanted_41 (lv_at hl 7 rfl) ?_
          refine lM_source E hw h.1 dX10_isWanted_43 ?_
          have h := h.2
          refine lv_iload_n hx hb dX10_isWanted_44 rfl (lv_at hl 3 rfl) ?_
          refine lv_icmp_eq (tgt := 59) hx hb dX10_isWanted_45 (by decide) (fun c9 => ?_) (fun c9 => ?_)
          · have h := h.1 c9
            exact J59 x4 x6 v7 _ _ _ h hw (lv_sub hl [1, 2, 3, 4, 5, 7, 0] rfl)
          · have h := h.2 c9
            refine lv_aload_n hx hb dX10_isWanted_48 rfl (lv_at hl 1 rfl) ?_
            refine gM_X10_23_main E hw dX10_isWanted_49 ?_
            refine lv_iload hx hb dX10_isWanted_52 (lv_at hl 7 rfl) ?_
            refine lM_second E hw h.1 dX10_isWanted_54 ?_
            have h := h.2
            refine lv_iload_n hx hb dX10_isWanted_55 rfl (lv_at hl 3 rfl) ?_
            refine lv_icmp_ne (tgt := 90) hx hb dX10_isWanted_56 (by decide) (fun c10 => ?_) (fun c10 => ?_)
            · have h := h.1 c10
              exact J90 x4 x6 _ _ _ h hw (lv_sub hl [1, 2, 3, 4, 5, 7] rfl)
            · have h := h.2 c10
              exact J59 x4 x6 v7 _ _ _ h hw (lv_sub hl [1, 2, 3, 4, 5, 7, 0] rfl)
  unfold wp_X10_isWanted at h
  refine lv_aload_n hx hb dX10_isWanted_0 rfl (lv_at hl 1 rfl) ?_
  refine lv_bipush (v := 10) hx hb dX10_isWanted_1 (by decide) ?_
  refine lv_iload_n hx hb dX10_isWanted_3 rfl (lv_at hl 2 rfl) ?_
  refine lv_iadd hx hb dX10_isWanted_4 ?_
  refine lM_trial E hw h.1 dX10_isWanted_5 ?_
  have h := h.2
  refine lv_topi (fun v11 ev11 => ?_)
  have h := h v11 ev11
  refine lv_istore (lv' := [(4, .int v11), (0, .ref (ad 23)), (1, .ref (ad 11)), (2, .int p2), (3, .int p3)]) hx hb dX10_isWanted_6 hl (by decide) rfl (fun ls hl => ?_)
  refine lv_iconst (v := 0) hx hb dX10_isWanted_8 (by decide) ?_
  refine lv_istore (lv' := [(5, .int (0 : Int32)), (4, .int v11), (0, .ref (ad 23)), (1, .ref (ad 11)), (2, .int p2), (3, .int p3)]) hx hb dX10_isWanted_9 hl (by decide) rfl (fun ls hl => ?_)
  refine lv_iconst (v := 0) hx hb dX10_isWanted_11 (by decide) ?_
  refine lv_istore (lv' := [(6, .int (0 : Int32)), (5, .int (0 : Int32)), (4, .int v11), (0, .ref (ad 23)), (1, .ref (ad 11)), (2, .int p2), (3, .int p3)]) hx hb dX10_isWanted_12 hl (by decide) rfl (fun ls hl => ?_)
  obtain ⟨n, h⟩ := h
  exact L14 n v11 (0 : Int32) (0 : Int32) _ _ _ h hw (lv_sub hl [3, 4, 5, 6, 2, 1, 0] rfl)
set_option maxRecDepth 100000 in
set_option maxHeartbeats 4000000 in
theorem c_X10_layGoing_trial {l : Launch} {D : va_G} {cI cZ : ClassId} {ad : Nat → Nat} {f_thrown : Int32} {f_text : Nat → Int32} {f_textSize : Int32} {f_place : Int32} {f_chips : Int32} {f_gates : Int32} {f_kind : Nat → Int32} {f_source : Nat → Int32} {f_second : Nat → Int32} {f_clock : Nat → Int32} {f_readChips : Int32} {f_readPins : Int32} {f_readGates : Int32} {f_readKind : Nat → Int32} {f_readLies : Nat → Int32} {f_readSource : Nat → Int32} {f_readSecond : Nat → Int32} {f_readClock : Nat → Int32} {f_page : Nat → Int32} {f_trial : Nat → Int32} {f_book : Nat → Int32} {f_doings : Int32} {f_kept : Nat → Int32} {f_isKept : Nat → Int32} {f_seen : Int32} {f_seenBehind : Nat → Int32} {f_seenGate : Nat → Int32} {f_seenWorth : Nat → Int32} {f_seenWas : Nat → Int32} {f_seed : Int64} {f_worth : Nat → Int32} {f_known : Int32} {f_hand : Nat → Int32} {f_goes : Nat → Int32} {f_takes : Int32} {f_crossed : Int32} {f_last : Int32} {f_lastNow : Int32} {f_states : Nat → Int32} {X : va_W} {p2 : Int32} {p3 : Int32} {p4 : Int32} {Q : Int32 → (Nat → Int32) → Int32 → Prop} (h : wp_X10_layGoing f_gates f_goes f_hand f_lastNow f_second f_source f_trial p2 p3 p4 Q) : CtI l yX10_layGoing cX10_layGoing 8 (some .int) ({ frames := 1, cells := 0, slots := 0, locals := 27 } : Room) D [(cI, .int), (cZ, .boolean)] [.ref (ad 23), .ref (ad 11), .int p2, .int p3, .int p4] (wM ad cI cZ f_thrown f_text f_textSize f_place f_chips f_gates f_kind f_source f_second f_clock f_readChips f_readPins f_readGates f_readKind f_readLies f_readSource f_readSecond f_readClock f_page f_trial f_book f_doings f_kept f_isKept f_seen f_seenBehind f_seenGate f_seenWorth f_seenWas f_seed f_worth f_known f_hand f_goes f_takes f_crossed f_last f_lastNow f_states X) (fun r u => ∃ w0 w1, u = (wM ad cI cZ f_thrown f_text f_textSize f_place f_chips f_gates f_kind f_source f_second f_clock f_readChips f_readPins f_readGates f_readKind f_readLies f_readSource f_readSecond f_readClock f_page f_trial f_book f_doings f_kept f_isKept f_seen f_seenBehind f_seenGate f_seenWorth f_seenWas f_seed f_worth f_known f_hand w0 f_takes f_crossed f_last w1 f_states X) ∧ Q r w0 w1) := by
  refine CtI.of (by decide) rfl (Nat.le_of_ble_eq_true rfl) ?_
  intro p e s m args below meth c A Z E hret ls hl hw
  have E : gE p m c cX10_layGoing 8 s args RX10 D [(cI, .int), (cZ, .boolean)] A := E
  have hx := E.1.1
  have hb := E.1.2.1
  have hl : lv_has ls 8 [(0, .ref (ad 23)), (1, .ref (ad 11)), (2, .int p2), (3, .int p3), (4, .int p4)] := hl
  have L6 : ∀ (n : Nat) (x5 : Int32) (x6 : Int32) (f_goes : Nat → Int32) (f_lastNow : Int32) (H : Heap) (locs : List Loc) (ls : Array Slot), wp_X10_layGoing_h6 f_gates f_hand f_second f_source f_trial p2 p3 p4 Q  n x5 x6 f_goes f_lastNow → gW D s A (wM ad cI cZ f_thrown f_text f_textSize f_place f_chips f_gates f_kind f_source f_second f_clock f_readChips f_readPins f_readGates f_readKind f_readLies f_readSource f_readSecond f_readClock f_page f_trial f_book f_doings f_kept f_isKept f_seen f_seenBehind f_seenGate f_seenWorth f_seenWas f_seed f_worth f_known f_hand f_goes f_takes f_crossed f_last f_lastNow f_states X) H locs → lv_has ls 8 [(0, .ref (ad 23)), (1, .ref (ad 11)), (2, .int p2), (3, .int p3), (4, .int p4), (5, .int x5), (6, .int x6)] → W p l e ({ frames := 1, cells := 0, slots := 0, locals := 27 } : Room) s m args below meth c H locs 0 0 Z (F0 m 6 ls []) := by
    intro n
    induction n with
    | zero => intro x5 x6 f_goes f_lastNow H locs ls h; exact False.elim h
    | succ n6 ih6 =>
      intro x5 x6 f_goes f_lastNow H locs ls h hw hl
      have h : wp_X10_layGoing_b6 f_gates f_hand f_second f_source f_trial p2 p3 p4 Q (wp_X10_layGoing_h6 f_gates f_hand f_second f_source f_trial p2 p3 p4 Q  n6) x5 x6 f_goes f_lastNow := h
      have J137 : ∀ (x5 : Int32) (x6 : Int32) (s1 : Int32) (f_goes : Nat → Int32) (f_lastNow : Int32) (H : Heap) (locs : List Loc) (ls : Array Slot), wp_X10_layGoing_b137 f_gates f_hand f_second f_source f_trial p2 p3 p4 Q (wp_X10_layGoing_h6 f_gates f_hand f_second f_source f_trial p2 p3 p4 Q  n6) x5 x6 s1 f_goes f_lastNow → gW D s A (wM ad cI cZ f_thrown f_text f_textSize f_place f_chips f_gates f_kind f_source f_second f_clock f_readChips f_readPins f_readGates f_readKind f_readLies f_readSource f_readSecond f_readClock f_page f_trial f_book f_doings f_kept f_isKept f_seen f_seenBehind f_seenGate f_seenWorth f_seenWas f_seed f_worth f_known f_hand f_goes f_takes f_crossed f_last f_lastNow f_states X) H locs → lv_has ls 8 [(0, .ref (ad 23)), (1, .ref (ad 11)), (2, .int p2), (3, .int p3), (4, .int p4), (5, .int x5), (6, .int x6)] → W p l e ({ frames := 1, cells := 0, slots := 0, locals := 27 } : Room) s m args below meth c H locs 0 0 Z (F0 m 137 ls [.int s1, .ref (ad 23)]) := by
        intro x5 x6 s1 f_goes f_lastNow H locs ls h hw hl
        unfold wp_X10_layGoing_b137 at h
        refine pM_X10_163_main E hw dX10_layGoing_137 (fun H locs hw => ?_)
        obtain ⟨v1, ev1⟩ : ∃ y : Int32, y = x6 + 1 := ⟨_, rfl⟩
        have h := h v1 ev1
        refine lv_iinc (v := v1) (lv' := [(6, .int v1), (0, .ref (ad 23)), (1, .ref (ad 11)), (2, .int p2), (3, .int p3), (4, .int p4), (5, .int x5)]) hx hb dX10_layGoing_140 hl (k := 6) rfl (by rw [ev1]; rfl) (by decide) rfl (fun ls hl => ?_)
        refine lv_goto (tgt := 6) hx hb dX10_layGoing_143 (by decide) ?_
        exact ih6 x5 v1 f_goes s1 _ _ _ h hw (lv_sub hl [1, 2, 3, 4, 5, 6, 0] rfl)
      have J133 : ∀ (x5 : Int32) (x6 : Int32) (f_goes : Nat → Int32) (f_lastNow : Int32) (H : Heap) (locs : List Loc) (ls : Array Slot), wp_X10_layGoing_b133 f_gates f_hand f_second f_source f_trial p2 p3 p4 Q (wp_X10_layGoing_h6 f_gates f_hand f_second f_source f_trial p2 p3 p4 Q  n6) x5 x6 f_goes f_lastNow → gW D s A (wM ad cI cZ f_thrown f_text f_textSize f_place f_chips f_gates f_kind f_source f_second f_clock f_readChips f_readPins f_readGates f_readKind f_readLies f_readSource f_readSecond f_readClock f_page f_trial f_book f_doings f_kept f_isKept f_seen f_seenBehind f_seenGate f_seenWorth f_seenWas f_seed f_worth f_known f_hand f_goes f_takes f_crossed f_last f_lastNow f_states X) H locs → lv_has ls 8 [(0, .ref (ad 23)), (1, .ref (ad 11)), (2, .int p2), (3, .int p3), (4, .int p4), (5, .int x5), (6, .int x6)] → W p l e ({ frames := 1, cells := 0, slots := 0, locals := 27 } : Room) s m args below meth c H locs 0 0 Z (F0 m 133 ls [.ref (ad 23)]) := by
        intro x5 x6 f_goes f_lastNow H locs ls h hw hl
        unfold wp_X10_layGoing_b133 at h
        refine lv_aload_n hx hb dX10_layGoing_133 rfl (lv_at hl 0 rfl) ?_
        refine gM_X10_163_main E hw dX10_layGoing_134 ?_
        exact J137 x5 x6 f_lastNow f_goes f_lastNow _ _ _ h hw (lv_sub hl [0, 1, 2, 3, 4, 5, 6] rfl)
      have J110 : ∀ (x6 : Int32) (x7 : Int32) (s0 : Int32) (s1 : Int32) (f_goes : Nat → Int32) (f_lastNow : Int32) (H : Heap) (locs : List Loc) (ls : Array Slot), wp_X10_layGoing_b110 f_gates f_hand f_second f_source f_trial p2 p3 p4 Q (wp_X10_layGoing_h6 f_gates f_hand f_second f_source f_trial p2 p3 p4 Q  n6) x6 x7 s0 s1 f_goes f_lastNow → gW D s A (wM ad cI cZ f_thrown f_text f_textSize f_place f_chips f_gates f_kind f_source f_second f_clock f_readChips f_readPins f_readGates f_readKind f_readLies f_readSource f_readSecond f_readClock f_page f_trial f_book f_doings f_kept f_isKept f_seen f_seenBehind f_seenGate f_seenWorth f_seenWas f_seed f_worth f_known f_hand f_goes f_takes f_crossed f_last f_lastNow f_states X) H locs → lv_has ls 8 [(0, .ref (ad 23)), (1, .ref (ad 11)), (2, .int p2), (3, .int p3), (4, .int p4), (6, .int x6), (7, .int x7)] → W p l e ({ frames := 1, cells := 0, slots := 0, locals := 27 } : Room) s m args below meth c H locs 0 0 Z (F0 m 110 ls [.int s1, .int s0]) := by
        intro x6 x7 s0 s1 f_goes f_lastNow H locs ls h hw hl
        unfold wp_X10_layGoing_b110 at h
        refine lv_iadd hx hb dX10_layGoing_110 ?_
        refine lv_topi (fun v2 ev2 => ?_)
        have h := h v2 ev2
        refine lv_istore (lv' := [(5, .int v2), (0, .ref (ad 23)), (1, .ref (ad 11)), (2, .int p2), (3, .int p3), (4, .int p4), (6, .int x6), (7, .int x7)]) hx hb dX10_layGoing_111 hl (by decide) rfl (fun ls hl => ?_)
        refine lv_aload_n hx hb dX10_layGoing_113 rfl (lv_at hl 1 rfl) ?_
        refine lv_iload hx hb dX10_layGoing_114 (lv_at hl 7 rfl) ?_
        refine lv_if_eq (tgt := 133) hx hb dX10_layGoing_116 (by decide) (fun c3 => ?_) (fun c3 => ?_)
        · have h := h.1 c3
          exact J133 v2 x6 f_goes f_lastNow _ _ _ h hw (lv_sub hl [1, 2, 3, 4, 5, 0, 6] rfl)
        · have h := h.2 c3
          refine lv_iload hx hb dX10_layGoing_119 (lv_at hl 6 rfl) ?_
          refine lv_aload_n hx hb dX10_layGoing_121 rfl (lv_at hl 1 rfl) ?_
          refine gM_X10_163_main E hw dX10_layGoing_122 ?_
          refine lv_icmp_le (tgt := 133) hx hb dX10_layGoing_125 (by decide) (fun c4 => ?_) (fun c4 => ?_)
          · have h := h.1 c4
            exact J133 v2 x6 f_goes f_lastNow _ _ _ h hw (lv_sub hl [1, 2, 3, 4, 5, 0, 6] rfl)
          · have h := h.2 c4
            refine lv_iload hx hb dX10_layGoing_128 (lv_at hl 6 rfl) ?_
            refine lv_goto (tgt := 137) hx hb dX10_layGoing_130 (by decide) ?_
            exact J137 v2 x6 x6 f_goes f_lastNow _ _ _ h hw (lv_sub hl [1, 2, 3, 4, 5, 0, 6] rfl)
      have J97 : ∀ (x5 : Int32) (x6 : Int32) (x7 : Int32) (s1 : Int32) (s2 : Int32) (f_goes : Nat → Int32) (f_lastNow : Int32) (H : Heap) (locs : List Loc) (ls : Array Slot), wp_X10_layGoing_b97 f_gates f_hand f_second f_source f_trial p2 p3 p4 Q (wp_X10_layGoing_h6 f_gates f_hand f_second f_source f_trial p2 p3 p4 Q  n6) x5 x6 x7 s1 s2 f_goes f_lastNow → gW D s A (wM ad cI cZ f_thrown f_text f_textSize f_place f_chips f_gates f_kind f_source f_second f_clock f_readChips f_readPins f_readGates f_readKind f_readLies f_readSource f_readSecond f_readClock f_page f_trial f_book f_doings f_kept f_isKept f_seen f_seenBehind f_seenGate f_seenWorth f_seenWas f_seed f_worth f_known f_hand f_goes f_takes f_crossed f_last f_lastNow f_states X) H locs → lv_has ls 8 [(0, .ref (ad 23)), (1, .ref (ad 11)), (2, .int p2), (3, .int p3), (4, .int p4), (5, .int x5), (6, .int x6), (7, .int x7)] → W p l e ({ frames := 1, cells := 0, slots := 0, locals := 27 } : Room) s m args below meth c H locs 0 0 Z (F0 m 97 ls [.int s2, .int s1, .ref (ad 1)]) := by
        intro x5 x6 x7 s1 s2 f_goes f_lastNow H locs ls h hw hl
        unfold wp_X10_layGoing_b97 at h
        refine sM_goes E hw h.1 h.2.1 dX10_layGoing_97 (fun y5 ey5 H locs hw => ?_)
        have h := h.2.2 y5 ey5
        refine lv_iload hx hb dX10_layGoing_98 (lv_at hl 5 rfl) ?_
        refine lv_iload hx hb dX10_layGoing_100 (lv_at hl 7 rfl) ?_
        refine lv_if_eq (tgt := 109) hx hb dX10_layGoing_102 (by decide) (fun c6 => ?_) (fun c6 => ?_)
        · have h := h.1 c6
          refine lv_iconst (v := 0) hx hb dX10_layGoing_109 (by decide) ?_
          exact J110 x6 x7 x5 (0 : Int32) y5 f_lastNow _ _ _ h hw (lv_sub hl [0, 1, 2, 3, 4, 6, 7] rfl)
        · have h := h.2 c6
          refine lv_iconst (v := 1) hx hb dX10_layGoing_105 (by decide) ?_
          refine lv_goto (tgt := 110) hx hb dX10_layGoing_106 (by decide) ?_
          exact J110 x6 x7 x5 (1 : Int32) y5 f_lastNow _ _ _ h hw (lv_sub hl [0, 1, 2, 3, 4, 6, 7] rfl)
      have J92 : ∀ (x5 : Int32) (x6 : Int32) (x7 : Int32) (s1 : Int32) (f_goes : Nat → Int32) (f_lastNow : Int32) (H : Heap) (locs : List Loc) (ls : Array Slot), wp_X10_layGoing_b92 f_gates f_hand f_second f_source f_trial p2 p3 p4 Q (wp_X10_layGoing_h6 f_gates f_hand f_second f_source f_trial p2 p3 p4 Q  n6) x5 x6 x7 s1 f_goes f_lastNow → gW D s A (wM ad cI cZ f_thrown f_text f_textSize f_place f_chips f_gates f_kind f_source f_second f_clock f_readChips f_readPins f_readGates f_readKind f_readLies f_readSource f_readSecond f_readClock f_page f_trial f_book f_doings f_kept f_isKept f_seen f_seenBehind f_seenGate f_seenWorth f_seenWas f_seed f_worth f_known f_hand f_goes f_takes f_crossed f_last f_lastNow f_states X) H locs → lv_has ls 8 [(0, .ref (ad 23)), (1, .ref (ad 11)), (2, .int p2), (3, .int p3), (4, .int p4), (5, .int x5), (6, .int x6), (7, .int x7)] → W p l e ({ frames := 1, cells := 0, slots := 0, locals := 27 } : Room) s m args below meth c H locs 0 0 Z (F0 m 92 ls [.int s1, .ref (ad 1)]) := by
        intro x5 x6 x7 s1 f_goes f_lastNow H locs ls h hw hl
        unfold wp_X10_layGoing_b92 at h
        refine lv_iconst (v := 1) hx hb dX10_layGoing_92 (by decide) ?_
        refine lv_goto (tgt := 97) hx hb dX10_layGoing_93 (by decide) ?_
        exact J97 x5 x6 x7 s1 (1 : Int32) f_goes f_lastNow _ _ _ h hw (lv_sub hl [0, 1, 2, 3, 4, 5, 6, 7] rfl)
      have J59 : ∀ (x5 : Int32) (x6 : Int32) (s0 : Int32) (f_goes : Nat → Int32) (f_lastNow : Int32) (H : Heap) (locs : List Loc) (ls : Array Slot), wp_X10_layGoing_b59 f_gates f_hand f_second f_source f_trial p2 p3 p4 Q (wp_X10_layGoing_h6 f_gates f_hand f_second f_source f_trial p2 p3 p4 Q  n6) x5 x6 s0 f_goes f_lastNow → gW D s A (wM ad cI cZ f_thrown f_text f_textSize f_place f_chips f_gates f_kind f_source f_second f_clock f_readChips f_readPins f_readGates f_readKind f_readLies f_readSource f_readSecond f_readClock f_page f_trial f_book f_doings f_kept f_isKept f_seen f_seenBehind f_seenGate f_seenWorth f_seenWas f_seed f_worth f_known f_hand f_goes f_takes f_crossed f_last f_lastNow f_states X) H locs → lv_has ls 8 [(0, .ref (ad 23)), (1, .ref (ad 11)), (2, .int p2), (3, .int p3), (4, .int p4), (5, .int x5), (6, .int x6)] → W p l e ({ frames := 1, cells := 0, slots := 0, locals := 27 } : Room) s m args below meth c H locs 0 0 Z (F0 m 59 ls [.int s0]) := by
        intro x5 x6 s0 f_goes f_lastNow H locs ls h hw hl
        unfold wp_X10_layGoing_b59 at h
        refine lv_istore (lv' := [(7, .int s0), (0, .ref (ad 23)), (1, .ref (ad 11)), (2, .int p2), (3, .int p3), (4, .int p4), (5, .int x5), (6, .int x6)]) hx hb dX10_layGoing_59 hl (by decide) rfl (fun ls hl => ?_)
        refine lv_aload_n hx hb dX10_layGoing_61 rfl (lv_at hl 1 rfl) ?_
        refine gM_X10_78_main E hw dX10_layGoing_62 ?_
        refine lv_iconst (v := 4) hx hb dX10_layGoing_65 (by decide) ?_
        refine lv_iload hx hb dX10_layGoing_66 (lv_at hl 7 rfl) ?_
        refine lv_imul hx hb dX10_layGoing_68 ?_
        refine lv_iload hx hb dX10_layGoing_69 (lv_at hl 5 rfl) ?_
        refine lv_iadd hx hb dX10_layGoing_71 ?_
        refine lv_aload_n hx hb dX10_layGoing_72 rfl (lv_at hl 1 rfl) ?_
        refine gM_X10_78_main E hw dX10_layGoing_73 ?_
        refine lv_iconst (v := 4) hx hb dX10_layGoing_76 (by decide) ?_
        refine lv_iload hx hb dX10_layGoing_77 (lv_at hl 7 rfl) ?_
        refine lv_imul hx hb dX10_layGoing_79 ?_
        refine lv_iload hx hb dX10_layGoing_80 (lv_at hl 5 rfl) ?_
        refine lv_iadd hx hb dX10_layGoing_82 ?_
        refine lM_goes E hw h.1 dX10_layGoing_83 ?_
        have h := h.2
        refine lv_if_ne (tgt := 92) hx hb dX10_layGoing_84 (by decide) (fun c7 => ?_) (fun c7 => ?_)
        · have h := h.1 c7
          exact J92 x5 x6 s0 ((((4 : Int32) * x6) + p4)) f_goes f_lastNow _ _ _ h hw (lv_sub hl [1, 2, 3, 4, 5, 6, 7, 0] rfl)
        · have h := h.2 c7
          refine lv_iload hx hb dX10_layGoing_87 (lv_at hl 0 rfl) ?_
          refine lv_if_eq (tgt := 96) hx hb dX10_layGoing_89 (by decide) (fun c8 => ?_) (fun c8 => ?_)
          · have h := h.1 c8
            refine lv_iconst (v := 0) hx hb dX10_layGoing_96 (by decide) ?_
            exact J97 x5 x6 s0 ((((4 : Int32) * x6) + p4)) (0 : Int32) f_goes f_lastNow _ _ _ h hw (lv_sub hl [1, 2, 3, 4, 5, 6, 7, 0] rfl)
          · have h := h.2 c8
            exact J92 x5 x6 s0 ((((4 : Int32) * x6) + p4)) f_goes f_lastNow _ _ _ h hw (lv_sub hl [1, 2, 3, 4, 5, 6, 7, 0] rfl)
      have J58 : ∀ (x5 : Int32) (x6 : Int32) (f_goes : Nat → Int32) (f_lastNow : Int32) (H : Heap) (locs : List Loc) (ls : Array Slot), wp_X10_layGoing_b58 f_gates f_hand f_second f_source f_trial p2 p3 p4 Q (wp_X10_layGoing_h6 f_gates f_hand f_second f_source f_trial p2 p3 p4 Q  n6) x5 x6 f_goes f_lastNow → gW D s A (wM ad cI cZ f_thrown f_text f_textSize f_place f_chips f_gates f_kind f_source f_second f_clock f_readChips f_readPins f_readGates f_readKind f_readLies f_readSource f_readSecond f_readClock f_page f_trial f_book f_doings f_kept f_isKept f_seen f_seenBehind f_seenGate f_seenWorth f_seenWas f_seed f_worth f_known f_hand f_goes f_takes f_crossed f_last f_lastNow f_states X) H locs → lv_has ls 8 [(0, .ref (ad 23)), (1, .ref (ad 11)), (2, .int p2), (3, .int p3), (4, .int p4), (5, .int x5), (6, .int x6)] → W p l e ({ frames := 1, cells := 0, slots := 0, locals := 27 } : Room) s m args below meth c H locs 0 0 Z (F0 m 58 ls []) := by
        intro x5 x6 f_goes f_lastNow H locs ls h hw hl
        unfold wp_X10_layGoing_b58 at h
        refine lv_iconst (v := 0) hx hb dX10_layGoing_58 (by decide) ?_
        exact J59 x5 x6 (0 : Int32) f_goes f_lastNow _ _ _ h hw (lv_sub hl [0, 1, 2, 3, 4, 5, 6] rfl)
      unfold wp_X10_layGoing_b6 at h
      refine lv_iload hx hb dX10_layGoing_6 (lv_at hl 6 rfl) ?_
      refine lv_aload_n hx hb dX10_layGoing_8 rfl (lv_at hl 0 rfl) ?_
      refine gM_X10_87_main E hw dX10_layGoing_9 ?_
      refine lv_icmp_ge (tgt := 146) hx hb dX10_layGoing_12 (by decide) (fun c9 => ?_) (fun c9 => ?_)
      · have h := h.1 c9
        refine lv_iload hx hb dX10_layGoing_146 (lv_at hl 5 rfl) ?_
        exact hret _ _ _ _ _ _ ⟨_, _, rfl, h⟩ hw dX10_layGoing_148
      · have h := h.2 c9
        refine lv_iload hx hb dX10_layGoing_15 (lv_at hl 5 rfl) ?_
        refine lv_iload_n hx hb dX10_layGoing_17 rfl (lv_at hl 2 rfl) ?_
        refine lv_icmp_ge (tgt := 58) hx hb dX10_layGoing_18 (by decide) (fun c10 => ?_) (fun c10 => ?_)
        · have h := h.1 c10
          exact J58 x5 x6 f_goes f_lastNow _ _ _ h hw (lv_sub hl [0, 1, 2, 3, 4, 5, 6] rfl)
        · have h := h.2 c10
          refine lv_aload_n hx hb dX10_layGoing_21 rfl (lv_at hl 0 rfl) ?_
          refine lv_iload hx hb dX10_layGoing_22 (lv_at hl 6 rfl) ?_
          refine lv_iload_n hx hb dX10_layGoing_24 rfl (lv_at hl 3 rfl) ?_
          refine g_aI E hw (g_rV E hw (c_X10_isAt h _) ym_X10_isAt k_744 ⟨rfl, rfl⟩ ⟨Nat.le_of_ble_eq_true rfl, Nat.le_of_ble_eq_true rfl⟩ 23 rfl rfl rfl rfl hl.1 rfl (Nat.le_of_ble_eq_true rfl) ⟨Nat.zero_le _, Nat.zero_le _⟩ dX10_layGoing_25) (fun r11 u H locs hq hw => ?_)
          obtain ⟨hu, h⟩ := hq
          rw [hu] at hw
          refine lv_if_eq (tgt := 58) hx hb dX10_layGoing_28 (by decide) (fun c12 => ?_) (fun c12 => ?_)
          · have h := h.1 c12
            exact J58 x5 x6 f_goes f_lastNow _ _ _ h hw (lv_sub hl [0, 1, 2, 3, 4, 5, 6] rfl)
          · have h := h.2 c12
            refine lv_aload_n hx hb dX10_layGoing_31 rfl (lv_at hl 0 rfl) ?_
            refine lv_iload hx hb dX10_layGoing_32 (lv_at hl 6 rfl) ?_
            refine lv_iload hx hb dX10_layGoing_34 (lv_at hl 4 rfl) ?_
            refine g_aI E hw (g_rV E hw (c_X10_isAt h _) ym_X10_isAt k_744 ⟨rfl, rfl⟩ ⟨Nat.le_of_ble_eq_true rfl, Nat.le_of_ble_eq_true rfl⟩ 23 rfl rfl rfl rfl hl.1 rfl (Nat.le_of_ble_eq_true rfl) ⟨Nat.zero_le _, Nat.zero_le _⟩ dX10_layGoing_36) (fun r13 u H locs hq hw => ?_)
            obtain ⟨hu, h⟩ := hq
            rw [hu] at hw
            refine lv_if_ne (tgt := 58) hx hb dX10_layGoing_39 (by decide) (fun c14 => ?_) (fun c14 => ?_)
            · have h := h.1 c14
              exact J58 x5 x6 f_goes f_lastNow _ _ _ h hw (lv_sub hl [0, 1, 2, 3, 4, 5, 6] rfl)
            · have h := h.2 c14
              refine lv_aload_n hx hb dX10_layGoing_42 rfl (lv_at hl 0 rfl) ?_
              refine lv_aload_n hx hb dX10_layGoing_43 rfl (lv_at hl 1 rfl) ?_
              refine lv_iload hx hb dX10_layGoing_44 (lv_at hl 6 rfl) ?_
              refine lv_iload hx hb dX10_layGoing_46 (lv_at hl 4 rfl) ?_
              refine g_aI E hw (g_rV E hw (c_X10_isWanted_trial h _) ym_X10_isWanted k_750 ⟨rfl, rfl⟩ ⟨Nat.le_of_ble_eq_true rfl, Nat.le_of_ble_eq_true rfl⟩ 23 rfl rfl rfl rfl hl.1 rfl (Nat.le_of_ble_eq_true rfl) ⟨Nat.zero_le _, Nat.zero_le _⟩ dX10_layGoing_48) (fun r15 u H locs hq hw => ?_)
              obtain ⟨hu, h⟩ := hq
              rw [hu] at hw
              refine lv_if_eq (tgt := 58) hx hb dX10_layGoing_51 (by decide) (fun c16 => ?_) (fun c16 => ?_)
              · have h := h.1 c16
                exact J58 x5 x6 f_goes f_lastNow _ _ _ h hw (lv_sub hl [0, 1, 2, 3, 4, 5, 6] rfl)
              · have h := h.2 c16
                refine lv_iconst (v := 1) hx hb dX10_layGoing_54 (by decide) ?_
                refine lv_goto (tgt := 59) hx hb dX10_layGoing_55 (by decide) ?_
                exact J59 x5 x6 (1 : Int32) f_goes f_lastNow _ _ _ h hw (lv_sub hl [0, 1, 2, 3, 4, 5, 6] rfl)
  unfold wp_X10_layGoing at h
  refine lv_iconst (v := 0) hx hb dX10_layGoing_0 (by decide) ?_
  refine lv_istore (lv' := [(5, .int (0 : Int32)), (0, .ref (ad 23)), (1, .ref (ad 11)), (2, .int p2), (3, .int p3), (4, .int p4)]) hx hb dX10_layGoing_1 hl (by decide) rfl (fun ls hl => ?_)
  refine lv_iconst (v := 0) hx hb dX10_layGoing_3 (by decide) ?_
  refine lv_istore (lv' := [(6, .int (0 : Int32)), (5, .int (0 : Int32)), (0, .ref (ad 23)), (1, .ref (ad 11)), (2, .int p2), (3, .int p3), (4, .int p4)]) hx hb dX10_layGoing_4 hl (by decide) rfl (fun ls hl => ?_)
  obtain ⟨n, h⟩ := h
  exact L6 n (0 : Int32) (0 : Int32) f_goes f_lastNow _ _ _ h hw (lv_sub hl [2, 3, 4, 5, 6, 1, 0] rfl)
set_option maxRecDepth 100000 in
set_option maxHeartbeats 4000000 in
theorem c_X10_layReady_trial {l : Launch} {D : va_G} {cI cZ : ClassId} {ad : Nat → Nat} {f_thrown : Int32} {f_text : Nat → Int32} {f_textSize : Int32} {f_place : Int32} {f_chips : Int32} {f_gates : Int32} {f_kind : Nat → Int32} {f_source : Nat → Int32} {f_second : Nat → Int32} {f_clock : Nat → Int32} {f_readChips : Int32} {f_readPins : Int32} {f_readGates : Int32} {f_readKind : Nat → Int32} {f_readLies : Nat → Int32} {f_readSource : Nat → Int32} {f_readSecond : Nat → Int32} {f_readClock : Nat → Int32} {f_page : Nat → Int32} {f_trial : Nat → Int32} {f_book : Nat → Int32} {f_doings : Int32} {f_kept : Nat → Int32} {f_isKept : Nat → Int32} {f_seen : Int32} {f_seenBehind : Nat → Int32} {f_seenGate : Nat → Int32} {f_seenWorth : Nat → Int32} {f_seenWas : Nat → Int32} {f_seed : Int64} {f_worth : Nat → Int32} {f_known : Int32} {f_hand : Nat → Int32} {f_goes : Nat → Int32} {f_takes : Int32} {f_crossed : Int32} {f_last : Int32} {f_lastNow : Int32} {f_states : Nat → Int32} {X : va_W} {p2 : Int32} {Q : (Nat → Int32) → Prop} (h : wp_X10_layReady f_gates f_hand f_kind f_second f_source f_trial p2 Q) : CtV l yX10_layReady cX10_layReady 7 none ({ frames := 1, cells := 0, slots := 0, locals := 22 } : Room) D [(cI, .int), (cZ, .boolean)] [.ref (ad 23), .ref (ad 11), .int p2] (wM ad cI cZ f_thrown f_text f_textSize f_place f_chips f_gates f_kind f_source f_second f_clock f_readChips f_readPins f_readGates f_readKind f_readLies f_readSource f_readSecond f_readClock f_page f_trial f_book f_doings f_kept f_isKept f_seen f_seenBehind f_seenGate f_seenWorth f_seenWas f_seed f_worth f_known f_hand f_goes f_takes f_crossed f_last f_lastNow f_states X) (fun  u => ∃ w0, u = (wM ad cI cZ f_thrown f_text f_textSize f_place f_chips f_gates f_kind f_source f_second f_clock f_readChips f_readPins f_readGates f_readKind f_readLies f_readSource f_readSecond f_readClock f_page f_trial f_book f_doings f_kept f_isKept f_seen f_seenBehind f_seenGate f_seenWorth f_seenWas f_seed f_worth f_known w0 f_goes f_takes f_crossed f_last f_lastNow f_states X) ∧ Q w0) := by
  refine CtV.of (by decide) rfl (Nat.le_of_ble_eq_true rfl) ?_
  intro p e s m args below meth c A Z E hret ls hl hw
  have E : gE p m c cX10_layReady 7 s args RX10 D [(cI, .int), (cZ, .boolean)] A := E
  have hx := E.1.1
  have hb := E.1.2.1
  have hl : lv_has ls 7 [(0, .ref (ad 23)), (1, .ref (ad 11)), (2, .int p2)] := hl
  have L2 : ∀ (n : Nat) (x3 : Int32) (f_hand : Nat → Int32) (H : Heap) (locs : List Loc) (ls : Array Slot), wp_X10_layReady_h2 f_gates f_kind f_second f_source f_trial p2 Q  n x3 f_hand → gW D s A (wM ad cI cZ f_thrown f_text f_textSize f_place f_chips f_gates f_kind f_source f_second f_clock f_readChips f_readPins f_readGates f_readKind f_readLies f_readSource f_readSecond f_readClock f_page f_trial f_book f_doings f_kept f_isKept f_seen f_seenBehind f_seenGate f_seenWorth f_seenWas f_seed f_worth f_known f_hand f_goes f_takes f_crossed f_last f_lastNow f_states X) H locs → lv_has ls 7 [(0, .ref (ad 23)), (1, .ref (ad 11)), (2, .int p2), (3, .int x3)] → W p l e ({ frames := 1, cells := 0, slots := 0, locals := 22 } : Room) s m args below meth c H locs 0 0 Z (F0 m 2 ls []) := by
    intro n
    induction n with
    | zero => intro x3 f_hand H locs ls h; exact False.elim h
    | succ n2 ih2 =>
      intro x3 f_hand H locs ls h hw hl
      have h : wp_X10_layReady_b2 f_gates f_kind f_second f_source f_trial p2 Q (wp_X10_layReady_h2 f_gates f_kind f_second f_source f_trial p2 Q  n2) x3 f_hand := h
      have L13 : ∀ (n : Nat) (x3 : Int32) (x4 : Int32) (f_hand : Nat → Int32) (H : Heap) (locs : List Loc) (ls : Array Slot), wp_X10_layReady_h13 f_gates f_kind f_second f_source f_trial p2 Q (wp_X10_layReady_h2 f_gates f_kind f_second f_source f_trial p2 Q  n2) n x3 x4 f_hand → gW D s A (wM ad cI cZ f_thrown f_text f_textSize f_place f_chips f_gates f_kind f_source f_second f_clock f_readChips f_readPins f_readGates f_readKind f_readLies f_readSource f_readSecond f_readClock f_page f_trial f_book f_doings f_kept f_isKept f_seen f_seenBehind f_seenGate f_seenWorth f_seenWas f_seed f_worth f_known f_hand f_goes f_takes f_crossed f_last f_lastNow f_states X) H locs → lv_has ls 7 [(0, .ref (ad 23)), (1, .ref (ad 11)), (2, .int p2), (3, .int x3), (4, .int x4)] → W p l e ({ frames := 1, cells := 0, slots := 0, locals := 22 } : Room) s m args below meth c H locs 0 0 Z (F0 m 13 ls []) := by
        intro n
        induction n with
        | zero => intro x3 x4 f_hand H locs ls h; exact False.elim h
        | succ n13 ih13 =>
          intro x3 x4 f_hand H locs ls h hw hl
          have h : wp_X10_layReady_b13 f_gates f_kind f_second f_source f_trial p2 Q (wp_X10_layReady_h2 f_gates f_kind f_second f_source f_trial p2 Q  n2) (wp_X10_layReady_h13 f_gates f_kind f_second f_source f_trial p2 Q (wp_X10_layReady_h2 f_gates f_kind f_second f_source f_trial p2 Q  n2) n13) x3 x4 f_hand := h
          have J134 : ∀ (x3 : Int32) (x4 : Int32) (s1 : Int32) (s2 : Int32) (f_hand : Nat → Int32) (H : Heap) (locs : List Loc) (ls : Array Slot), wp_X10_layReady_b134 f_gates f_kind f_second f_source f_trial p2 Q (wp_X10_layReady_h2 f_gates f_kind f_second f_source f_trial p2 Q  n2) (wp_X10_layReady_h13 f_gates f_kind f_second f_source f_trial p2 Q (wp_X10_layReady_h2 f_gates f_kind f_second f_source f_trial p2 Q  n2) n13) x3 x4 s1 s2 f_hand → gW D s A (wM ad cI cZ f_thrown f_text f_textSize f_place f_chips f_gates f_kind f_source f_second f_clock f_readChips f_readPins f_readGates f_readKind f_readLies f_readSource f_readSecond f_readClock f_page f_trial f_book f_doings f_kept f_isKept f_seen f_seenBehind f_seenGate f_seenWorth f_seenWas f_seed f_worth f_known f_hand f_goes f_takes f_crossed f_last f_lastNow f_states X) H locs → lv_has ls 7 [(0, .ref (ad 23)), (1, .ref (ad 11)), (2, .int p2), (3, .int x3), (4, .int x4)] → W p l e ({ frames := 1, cells := 0, slots := 0, locals := 22 } : Room) s m args below meth c H locs 0 0 Z (F0 m 134 ls [.int s2, .int s1, .ref (ad 2)]) := by
            intro x3 x4 s1 s2 f_hand H locs ls h hw hl
            unfold wp_X10_layReady_b134 at h
            refine sM_hand E hw h.1 dX10_layReady_134 (fun y1 ey1 H locs hw => ?_)
            have h := h.2 y1 ey1
            obtain ⟨v2, ev2⟩ : ∃ y : Int32, y = x4 + 1 := ⟨_, rfl⟩
            have h := h v2 ev2
            refine lv_iinc (v := v2) (lv' := [(4, .int v2), (0, .ref (ad 23)), (1, .ref (ad 11)), (2, .int p2), (3, .int x3)]) hx hb dX10_layReady_135 hl (k := 4) rfl (by rw [ev2]; rfl) (by decide) rfl (fun ls hl => ?_)
            refine lv_goto (tgt := 13) hx hb dX10_layReady_138 (by decide) ?_
            exact ih13 x3 v2 y1 _ _ _ h hw (lv_sub hl [1, 2, 3, 4, 0] rfl)
          have J100 : ∀ (x3 : Int32) (x4 : Int32) (x5 : Int32) (s0 : Int32) (f_hand : Nat → Int32) (H : Heap) (locs : List Loc) (ls : Array Slot), wp_X10_layReady_b100 f_gates f_kind f_second f_source f_trial p2 Q (wp_X10_layReady_h2 f_gates f_kind f_second f_source f_trial p2 Q  n2) (wp_X10_layReady_h13 f_gates f_kind f_second f_source f_trial p2 Q (wp_X10_layReady_h2 f_gates f_kind f_second f_source f_trial p2 Q  n2) n13) x3 x4 x5 s0 f_hand → gW D s A (wM ad cI cZ f_thrown f_text f_textSize f_place f_chips f_gates f_kind f_source f_second f_clock f_readChips f_readPins f_readGates f_readKind f_readLies f_readSource f_readSecond f_readClock f_page f_trial f_book f_doings f_kept f_isKept f_seen f_seenBehind f_seenGate f_seenWorth f_seenWas f_seed f_worth f_known f_hand f_goes f_takes f_crossed f_last f_lastNow f_states X) H locs → lv_has ls 7 [(0, .ref (ad 23)), (1, .ref (ad 11)), (2, .int p2), (3, .int x3), (4, .int x4), (5, .int x5)] → W p l e ({ frames := 1, cells := 0, slots := 0, locals := 22 } : Room) s m args below meth c H locs 0 0 Z (F0 m 100 ls [.int s0]) := by
            intro x3 x4 x5 s0 f_hand H locs ls h hw hl
            unfold wp_X10_layReady_b100 at h
            refine lv_istore (lv' := [(6, .int s0), (0, .ref (ad 23)), (1, .ref (ad 11)), (2, .int p2), (3, .int x3), (4, .int x4), (5, .int x5)]) hx hb dX10_layReady_100 hl (by decide) rfl (fun ls hl => ?_)
            refine lv_aload_n hx hb dX10_layReady_102 rfl (lv_at hl 1 rfl) ?_
            refine gM_X10_75_main E hw dX10_layReady_103 ?_
            refine lv_iconst (v := 4) hx hb dX10_layReady_106 (by decide) ?_
            refine lv_iload hx hb dX10_layReady_107 (lv_at hl 5 rfl) ?_
            refine lv_imul hx hb dX10_layReady_109 ?_
            refine lv_iload hx hb dX10_layReady_110 (lv_at hl 6 rfl) ?_
            refine lv_iadd hx hb dX10_layReady_112 ?_
            refine lv_iload hx hb dX10_layReady_113 (lv_at hl 0 rfl) ?_
            refine lv_if_eq (tgt := 122) hx hb dX10_layReady_115 (by decide) (fun c3 => ?_) (fun c3 => ?_)
            · have h := h.1 c3
              refine lv_aload_n hx hb dX10_layReady_122 rfl (lv_at hl 1 rfl) ?_
              refine gM_X10_75_main E hw dX10_layReady_123 ?_
              refine lv_iconst (v := 4) hx hb dX10_layReady_126 (by decide) ?_
              refine lv_iload hx hb dX10_layReady_127 (lv_at hl 5 rfl) ?_
              refine lv_imul hx hb dX10_layReady_129 ?_
              refine lv_iload hx hb dX10_layReady_130 (lv_at hl 6 rfl) ?_
              refine lv_iadd hx hb dX10_layReady_132 ?_
              refine lM_hand E hw h.1 dX10_layReady_133 ?_
              have h := h.2
              exact J134 x3 x4 ((((4 : Int32) * x4) + x5)) ((f_hand ((((4 : Int32) * x4) + x5)).toNatClampNeg)) f_hand _ _ _ h hw (lv_sub hl [1, 2, 3, 4, 5] rfl)
            · have h := h.2 c3
              refine lv_iload_n hx hb dX10_layReady_118 rfl (lv_at hl 3 rfl) ?_
              refine lv_goto (tgt := 134) hx hb dX10_layReady_119 (by decide) ?_
              exact J134 x3 x4 ((((4 : Int32) * x4) + x5)) p2 f_hand _ _ _ h hw (lv_sub hl [1, 2, 3, 4, 5] rfl)
          have J99 : ∀ (x3 : Int32) (x4 : Int32) (x5 : Int32) (f_hand : Nat → Int32) (H : Heap) (locs : List Loc) (ls : Array Slot), wp_X10_layReady_b99 f_gates f_kind f_second f_source f_trial p2 Q (wp_X10_layReady_h2 f_gates f_kind f_second f_source f_trial p2 Q  n2) (wp_X10_layReady_h13 f_gates f_kind f_second f_source f_trial p2 Q (wp_X10_layReady_h2 f_gates f_kind f_second f_source f_trial p2 Q  n2) n13) x3 x4 x5 f_hand → gW D s A (wM ad cI cZ f_thrown f_text f_textSize f_place f_chips f_gates f_kind f_source f_second f_clock f_readChips f_readPins f_readGates f_readKind f_readLies f_readSource f_readSecond f_readClock f_page f_trial f_book f_doings f_kept f_isKept f_seen f_seenBehind f_seenGate f_seenWorth f_seenWas f_seed f_worth f_known f_hand f_goes f_takes f_crossed f_last f_lastNow f_states X) H locs → lv_has ls 7 [(0, .ref (ad 23)), (1, .ref (ad 11)), (2, .int p2), (3, .int x3), (4, .int x4), (5, .int x5)] → W p l e ({ frames := 1, cells := 0, slots := 0, locals := 22 } : Room) s m args below meth c H locs 0 0 Z (F0 m 99 ls []) := by
            intro x3 x4 x5 f_hand H locs ls h hw hl
            unfold wp_X10_layReady_b99 at h
            refine lv_iconst (v := 0) hx hb dX10_layReady_99 (by decide) ?_
            exact J100 x3 x4 x5 (0 : Int32) f_hand _ _ _ h hw (lv_sub hl [0, 1, 2, 3, 4, 5] rfl)
          have J95 : ∀ (x3 : Int32) (x4 : Int32) (x5 : Int32) (f_hand : Nat → Int32) (H : Heap) (locs : List Loc) (ls : Array Slot), wp_X10_layReady_b95 f_gates f_kind f_second f_source f_trial p2 Q (wp_X10_layReady_h2 f_gates f_kind f_second f_source f_trial p2 Q  n2) (wp_X10_layReady_h13 f_gates f_kind f_second f_source f_trial p2 Q (wp_X10_layReady_h2 f_gates f_kind f_second f_source f_trial p2 Q  n2) n13) x3 x4 x5 f_hand → gW D s A (wM ad cI cZ f_thrown f_text f_textSize f_place f_chips f_gates f_kind f_source f_second f_clock f_readChips f_readPins f_readGates f_readKind f_readLies f_readSource f_readSecond f_readClock f_page f_trial f_book f_doings f_kept f_isKept f_seen f_seenBehind f_seenGate f_seenWorth f_seenWas f_seed f_worth f_known f_hand f_goes f_takes f_crossed f_last f_lastNow f_states X) H locs → lv_has ls 7 [(0, .ref (ad 23)), (1, .ref (ad 11)), (2, .int p2), (3, .int x3), (4, .int x4), (5, .int x5)] → W p l e ({ frames := 1, cells := 0, slots := 0, locals := 22 } : Room) s m args below meth c H locs 0 0 Z (F0 m 95 ls []) := by
            intro x3 x4 x5 f_hand H locs ls h hw hl
            unfold wp_X10_layReady_b95 at h
            refine lv_iconst (v := 1) hx hb dX10_layReady_95 (by decide) ?_
            refine lv_goto (tgt := 100) hx hb dX10_layReady_96 (by decide) ?_
            exact J100 x3 x4 x5 (1 : Int32) f_hand _ _ _ h hw (lv_sub hl [0, 1, 2, 3, 4, 5] rfl)
          unfold wp_X10_layReady_b13 at h
          refine lv_iload hx hb dX10_layReady_13 (lv_at hl 4 rfl) ?_
          refine lv_aload_n hx hb dX10_layReady_15 rfl (lv_at hl 0 rfl) ?_
          refine gM_X10_87_main E hw dX10_layReady_16 ?_
          refine lv_icmp_ge (tgt := 141) hx hb dX10_layReady_19 (by decide) (fun c4 => ?_) (fun c4 => ?_)
          · have h := h.1 c4
            obtain ⟨v5, ev5⟩ : ∃ y : Int32, y = x3 + 1 := ⟨_, rfl⟩
            have h := h v5 ev5
            refine lv_iinc (v := v5) (lv' := [(3, .int v5), (0, .ref (ad 23)), (1, .ref (ad 11)), (2, .int p2), (4, .int x4)]) hx hb dX10_layReady_141 hl (k := 3) rfl (by rw [ev5]; rfl) (by decide) rfl (fun ls hl => ?_)
            refine lv_goto (tgt := 2) hx hb dX10_layReady_144 (by decide) ?_
            exact ih2 v5 f_hand _ _ _ h hw (lv_sub hl [1, 2, 3, 0] rfl)
          · have h := h.2 c4
            refine lv_aload_n hx hb dX10_layReady_22 rfl (lv_at hl 1 rfl) ?_
            refine lv_bipush (v := 10) hx hb dX10_layReady_23 (by decide) ?_
            refine lv_iload hx hb dX10_layReady_25 (lv_at hl 4 rfl) ?_
            refine lv_iadd hx hb dX10_layReady_27 ?_
            refine lM_trial E hw h.1 dX10_layReady_28 ?_
            have h := h.2
            refine lv_topi (fun v6 ev6 => ?_)
            have h := h v6 ev6
            refine lv_istore (lv' := [(5, .int v6), (0, .ref (ad 23)), (1, .ref (ad 11)), (2, .int p2), (3, .int x3), (4, .int x4)]) hx hb dX10_layReady_29 hl (by decide) rfl (fun ls hl => ?_)
            refine lv_aload_n hx hb dX10_layReady_31 rfl (lv_at hl 1 rfl) ?_
            refine lv_iload hx hb dX10_layReady_32 (lv_at hl 5 rfl) ?_
            refine g_aI E hw (g_rV E hw (c_X10_stands h _) ym_X10_stands k_677 ⟨rfl, rfl⟩ ⟨Nat.le_of_ble_eq_true rfl, Nat.le_of_ble_eq_true rfl⟩ 23 rfl rfl rfl rfl hl.1 rfl (Nat.le_of_ble_eq_true rfl) ⟨Nat.zero_le _, Nat.zero_le _⟩ dX10_layReady_34) (fun r7 u H locs hq hw => ?_)
            obtain ⟨hu, h⟩ := hq
            rw [hu] at hw
            refine lv_if_ne (tgt := 99) hx hb dX10_layReady_37 (by decide) (fun c8 => ?_) (fun c8 => ?_)
            · have h := h.1 c8
              exact J99 x3 x4 v6 f_hand _ _ _ h hw (lv_sub hl [1, 2, 3, 4, 5, 0] rfl)
            · have h := h.2 c8
              refine lv_aload_n hx hb dX10_layReady_40 rfl (lv_at hl 1 rfl) ?_
              refine lv_iload hx hb dX10_layReady_41 (lv_at hl 5 rfl) ?_
              refine lv_iload hx hb dX10_layReady_43 (lv_at hl 0 rfl) ?_
              refine g_aI E hw (g_rV E hw (c_X10_isAt h _) ym_X10_isAt k_744 ⟨rfl, rfl⟩ ⟨Nat.le_of_ble_eq_true rfl, Nat.le_of_ble_eq_true rfl⟩ 23 rfl rfl rfl rfl hl.1 rfl (Nat.le_of_ble_eq_true rfl) ⟨Nat.zero_le _, Nat.zero_le _⟩ dX10_layReady_45) (fun r9 u H locs hq hw => ?_)
              obtain ⟨hu, h⟩ := hq
              rw [hu] at hw
              refine lv_if_ne (tgt := 99) hx hb dX10_layReady_48 (by decide) (fun c10 => ?_) (fun c10 => ?_)
              · have h := h.1 c10
                exact J99 x3 x4 v6 f_hand _ _ _ h hw (lv_sub hl [1, 2, 3, 4, 5, 0] rfl)
              · have h := h.2 c10
                refine lv_aload_n hx hb dX10_layReady_51 rfl (lv_at hl 1 rfl) ?_
                refine lv_aload_n hx hb dX10_layReady_52 rfl (lv_at hl 1 rfl) ?_
                refine gM_X10_20_main E hw dX10_layReady_53 ?_
                refine lv_iload hx hb dX10_layReady_56 (lv_at hl 5 rfl) ?_
                refine lM_source E hw h.1 dX10_layReady_58 ?_
                have h := h.2
                refine lv_iload hx hb dX10_layReady_59 (lv_at hl 0 rfl) ?_
                refine g_aI E hw (g_rV E hw (c_X10_isAt h _) ym_X10_isAt k_744 ⟨rfl, rfl⟩ ⟨Nat.le_of_ble_eq_true rfl, Nat.le_of_ble_eq_true rfl⟩ 23 rfl rfl rfl rfl hl.1 rfl (Nat.le_of_ble_eq_true rfl) ⟨Nat.zero_le _, Nat.zero_le _⟩ dX10_layReady_61) (fun r11 u H locs hq hw => ?_)
                obtain ⟨hu, h⟩ := hq
                rw [hu] at hw
                refine lv_if_eq (tgt := 99) hx hb dX10_layReady_64 (by decide) (fun c12 => ?_) (fun c12 => ?_)
                · have h := h.1 c12
                  exact J99 x3 x4 v6 f_hand _ _ _ h hw (lv_sub hl [1, 2, 3, 4, 5, 0] rfl)
                · have h := h.2 c12
                  refine lv_aload_n hx hb dX10_layReady_67 rfl (lv_at hl 1 rfl) ?_
                  refine gM_X10_23_main E hw dX10_layReady_68 ?_
                  refine lv_iload hx hb dX10_layReady_71 (lv_at hl 5 rfl) ?_
                  refine lM_second E hw h.1 dX10_layReady_73 ?_
                  have h := h.2
                  refine lv_bipush (v := -9) hx hb dX10_layReady_74 (by decide) ?_
                  refine lv_icmp_eq (tgt := 95) hx hb dX10_layReady_76 (by decide) (fun c13 => ?_) (fun c13 => ?_)
                  · have h := h.1 c13
                    exact J95 x3 x4 v6 f_hand _ _ _ h hw (lv_sub hl [1, 2, 3, 4, 5, 0] rfl)
                  · have h := h.2 c13
                    refine lv_aload_n hx hb dX10_layReady_79 rfl (lv_at hl 1 rfl) ?_
                    refine lv_aload_n hx hb dX10_layReady_80 rfl (lv_at hl 1 rfl) ?_
                    refine gM_X10_23_main E hw dX10_layReady_81 ?_
                    refine lv_iload hx hb dX10_layReady_84 (lv_at hl 5 rfl) ?_
                    refine lM_second E hw h.1 dX10_layReady_86 ?_
                    have h := h.2
                    refine lv_iload hx hb dX10_layReady_87 (lv_at hl 0 rfl) ?_
                    refine g_aI E hw (g_rV E hw (c_X10_isAt h _) ym_X10_isAt k_744 ⟨rfl, rfl⟩ ⟨Nat.le_of_ble_eq_true rfl, Nat.le_of_ble_eq_true rfl⟩ 23 rfl rfl rfl rfl hl.1 rfl (Nat.le_of_ble_eq_true rfl) ⟨Nat.zero_le _, Nat.zero_le _⟩ dX10_layReady_89) (fun r14 u H locs hq hw => ?_)
                    obtain ⟨hu, h⟩ := hq
                    rw [hu] at hw
                    refine lv_if_eq (tgt := 99) hx hb dX10_layReady_92 (by decide) (fun c15 => ?_) (fun c15 => ?_)
                    · have h := h.1 c15
                      exact J99 x3 x4 v6 f_hand _ _ _ h hw (lv_sub hl [1, 2, 3, 4, 5, 0] rfl)
                    · have h := h.2 c15
                      exact J95 x3 x4 v6 f_hand _ _ _ h hw (lv_sub hl [1, 2, 3, 4, 5, 0] rfl)
      unfold wp_X10_layReady_b2 at h
      refine lv_iload_n hx hb dX10_layReady_2 rfl (lv_at hl 3 rfl) ?_
      refine lv_aload_n hx hb dX10_layReady_3 rfl (lv_at hl 0 rfl) ?_
      refine gM_X10_87_main E hw dX10_layReady_4 ?_
      refine lv_icmp_ge (tgt := 147) hx hb dX10_layReady_7 (by decide) (fun c16 => ?_) (fun c16 => ?_)
      · have h := h.1 c16
        exact hret _ _ _ _ _ ⟨_, rfl, h⟩ hw dX10_layReady_147
      · have h := h.2 c16
        refine lv_iconst (v := 0) hx hb dX10_layReady_10 (by decide) ?_
        refine lv_istore (lv' := [(4, .int (0 : Int32)), (0, .ref (ad 23)), (1, .ref (ad 11)), (2, .int p2), (3, .int x3)]) hx hb dX10_layReady_11 hl (by decide) rfl (fun ls hl => ?_)
        obtain ⟨n, h⟩ := h
        exact L13 n x3 (0 : Int32) f_hand _ _ _ h hw (lv_sub hl [1, 2, 3, 4, 0] rfl)
  unfold wp_X10_layReady at h
  refine lv_iconst (v := 0) hx hb dX10_layReady_0 (by decide) ?_
  refine lv_istore_n (lv' := [(3, .int (0 : Int32)), (0, .ref (ad 23)), (1, .ref (ad 11)), (2, .int p2)]) hx hb dX10_layReady_1 rfl hl (by decide) rfl (fun ls hl => ?_)
  obtain ⟨n, h⟩ := h
  exact L2 n (0 : Int32) f_hand _ _ _ h hw (lv_sub hl [1, 2, 3, 0] rfl)
set_option maxRecDepth 100000 in
set_option maxHeartbeats 4000000 in
theorem c_X10_laySchedule_trial {l : Launch} {D : va_G} {cI cZ : ClassId} {ad : Nat → Nat} {f_thrown : Int32} {f_text : Nat → Int32} {f_textSize : Int32} {f_place : Int32} {f_chips : Int32} {f_gates : Int32} {f_kind : Nat → Int32} {f_source : Nat → Int32} {f_second : Nat → Int32} {f_clock : Nat → Int32} {f_readChips : Int32} {f_readPins : Int32} {f_readGates : Int32} {f_readKind : Nat → Int32} {f_readLies : Nat → Int32} {f_readSource : Nat → Int32} {f_readSecond : Nat → Int32} {f_readClock : Nat → Int32} {f_page : Nat → Int32} {f_trial : Nat → Int32} {f_book : Nat → Int32} {f_doings : Int32} {f_kept : Nat → Int32} {f_isKept : Nat → Int32} {f_seen : Int32} {f_seenBehind : Nat → Int32} {f_seenGate : Nat → Int32} {f_seenWorth : Nat → Int32} {f_seenWas : Nat → Int32} {f_seed : Int64} {f_worth : Nat → Int32} {f_known : Int32} {f_hand : Nat → Int32} {f_goes : Nat → Int32} {f_takes : Int32} {f_crossed : Int32} {f_last : Int32} {f_lastNow : Int32} {f_states : Nat → Int32} {X : va_W} {p2 : Int32} {p3 : Int32} {p4 : Int32} {Q : Int32 → (Nat → Int32) → (Nat → Int32) → Int32 → Int32 → Int32 → Prop} (h : wp_X10_laySchedule f_chips f_crossed f_gates f_goes f_hand f_kind f_last f_lastNow f_second f_source f_takes f_trial p2 p3 p4 Q) : CtV l yX10_laySchedule cX10_laySchedule 9 none ({ frames := 2, cells := 0, slots := 0, locals := 54 } : Room) D [(cI, .int), (cZ, .boolean)] [.ref (ad 23), .ref (ad 11), .int p2, .int p3, .int p4] (wM ad cI cZ f_thrown f_text f_textSize f_place f_chips f_gates f_kind f_source f_second f_clock f_readChips f_readPins f_readGates f_readKind f_readLies f_readSource f_readSecond f_readClock f_page f_trial f_book f_doings f_kept f_isKept f_seen f_seenBehind f_seenGate f_seenWorth f_seenWas f_seed f_worth f_known f_hand f_goes f_takes f_crossed f_last f_lastNow f_states X) (fun  u => ∃ w0 w1 w2 w3 w4 w5, u = (wM ad cI cZ f_thrown f_text f_textSize f_place f_chips f_gates f_kind f_source f_second f_clock f_readChips f_readPins f_readGates f_readKind f_readLies f_readSource f_readSecond f_readClock f_page f_trial f_book f_doings f_kept f_isKept f_seen f_seenBehind f_seenGate f_seenWorth f_seenWas f_seed f_worth f_known w2 w1 w5 w0 w3 w4 f_states X) ∧ Q w0 w1 w2 w3 w4 w5) := by
  refine CtV.of (by decide) rfl (Nat.le_of_ble_eq_true rfl) ?_
  intro p e s m args below meth c A Z E hret ls hl hw
  have E : gE p m c cX10_laySchedule 9 s args RX10 D [(cI, .int), (cZ, .boolean)] A := E
  have hx := E.1.1
  have hb := E.1.2.1
  have hl : lv_has ls 9 [(0, .ref (ad 23)), (1, .ref (ad 11)), (2, .int p2), (3, .int p3), (4, .int p4)] := hl
  have L97 : ∀ (n : Nat) (x5 : Int32) (x6 : Int32) (f_crossed : Int32) (f_goes : Nat → Int32) (f_hand : Nat → Int32) (f_last : Int32) (f_lastNow : Int32) (f_takes : Int32) (H : Heap) (locs : List Loc) (ls : Array Slot), wp_X10_laySchedule_h97 f_chips f_gates f_kind f_second f_source f_trial p2 p3 p4 Q  n x5 x6 f_crossed f_goes f_hand f_last f_lastNow f_takes → gW D s A (wM ad cI cZ f_thrown f_text f_textSize f_place f_chips f_gates f_kind f_source f_second f_clock f_readChips f_readPins f_readGates f_readKind f_readLies f_readSource f_readSecond f_readClock f_page f_trial f_book f_doings f_kept f_isKept f_seen f_seenBehind f_seenGate f_seenWorth f_seenWas f_seed f_worth f_known f_hand f_goes f_takes f_crossed f_last f_lastNow f_states X) H locs → lv_has ls 9 [(0, .ref (ad 23)), (1, .ref (ad 11)), (2, .int p2), (3, .int p3), (4, .int p4), (5, .int x5), (6, .int x6)] → W p l e ({ frames := 2, cells := 0, slots := 0, locals := 54 } : Room) s m args below meth c H locs 0 0 Z (F0 m 97 ls []) := by
    intro n
    induction n with
    | zero => intro x5 x6 f_crossed f_goes f_hand f_last f_lastNow f_takes H locs ls h; exact False.elim h
    | succ n97 ih97 =>
      intro x5 x6 f_crossed f_goes f_hand f_last f_lastNow f_takes H locs ls h hw hl
      have h : wp_X10_laySchedule_b97 f_chips f_gates f_kind f_second f_source f_trial p2 p3 p4 Q (wp_X10_laySchedule_h97 f_chips f_gates f_kind f_second f_source f_trial p2 p3 p4 Q  n97) x5 x6 f_crossed f_goes f_hand f_last f_lastNow f_takes := h
      have J319 : ∀ (x5 : Int32) (x6 : Int32) (s1 : Int32) (f_crossed : Int32) (f_goes : Nat → Int32) (f_hand : Nat → Int32) (f_last : Int32) (f_lastNow : Int32) (f_takes : Int32) (H : Heap) (locs : List Loc) (ls : Array Slot), wp_X10_laySchedule_b319 f_chips f_gates f_kind f_second f_source f_trial p2 p3 p4 Q (wp_X10_laySchedule_h97 f_chips f_gates f_kind f_second f_source f_trial p2 p3 p4 Q  n97) x5 x6 s1 f_crossed f_goes f_hand f_last f_lastNow f_takes → gW D s A (wM ad cI cZ f_thrown f_text f_textSize f_place f_chips f_gates f_kind f_source f_second f_clock f_readChips f_readPins f_readGates f_readKind f_readLies f_readSource f_readSecond f_readClock f_page f_trial f_book f_doings f_kept f_isKept f_seen f_seenBehind f_seenGate f_seenWorth f_seenWas f_seed f_worth f_known f_hand f_goes f_takes f_crossed f_last f_lastNow f_states X) H locs → lv_has ls 9 [(0, .ref (ad 23)), (1, .ref (ad 11)), (2, .int p2), (3, .int p3), (4, .int p4), (5, .int x5), (6, .int x6)] → W p l e ({ frames := 2, cells := 0, slots := 0, locals := 54 } : Room) s m args below meth c H locs 0 0 Z (F0 m 319 ls [.int s1, .ref (ad 23)]) := by
        intro x5 x6 s1 f_crossed f_goes f_hand f_last f_lastNow f_takes H locs ls h hw hl
        unfold wp_X10_laySchedule_b319 at h
        refine pM_X10_172_main E hw dX10_laySchedule_319 (fun H locs hw => ?_)
        obtain ⟨v1, ev1⟩ : ∃ y : Int32, y = x6 + 1 := ⟨_, rfl⟩
        have h := h v1 ev1
        refine lv_iinc (v := v1) (lv' := [(6, .int v1), (0, .ref (ad 23)), (1, .ref (ad 11)), (2, .int p2), (3, .int p3), (4, .int p4), (5, .int x5)]) hx hb dX10_laySchedule_322 hl (k := 6) rfl (by rw [ev1]; rfl) (by decide) rfl (fun ls hl => ?_)
        refine lv_goto (tgt := 97) hx hb dX10_laySchedule_325 (by decide) ?_
        exact ih97 x5 v1 f_crossed f_goes f_hand s1 f_lastNow f_takes _ _ _ h hw (lv_sub hl [1, 2, 3, 4, 5, 6, 0] rfl)
      have L237 : ∀ (n : Nat) (x5 : Int32) (x6 : Int32) (x8 : Int32) (f_crossed : Int32) (f_goes : Nat → Int32) (f_hand : Nat → Int32) (f_last : Int32) (f_lastNow : Int32) (f_takes : Int32) (H : Heap) (locs : List Loc) (ls : Array Slot), wp_X10_laySchedule_h237 f_chips f_gates f_kind f_second f_source f_trial p2 p3 p4 Q (wp_X10_laySchedule_h97 f_chips f_gates f_kind f_second f_source f_trial p2 p3 p4 Q  n97) n x5 x6 x8 f_crossed f_goes f_hand f_last f_lastNow f_takes → gW D s A (wM ad cI cZ f_thrown f_text f_textSize f_place f_chips f_gates f_kind f_source f_second f_clock f_readChips f_readPins f_readGates f_readKind f_readLies f_readSource f_readSecond f_readClock f_page f_trial f_book f_doings f_kept f_isKept f_seen f_seenBehind f_seenGate f_seenWorth f_seenWas f_seed f_worth f_known f_hand f_goes f_takes f_crossed f_last f_lastNow f_states X) H locs → lv_has ls 9 [(0, .ref (ad 23)), (1, .ref (ad 11)), (2, .int p2), (3, .int p3), (4, .int p4), (5, .int x5), (6, .int x6), (8, .int x8)] → W p l e ({ frames := 2, cells := 0, slots := 0, locals := 54 } : Room) s m args below meth c H locs 0 0 Z (F0 m 237 ls []) := by
        intro n
        induction n with
        | zero => intro x5 x6 x8 f_crossed f_goes f_hand f_last f_lastNow f_takes H locs ls h; exact False.elim h
        | succ n237 ih237 =>
          intro x5 x6 x8 f_crossed f_goes f_hand f_last f_lastNow f_takes H locs ls h hw hl
          have h : wp_X10_laySchedule_b237 f_chips f_gates f_kind f_second f_source f_trial p2 p3 p4 Q (wp_X10_laySchedule_h97 f_chips f_gates f_kind f_second f_source f_trial p2 p3 p4 Q  n97) (wp_X10_laySchedule_h237 f_chips f_gates f_kind f_second f_source f_trial p2 p3 p4 Q (wp_X10_laySchedule_h97 f_chips f_gates f_kind f_second f_source f_trial p2 p3 p4 Q  n97) n237) x5 x6 x8 f_crossed f_goes f_hand f_last f_lastNow f_takes := h
          have J274 : ∀ (x5 : Int32) (x6 : Int32) (x8 : Int32) (s1 : Int32) (s2 : Int32) (f_crossed : Int32) (f_goes : Nat → Int32) (f_hand : Nat → Int32) (f_last : Int32) (f_lastNow : Int32) (f_takes : Int32) (H : Heap) (locs : List Loc) (ls : Array Slot), wp_X10_laySchedule_b274 f_chips f_gates f_kind f_second f_source f_trial p2 p3 p4 Q (wp_X10_laySchedule_h97 f_chips f_gates f_kind f_second f_source f_trial p2 p3 p4 Q  n97) (wp_X10_laySchedule_h237 f_chips f_gates f_kind f_second f_source f_trial p2 p3 p4 Q (wp_X10_laySchedule_h97 f_chips f_gates f_kind f_second f_source f_trial p2 p3 p4 Q  n97) n237) x5 x6 x8 s1 s2 f_crossed f_goes f_hand f_last f_lastNow f_takes → gW D s A (wM ad cI cZ f_thrown f_text f_textSize f_place f_chips f_gates f_kind f_source f_second f_clock f_readChips f_readPins f_readGates f_readKind f_readLies f_readSource f_readSecond f_readClock f_page f_trial f_book f_doings f_kept f_isKept f_seen f_seenBehind f_seenGate f_seenWorth f_seenWas f_seed f_worth f_known f_hand f_goes f_takes f_crossed f_last f_lastNow f_states X) H locs → lv_has ls 9 [(0, .ref (ad 23)), (1, .ref (ad 11)), (2, .int p2), (3, .int p3), (4, .int p4), (5, .int x5), (6, .int x6), (8, .int x8)] → W p l e ({ frames := 2, cells := 0, slots := 0, locals := 54 } : Room) s m args below meth c H locs 0 0 Z (F0 m 274 ls [.int s2, .int s1, .ref (ad 2)]) := by
            intro x5 x6 x8 s1 s2 f_crossed f_goes f_hand f_last f_lastNow f_takes H locs ls h hw hl
            unfold wp_X10_laySchedule_b274 at h
            refine sM_hand E hw h.1 dX10_laySchedule_274 (fun y2 ey2 H locs hw => ?_)
            have h := h.2 y2 ey2
            obtain ⟨v3, ev3⟩ : ∃ y : Int32, y = x8 + 1 := ⟨_, rfl⟩
            have h := h v3 ev3
            refine lv_iinc (v := v3) (lv' := [(8, .int v3), (0, .ref (ad 23)), (1, .ref (ad 11)), (2, .int p2), (3, .int p3), (4, .int p4), (5, .int x5), (6, .int x6)]) hx hb dX10_laySchedule_275 hl (k := 7) rfl (by rw [ev3]; rfl) (by decide) rfl (fun ls hl => ?_)
            refine lv_goto (tgt := 237) hx hb dX10_laySchedule_278 (by decide) ?_
            exact ih237 x5 x6 v3 f_crossed f_goes y2 f_last f_lastNow f_takes _ _ _ h hw (lv_sub hl [1, 2, 3, 4, 5, 6, 7, 0] rfl)
          unfold wp_X10_laySchedule_b237 at h
          refine lv_iload hx hb dX10_laySchedule_237 (lv_at hl 7 rfl) ?_
          refine lv_bipush (v := 40) hx hb dX10_laySchedule_239 (by decide) ?_
          refine lv_icmp_ge (tgt := 281) hx hb dX10_laySchedule_241 (by decide) (fun c4 => ?_) (fun c4 => ?_)
          · have h := h.1 c4
            refine lv_aload_n hx hb dX10_laySchedule_281 rfl (lv_at hl 0 rfl) ?_
            refine lv_dup hx hb dX10_laySchedule_282 rfl ?_
            refine gM_X10_166_main E hw dX10_laySchedule_283 ?_
            refine lv_iconst (v := 1) hx hb dX10_laySchedule_286 (by decide) ?_
            refine lv_iadd hx hb dX10_laySchedule_287 ?_
            refine lv_topi (fun v5 ev5 => ?_)
            have h := h v5 ev5
            refine pM_X10_166_main E hw dX10_laySchedule_288 (fun H locs hw => ?_)
            refine lv_aload_n hx hb dX10_laySchedule_291 rfl (lv_at hl 0 rfl) ?_
            refine lv_dup hx hb dX10_laySchedule_292 rfl ?_
            refine gM_X10_169_main E hw dX10_laySchedule_293 ?_
            refine lv_iload hx hb dX10_laySchedule_296 (lv_at hl 5 rfl) ?_
            refine lv_iadd hx hb dX10_laySchedule_298 ?_
            refine lv_topi (fun v6 ev6 => ?_)
            have h := h v6 ev6
            refine pM_X10_169_main E hw dX10_laySchedule_299 (fun H locs hw => ?_)
            refine lv_aload_n hx hb dX10_laySchedule_302 rfl (lv_at hl 0 rfl) ?_
            refine lv_iload hx hb dX10_laySchedule_303 (lv_at hl 5 rfl) ?_
            refine lv_if_le (tgt := 315) hx hb dX10_laySchedule_305 (by decide) (fun c7 => ?_) (fun c7 => ?_)
            · have h := h.1 c7
              refine lv_aload_n hx hb dX10_laySchedule_315 rfl (lv_at hl 0 rfl) ?_
              refine gM_X10_172_main E hw dX10_laySchedule_316 ?_
              exact J319 x5 x6 f_last v6 f_goes f_hand f_last f_lastNow v5 _ _ _ h hw (lv_sub hl [0, 1, 2, 3, 4, 5, 6] rfl)
            · have h := h.2 c7
              refine lv_aload_n hx hb dX10_laySchedule_308 rfl (lv_at hl 0 rfl) ?_
              refine gM_X10_163_main E hw dX10_laySchedule_309 ?_
              refine lv_goto (tgt := 319) hx hb dX10_laySchedule_312 (by decide) ?_
              exact J319 x5 x6 f_lastNow v6 f_goes f_hand f_last f_lastNow v5 _ _ _ h hw (lv_sub hl [0, 1, 2, 3, 4, 5, 6] rfl)
          · have h := h.2 c4
            refine lv_aload_n hx hb dX10_laySchedule_244 rfl (lv_at hl 0 rfl) ?_
            refine gM_X10_75_main E hw dX10_laySchedule_245 ?_
            refine lv_iload hx hb dX10_laySchedule_248 (lv_at hl 7 rfl) ?_
            refine lv_aload_n hx hb dX10_laySchedule_250 rfl (lv_at hl 0 rfl) ?_
            refine gM_X10_78_main E hw dX10_laySchedule_251 ?_
            refine lv_iload hx hb dX10_laySchedule_254 (lv_at hl 7 rfl) ?_
            refine lM_goes E hw h.1 dX10_laySchedule_256 ?_
            have h := h.2
            refine lv_if_eq (tgt := 267) hx hb dX10_laySchedule_257 (by decide) (fun c8 => ?_) (fun c8 => ?_)
            · have h := h.1 c8
              refine lv_aload_n hx hb dX10_laySchedule_267 rfl (lv_at hl 0 rfl) ?_
              refine gM_X10_75_main E hw dX10_laySchedule_268 ?_
              refine lv_iload hx hb dX10_laySchedule_271 (lv_at hl 7 rfl) ?_
              refine lM_hand E hw h.1 dX10_laySchedule_273 ?_
              have h := h.2
              exact J274 x5 x6 x8 x8 ((f_hand (x8).toNatClampNeg)) f_crossed f_goes f_hand f_last f_lastNow f_takes _ _ _ h hw (lv_sub hl [0, 1, 2, 3, 4, 5, 6, 7] rfl)
            · have h := h.2 c8
              refine lv_iload hx hb dX10_laySchedule_260 (lv_at hl 6 rfl) ?_
              refine lv_iconst (v := 1) hx hb dX10_laySchedule_262 (by decide) ?_
              refine lv_iadd hx hb dX10_laySchedule_263 ?_
              refine lv_goto (tgt := 274) hx hb dX10_laySchedule_264 (by decide) ?_
              exact J274 x5 x6 x8 x8 ((x6 + (1 : Int32))) f_crossed f_goes f_hand f_last f_lastNow f_takes _ _ _ h hw (lv_sub hl [0, 1, 2, 3, 4, 5, 6, 7] rfl)
      have J234 : ∀ (x5 : Int32) (x6 : Int32) (f_crossed : Int32) (f_goes : Nat → Int32) (f_hand : Nat → Int32) (f_last : Int32) (f_lastNow : Int32) (f_takes : Int32) (H : Heap) (locs : List Loc) (ls : Array Slot), wp_X10_laySchedule_b234 f_chips f_gates f_kind f_second f_source f_trial p2 p3 p4 Q (wp_X10_laySchedule_h97 f_chips f_gates f_kind f_second f_source f_trial p2 p3 p4 Q  n97) x5 x6 f_crossed f_goes f_hand f_last f_lastNow f_takes → gW D s A (wM ad cI cZ f_thrown f_text f_textSize f_place f_chips f_gates f_kind f_source f_second f_clock f_readChips f_readPins f_readGates f_readKind f_readLies f_readSource f_readSecond f_readClock f_page f_trial f_book f_doings f_kept f_isKept f_seen f_seenBehind f_seenGate f_seenWorth f_seenWas f_seed f_worth f_known f_hand f_goes f_takes f_crossed f_last f_lastNow f_states X) H locs → lv_has ls 9 [(0, .ref (ad 23)), (1, .ref (ad 11)), (2, .int p2), (3, .int p3), (4, .int p4), (5, .int x5), (6, .int x6)] → W p l e ({ frames := 2, cells := 0, slots := 0, locals := 54 } : Room) s m args below meth c H locs 0 0 Z (F0 m 234 ls []) := by
        intro x5 x6 f_crossed f_goes f_hand f_last f_lastNow f_takes H locs ls h hw hl
        unfold wp_X10_laySchedule_b234 at h
        refine lv_iconst (v := 0) hx hb dX10_laySchedule_234 (by decide) ?_
        refine lv_istore (lv' := [(8, .int (0 : Int32)), (0, .ref (ad 23)), (1, .ref (ad 11)), (2, .int p2), (3, .int p3), (4, .int p4), (5, .int x5), (6, .int x6)]) hx hb dX10_laySchedule_235 hl (by decide) rfl (fun ls hl => ?_)
        obtain ⟨n, h⟩ := h
        exact L237 n x5 x6 (0 : Int32) f_crossed f_goes f_hand f_last f_lastNow f_takes _ _ _ h hw (lv_sub hl [1, 2, 3, 4, 5, 6, 7, 0] rfl)
      have L182 : ∀ (n : Nat) (x5 : Int32) (x6 : Int32) (x7 : Int32) (x8 : Int32) (f_crossed : Int32) (f_goes : Nat → Int32) (f_hand : Nat → Int32) (f_last : Int32) (f_lastNow : Int32) (f_takes : Int32) (H : Heap) (locs : List Loc) (ls : Array Slot), wp_X10_laySchedule_h182 f_chips f_gates f_kind f_second f_source f_trial p2 p3 p4 Q (wp_X10_laySchedule_h97 f_chips f_gates f_kind f_second f_source f_trial p2 p3 p4 Q  n97) n x5 x6 x7 x8 f_crossed f_goes f_hand f_last f_lastNow f_takes → gW D s A (wM ad cI cZ f_thrown f_text f_textSize f_place f_chips f_gates f_kind f_source f_second f_clock f_readChips f_readPins f_readGates f_readKind f_readLies f_readSource f_readSecond f_readClock f_page f_trial f_book f_doings f_kept f_isKept f_seen f_seenBehind f_seenGate f_seenWorth f_seenWas f_seed f_worth f_known f_hand f_goes f_takes f_crossed f_last f_lastNow f_states X) H locs → lv_has ls 9 [(0, .ref (ad 23)), (1, .ref (ad 11)), (2, .int p2), (3, .int p3), (4, .int p4), (5, .int x5), (6, .int x6), (7, .int x7), (8, .int x8)] → W p l e ({ frames := 2, cells := 0, slots := 0, locals := 54 } : Room) s m args below meth c H locs 0 0 Z (F0 m 182 ls []) := by
        intro n
        induction n with
        | zero => intro x5 x6 x7 x8 f_crossed f_goes f_hand f_last f_lastNow f_takes H locs ls h; exact False.elim h
        | succ n182 ih182 =>
          intro x5 x6 x7 x8 f_crossed f_goes f_hand f_last f_lastNow f_takes H locs ls h hw hl
          have h : wp_X10_laySchedule_b182 f_chips f_gates f_kind f_second f_source f_trial p2 p3 p4 Q (wp_X10_laySchedule_h97 f_chips f_gates f_kind f_second f_source f_trial p2 p3 p4 Q  n97) (wp_X10_laySchedule_h182 f_chips f_gates f_kind f_second f_source f_trial p2 p3 p4 Q (wp_X10_laySchedule_h97 f_chips f_gates f_kind f_second f_source f_trial p2 p3 p4 Q  n97) n182) x5 x6 x7 x8 f_crossed f_goes f_hand f_last f_lastNow f_takes := h
          unfold wp_X10_laySchedule_b182 at h
          refine lv_iload hx hb dX10_laySchedule_182 (lv_at hl 8 rfl) ?_
          refine lv_iconst (v := 1) hx hb dX10_laySchedule_184 (by decide) ?_
          refine lv_iadd hx hb dX10_laySchedule_185 ?_
          refine lv_aload_n hx hb dX10_laySchedule_186 rfl (lv_at hl 0 rfl) ?_
          refine gM_X10_13_main E hw dX10_laySchedule_187 ?_
          refine lv_icmp_ge (tgt := 234) hx hb dX10_laySchedule_190 (by decide) (fun c9 => ?_) (fun c9 => ?_)
          · have h := h.1 c9
            exact J234 x5 x6 f_crossed f_goes f_hand f_last f_lastNow f_takes _ _ _ h hw (lv_sub hl [0, 1, 2, 3, 4, 5, 6] rfl)
          · have h := h.2 c9
            refine lv_iload hx hb dX10_laySchedule_193 (lv_at hl 7 rfl) ?_
            refine lv_if_ne (tgt := 234) hx hb dX10_laySchedule_195 (by decide) (fun c10 => ?_) (fun c10 => ?_)
            · have h := h.1 c10
              exact J234 x5 x6 f_crossed f_goes f_hand f_last f_lastNow f_takes _ _ _ h hw (lv_sub hl [0, 1, 2, 3, 4, 5, 6] rfl)
            · have h := h.2 c10
              refine lv_iload hx hb dX10_laySchedule_198 (lv_at hl 5 rfl) ?_
              refine lv_aload_n hx hb dX10_laySchedule_200 rfl (lv_at hl 0 rfl) ?_
              refine lv_aload_n hx hb dX10_laySchedule_201 rfl (lv_at hl 1 rfl) ?_
              refine lv_iload_n hx hb dX10_laySchedule_202 rfl (lv_at hl 2 rfl) ?_
              refine lv_iload hx hb dX10_laySchedule_203 (lv_at hl 8 rfl) ?_
              refine lv_iload hx hb dX10_laySchedule_205 (lv_at hl 8 rfl) ?_
              refine lv_iconst (v := 1) hx hb dX10_laySchedule_207 (by decide) ?_
              refine lv_iadd hx hb dX10_laySchedule_208 ?_
              refine g_aI E hw (g_rV E hw (c_X10_layGoing_trial h _) ym_X10_layGoing k_747 ⟨rfl, rfl⟩ ⟨Nat.le_of_ble_eq_true rfl, Nat.le_of_ble_eq_true rfl⟩ 23 rfl rfl rfl rfl hl.1 rfl (Nat.le_of_ble_eq_true rfl) ⟨Nat.zero_le _, Nat.zero_le _⟩ dX10_laySchedule_209) (fun r11 u H locs hq hw => ?_)
              obtain ⟨y12, y13, hu, h⟩ := hq
              rw [hu] at hw
              refine lv_aload_n hx hb dX10_laySchedule_212 rfl (lv_at hl 0 rfl) ?_
              refine lv_aload_n hx hb dX10_laySchedule_213 rfl (lv_at hl 1 rfl) ?_
              refine lv_iload_n hx hb dX10_laySchedule_214 rfl (lv_at hl 2 rfl) ?_
              refine lv_iload hx hb dX10_laySchedule_215 (lv_at hl 8 rfl) ?_
              refine lv_iconst (v := 1) hx hb dX10_laySchedule_217 (by decide) ?_
              refine lv_iadd hx hb dX10_laySchedule_218 ?_
              refine lv_iload hx hb dX10_laySchedule_219 (lv_at hl 8 rfl) ?_
              refine g_aI E hw (g_rV E hw (c_X10_layGoing_trial h _) ym_X10_layGoing k_747 ⟨rfl, rfl⟩ ⟨Nat.le_of_ble_eq_true rfl, Nat.le_of_ble_eq_true rfl⟩ 23 rfl rfl rfl rfl hl.1 rfl (Nat.le_of_ble_eq_true rfl) ⟨Nat.zero_le _, Nat.zero_le _⟩ dX10_laySchedule_221) (fun r14 u H locs hq hw => ?_)
              obtain ⟨y15, y16, hu, h⟩ := hq
              rw [hu] at hw
              refine lv_iadd hx hb dX10_laySchedule_224 ?_
              refine lv_iadd hx hb dX10_laySchedule_225 ?_
              refine lv_topi (fun v17 ev17 => ?_)
              have h := h v17 ev17
              refine lv_istore (lv' := [(5, .int v17), (0, .ref (ad 23)), (1, .ref (ad 11)), (2, .int p2), (3, .int p3), (4, .int p4), (6, .int x6), (7, .int x7), (8, .int x8)]) hx hb dX10_laySchedule_226 hl (by decide) rfl (fun ls hl => ?_)
              obtain ⟨v18, ev18⟩ : ∃ y : Int32, y = x8 + 1 := ⟨_, rfl⟩
              have h := h v18 ev18
              refine lv_iinc (v := v18) (lv' := [(8, .int v18), (5, .int v17), (0, .ref (ad 23)), (1, .ref (ad 11)), (2, .int p2), (3, .int p3), (4, .int p4), (6, .int x6), (7, .int x7)]) hx hb dX10_laySchedule_228 hl (k := 8) rfl (by rw [ev18]; rfl) (by decide) rfl (fun ls hl => ?_)
              refine lv_goto (tgt := 182) hx hb dX10_laySchedule_231 (by decide) ?_
              exact ih182 v17 x6 x7 v18 f_crossed y15 f_hand f_last y16 f_takes _ _ _ h hw (lv_sub hl [2, 3, 4, 5, 6, 1, 7, 8, 0] rfl)
      have J177 : ∀ (x5 : Int32) (x6 : Int32) (s0 : Int32) (f_crossed : Int32) (f_goes : Nat → Int32) (f_hand : Nat → Int32) (f_last : Int32) (f_lastNow : Int32) (f_takes : Int32) (H : Heap) (locs : List Loc) (ls : Array Slot), wp_X10_laySchedule_b177 f_chips f_gates f_kind f_second f_source f_trial p2 p3 p4 Q (wp_X10_laySchedule_h97 f_chips f_gates f_kind f_second f_source f_trial p2 p3 p4 Q  n97) x5 x6 s0 f_crossed f_goes f_hand f_last f_lastNow f_takes → gW D s A (wM ad cI cZ f_thrown f_text f_textSize f_place f_chips f_gates f_kind f_source f_second f_clock f_readChips f_readPins f_readGates f_readKind f_readLies f_readSource f_readSecond f_readClock f_page f_trial f_book f_doings f_kept f_isKept f_seen f_seenBehind f_seenGate f_seenWorth f_seenWas f_seed f_worth f_known f_hand f_goes f_takes f_crossed f_last f_lastNow f_states X) H locs → lv_has ls 9 [(0, .ref (ad 23)), (1, .ref (ad 11)), (2, .int p2), (3, .int p3), (4, .int p4), (5, .int x5), (6, .int x6)] → W p l e ({ frames := 2, cells := 0, slots := 0, locals := 54 } : Room) s m args below meth c H locs 0 0 Z (F0 m 177 ls [.int s0]) := by
        intro x5 x6 s0 f_crossed f_goes f_hand f_last f_lastNow f_takes H locs ls h hw hl
        unfold wp_X10_laySchedule_b177 at h
        refine lv_istore (lv' := [(7, .int s0), (0, .ref (ad 23)), (1, .ref (ad 11)), (2, .int p2), (3, .int p3), (4, .int p4), (5, .int x5), (6, .int x6)]) hx hb dX10_laySchedule_177 hl (by decide) rfl (fun ls hl => ?_)
        refine lv_iconst (v := 0) hx hb dX10_laySchedule_179 (by decide) ?_
        refine lv_istore (lv' := [(8, .int (0 : Int32)), (7, .int s0), (0, .ref (ad 23)), (1, .ref (ad 11)), (2, .int p2), (3, .int p3), (4, .int p4), (5, .int x5), (6, .int x6)]) hx hb dX10_laySchedule_180 hl (by decide) rfl (fun ls hl => ?_)
        obtain ⟨n, h⟩ := h
        exact L182 n x5 x6 s0 (0 : Int32) f_crossed f_goes f_hand f_last f_lastNow f_takes _ _ _ h hw (lv_sub hl [2, 3, 4, 5, 6, 7, 8, 1, 0] rfl)
      have J176 : ∀ (x5 : Int32) (x6 : Int32) (f_crossed : Int32) (f_goes : Nat → Int32) (f_hand : Nat → Int32) (f_last : Int32) (f_lastNow : Int32) (f_takes : Int32) (H : Heap) (locs : List Loc) (ls : Array Slot), wp_X10_laySchedule_b176 f_chips f_gates f_kind f_second f_source f_trial p2 p3 p4 Q (wp_X10_laySchedule_h97 f_chips f_gates f_kind f_second f_source f_trial p2 p3 p4 Q  n97) x5 x6 f_crossed f_goes f_hand f_last f_lastNow f_takes → gW D s A (wM ad cI cZ f_thrown f_text f_textSize f_place f_chips f_gates f_kind f_source f_second f_clock f_readChips f_readPins f_readGates f_readKind f_readLies f_readSource f_readSecond f_readClock f_page f_trial f_book f_doings f_kept f_isKept f_seen f_seenBehind f_seenGate f_seenWorth f_seenWas f_seed f_worth f_known f_hand f_goes f_takes f_crossed f_last f_lastNow f_states X) H locs → lv_has ls 9 [(0, .ref (ad 23)), (1, .ref (ad 11)), (2, .int p2), (3, .int p3), (4, .int p4), (5, .int x5), (6, .int x6)] → W p l e ({ frames := 2, cells := 0, slots := 0, locals := 54 } : Room) s m args below meth c H locs 0 0 Z (F0 m 176 ls []) := by
        intro x5 x6 f_crossed f_goes f_hand f_last f_lastNow f_takes H locs ls h hw hl
        unfold wp_X10_laySchedule_b176 at h
        refine lv_iconst (v := 0) hx hb dX10_laySchedule_176 (by decide) ?_
        exact J177 x5 x6 (0 : Int32) f_crossed f_goes f_hand f_last f_lastNow f_takes _ _ _ h hw (lv_sub hl [0, 1, 2, 3, 4, 5, 6] rfl)
      have L126 : ∀ (n : Nat) (x6 : Int32) (x7 : Int32) (f_crossed : Int32) (f_goes : Nat → Int32) (f_hand : Nat → Int32) (f_last : Int32) (f_lastNow : Int32) (f_takes : Int32) (H : Heap) (locs : List Loc) (ls : Array Slot), wp_X10_laySchedule_h126 f_chips f_gates f_kind f_second f_source f_trial p2 p3 p4 Q (wp_X10_laySchedule_h97 f_chips f_gates f_kind f_second f_source f_trial p2 p3 p4 Q  n97) n x6 x7 f_crossed f_goes f_hand f_last f_lastNow f_takes → gW D s A (wM ad cI cZ f_thrown f_text f_textSize f_place f_chips f_gates f_kind f_source f_second f_clock f_readChips f_readPins f_readGates f_readKind f_readLies f_readSource f_readSecond f_readClock f_page f_trial f_book f_doings f_kept f_isKept f_seen f_seenBehind f_seenGate f_seenWorth f_seenWas f_seed f_worth f_known f_hand f_goes f_takes f_crossed f_last f_lastNow f_states X) H locs → lv_has ls 9 [(0, .ref (ad 23)), (1, .ref (ad 11)), (2, .int p2), (3, .int p3), (4, .int p4), (6, .int x6), (7, .int x7)] → W p l e ({ frames := 2, cells := 0, slots := 0, locals := 54 } : Room) s m args below meth c H locs 0 0 Z (F0 m 126 ls []) := by
        intro n
        induction n with
        | zero => intro x6 x7 f_crossed f_goes f_hand f_last f_lastNow f_takes H locs ls h; exact False.elim h
        | succ n126 ih126 =>
          intro x6 x7 f_crossed f_goes f_hand f_last f_lastNow f_takes H locs ls h hw hl
          have h : wp_X10_laySchedule_b126 f_chips f_gates f_kind f_second f_source f_trial p2 p3 p4 Q (wp_X10_laySchedule_h97 f_chips f_gates f_kind f_second f_source f_trial p2 p3 p4 Q  n97) (wp_X10_laySchedule_h126 f_chips f_gates f_kind f_second f_source f_trial p2 p3 p4 Q (wp_X10_laySchedule_h97 f_chips f_gates f_kind f_second f_source f_trial p2 p3 p4 Q  n97) n126) x6 x7 f_crossed f_goes f_hand f_last f_lastNow f_takes := h
          unfold wp_X10_laySchedule_b126 at h
          refine lv_iload hx hb dX10_laySchedule_126 (lv_at hl 6 rfl) ?_
          refine lv_bipush (v := 40) hx hb dX10_laySchedule_128 (by decide) ?_
          refine lv_icmp_ge (tgt := 147) hx hb dX10_laySchedule_130 (by decide) (fun c19 => ?_) (fun c19 => ?_)
          · have h := h.1 c19
            refine lv_iconst (v := 0) hx hb dX10_laySchedule_147 (by decide) ?_
            refine lv_istore (lv' := [(5, .int (0 : Int32)), (0, .ref (ad 23)), (1, .ref (ad 11)), (2, .int p2), (3, .int p3), (4, .int p4), (6, .int x6), (7, .int x7)]) hx hb dX10_laySchedule_148 hl (by decide) rfl (fun ls hl => ?_)
            refine lv_aload_n hx hb dX10_laySchedule_150 rfl (lv_at hl 1 rfl) ?_
            refine lv_bipush (v := -9) hx hb dX10_laySchedule_151 (by decide) ?_
            refine pM_X10_163_main E hw dX10_laySchedule_153 (fun H locs hw => ?_)
            refine lv_iload hx hb dX10_laySchedule_156 (lv_at hl 6 rfl) ?_
            refine lv_iload hx hb dX10_laySchedule_158 (lv_at hl 5 rfl) ?_
            refine lv_icmp_ge (tgt := 176) hx hb dX10_laySchedule_160 (by decide) (fun c20 => ?_) (fun c20 => ?_)
            · have h := h.1 c20
              exact J176 (0 : Int32) x6 f_crossed f_goes f_hand f_last (-9 : Int32) f_takes _ _ _ h hw (lv_sub hl [1, 2, 3, 4, 5, 0, 6] rfl)
            · have h := h.2 c20
              refine lv_iload_n hx hb dX10_laySchedule_163 rfl (lv_at hl 4 rfl) ?_
              refine lv_iload hx hb dX10_laySchedule_164 (lv_at hl 6 rfl) ?_
              refine g_aI E hw (g_rS E hw (c_X10_has h _) ym_X10_has k_680 ⟨rfl, rfl⟩ ⟨Nat.le_of_ble_eq_true rfl, Nat.le_of_ble_eq_true rfl⟩ rfl hl.1 rfl (Nat.le_of_ble_eq_true rfl) ⟨Nat.zero_le _, Nat.zero_le _⟩ dX10_laySchedule_166) (fun r21 u H locs hq hw => ?_)
              obtain ⟨hu, h⟩ := hq
              rw [hu] at hw
              refine lv_if_eq (tgt := 176) hx hb dX10_laySchedule_169 (by decide) (fun c22 => ?_) (fun c22 => ?_)
              · have h := h.1 c22
                exact J176 (0 : Int32) x6 f_crossed f_goes f_hand f_last (-9 : Int32) f_takes _ _ _ h hw (lv_sub hl [1, 2, 3, 4, 5, 0, 6] rfl)
              · have h := h.2 c22
                refine lv_iconst (v := 1) hx hb dX10_laySchedule_172 (by decide) ?_
                refine lv_goto (tgt := 177) hx hb dX10_laySchedule_173 (by decide) ?_
                exact J177 (0 : Int32) x6 (1 : Int32) f_crossed f_goes f_hand f_last (-9 : Int32) f_takes _ _ _ h hw (lv_sub hl [1, 2, 3, 4, 5, 0, 6] rfl)
          · have h := h.2 c19
            refine lv_aload_n hx hb dX10_laySchedule_133 rfl (lv_at hl 0 rfl) ?_
            refine gM_X10_78_main E hw dX10_laySchedule_134 ?_
            refine lv_iload hx hb dX10_laySchedule_137 (lv_at hl 6 rfl) ?_
            refine lv_iconst (v := 0) hx hb dX10_laySchedule_139 (by decide) ?_
            refine sM_goes E hw (Or.inl rfl) h.1 dX10_laySchedule_140 (fun y23 ey23 H locs hw => ?_)
            have h := h.2 y23 ey23
            obtain ⟨v24, ev24⟩ : ∃ y : Int32, y = x7 + 1 := ⟨_, rfl⟩
            have h := h v24 ev24
            refine lv_iinc (v := v24) (lv' := [(7, .int v24), (0, .ref (ad 23)), (1, .ref (ad 11)), (2, .int p2), (3, .int p3), (4, .int p4), (6, .int x6)]) hx hb dX10_laySchedule_141 hl (k := 6) rfl (by rw [ev24]; rfl) (by decide) rfl (fun ls hl => ?_)
            refine lv_goto (tgt := 126) hx hb dX10_laySchedule_144 (by decide) ?_
            exact ih126 x6 v24 f_crossed y23 f_hand f_last f_lastNow f_takes _ _ _ h hw (lv_sub hl [1, 2, 3, 4, 5, 6, 0] rfl)
      have J116 : ∀ (x6 : Int32) (f_crossed : Int32) (f_goes : Nat → Int32) (f_hand : Nat → Int32) (f_last : Int32) (f_lastNow : Int32) (f_takes : Int32) (H : Heap) (locs : List Loc) (ls : Array Slot), wp_X10_laySchedule_b116 f_chips f_gates f_kind f_second f_source f_trial p2 p3 p4 Q (wp_X10_laySchedule_h97 f_chips f_gates f_kind f_second f_source f_trial p2 p3 p4 Q  n97) x6 f_crossed f_goes f_hand f_last f_lastNow f_takes → gW D s A (wM ad cI cZ f_thrown f_text f_textSize f_place f_chips f_gates f_kind f_source f_second f_clock f_readChips f_readPins f_readGates f_readKind f_readLies f_readSource f_readSecond f_readClock f_page f_trial f_book f_doings f_kept f_isKept f_seen f_seenBehind f_seenGate f_seenWorth f_seenWas f_seed f_worth f_known f_hand f_goes f_takes f_crossed f_last f_lastNow f_states X) H locs → lv_has ls 9 [(0, .ref (ad 23)), (1, .ref (ad 11)), (2, .int p2), (3, .int p3), (4, .int p4), (6, .int x6)] → W p l e ({ frames := 2, cells := 0, slots := 0, locals := 54 } : Room) s m args below meth c H locs 0 0 Z (F0 m 116 ls []) := by
        intro x6 f_crossed f_goes f_hand f_last f_lastNow f_takes H locs ls h hw hl
        unfold wp_X10_laySchedule_b116 at h
        refine lv_aload_n hx hb dX10_laySchedule_116 rfl (lv_at hl 0 rfl) ?_
        refine lv_aload_n hx hb dX10_laySchedule_117 rfl (lv_at hl 1 rfl) ?_
        refine lv_iload hx hb dX10_laySchedule_118 (lv_at hl 5 rfl) ?_
        refine g_aV E hw (g_rV E hw (c_X10_layReady_trial h _) ym_X10_layReady k_741 ⟨rfl, rfl⟩ ⟨Nat.le_of_ble_eq_true rfl, Nat.le_of_ble_eq_true rfl⟩ 23 rfl rfl rfl rfl hl.1 rfl (Nat.le_of_ble_eq_true rfl) ⟨Nat.zero_le _, Nat.zero_le _⟩ dX10_laySchedule_120) (fun u H locs hq hw => ?_)
        obtain ⟨y26, hu, h⟩ := hq
        rw [hu] at hw
        refine lv_iconst (v := 0) hx hb dX10_laySchedule_123 (by decide) ?_
        refine lv_istore (lv' := [(7, .int (0 : Int32)), (0, .ref (ad 23)), (1, .ref (ad 11)), (2, .int p2), (3, .int p3), (4, .int p4), (6, .int x6)]) hx hb dX10_laySchedule_124 hl (by decide) rfl (fun ls hl => ?_)
        obtain ⟨n, h⟩ := h
        exact L126 n x6 (0 : Int32) f_crossed f_goes y26 f_last f_lastNow f_takes _ _ _ h hw (lv_sub hl [1, 2, 3, 4, 5, 6, 0] rfl)
      unfold wp_X10_laySchedule_b97 at h
      refine lv_iload hx hb dX10_laySchedule_97 (lv_at hl 6 rfl) ?_
      refine lv_bipush (v := 99) hx hb dX10_laySchedule_99 (by decide) ?_
      refine lv_icmp_ge (tgt := 328) hx hb dX10_laySchedule_101 (by decide) (fun c27 => ?_) (fun c27 => ?_)
      · have h := h.1 c27
        exact hret _ _ _ _ _ ⟨_, _, _, _, _, _, rfl, h⟩ hw dX10_laySchedule_328
      · have h := h.2 c27
        refine lv_iload hx hb dX10_laySchedule_104 (lv_at hl 5 rfl) ?_
        refine lv_if_gt (tgt := 116) hx hb dX10_laySchedule_106 (by decide) (fun c28 => ?_) (fun c28 => ?_)
        · have h := h.1 c28
          exact J116 x6 f_crossed f_goes f_hand f_last f_lastNow f_takes _ _ _ h hw (lv_sub hl [0, 1, 2, 3, 4, 6] rfl)
        · have h := h.2 c28
          refine lv_iload hx hb dX10_laySchedule_109 (lv_at hl 6 rfl) ?_
          refine lv_iload hx hb dX10_laySchedule_111 (lv_at hl 4 rfl) ?_
          refine lv_icmp_gt (tgt := 328) hx hb dX10_laySchedule_113 (by decide) (fun c29 => ?_) (fun c29 => ?_)
          · have h := h.1 c29
            exact hret _ _ _ _ _ ⟨_, _, _, _, _, _, rfl, h⟩ hw dX10_laySchedule_328
          · have h := h.2 c29
            exact J116 x6 f_crossed f_goes f_hand f_last f_lastNow f_takes _ _ _ h hw (lv_sub hl [0, 1, 2, 3, 4, 6] rfl)
  have L28 : ∀ (n : Nat) (x5 : Int32) (f_crossed : Int32) (f_goes : Nat → Int32) (f_hand : Nat → Int32) (f_last : Int32) (f_lastNow : Int32) (f_takes : Int32) (H : Heap) (locs : List Loc) (ls : Array Slot), wp_X10_laySchedule_h28 f_chips f_gates f_kind f_second f_source f_trial p2 p3 p4 Q  n x5 f_crossed f_goes f_hand f_last f_lastNow f_takes → gW D s A (wM ad cI cZ f_thrown f_text f_textSize f_place f_chips f_gates f_kind f_source f_second f_clock f_readChips f_readPins f_readGates f_readKind f_readLies f_readSource f_readSecond f_readClock f_page f_trial f_book f_doings f_kept f_isKept f_seen f_seenBehind f_seenGate f_seenWorth f_seenWas f_seed f_worth f_known f_hand f_goes f_takes f_crossed f_last f_lastNow f_states X) H locs → lv_has ls 9 [(0, .ref (ad 23)), (1, .ref (ad 11)), (2, .int p2), (3, .int p3), (4, .int p4), (5, .int x5)] → W p l e ({ frames := 2, cells := 0, slots := 0, locals := 54 } : Room) s m args below meth c H locs 0 0 Z (F0 m 28 ls []) := by
    intro n
    induction n with
    | zero => intro x5 f_crossed f_goes f_hand f_last f_lastNow f_takes H locs ls h; exact False.elim h
    | succ n28 ih28 =>
      intro x5 f_crossed f_goes f_hand f_last f_lastNow f_takes H locs ls h hw hl
      have h : wp_X10_laySchedule_b28 f_chips f_gates f_kind f_second f_source f_trial p2 p3 p4 Q (wp_X10_laySchedule_h28 f_chips f_gates f_kind f_second f_source f_trial p2 p3 p4 Q  n28) x5 f_crossed f_goes f_hand f_last f_lastNow f_takes := h
      have J68 : ∀ (x5 : Int32) (s1 : Int32) (s2 : Int32) (f_crossed : Int32) (f_goes : Nat → Int32) (f_hand : Nat → Int32) (f_last : Int32) (f_lastNow : Int32) (f_takes : Int32) (H : Heap) (locs : List Loc) (ls : Array Slot), wp_X10_laySchedule_b68 f_chips f_gates f_kind f_second f_source f_trial p2 p3 p4 Q (wp_X10_laySchedule_h28 f_chips f_gates f_kind f_second f_source f_trial p2 p3 p4 Q  n28) x5 s1 s2 f_crossed f_goes f_hand f_last f_lastNow f_takes → gW D s A (wM ad cI cZ f_thrown f_text f_textSize f_place f_chips f_gates f_kind f_source f_second f_clock f_readChips f_readPins f_readGates f_readKind f_readLies f_readSource f_readSecond f_readClock f_page f_trial f_book f_doings f_kept f_isKept f_seen f_seenBehind f_seenGate f_seenWorth f_seenWas f_seed f_worth f_known f_hand f_goes f_takes f_crossed f_last f_lastNow f_states X) H locs → lv_has ls 9 [(0, .ref (ad 23)), (1, .ref (ad 11)), (2, .int p2), (3, .int p3), (4, .int p4), (5, .int x5)] → W p l e ({ frames := 2, cells := 0, slots := 0, locals := 54 } : Room) s m args below meth c H locs 0 0 Z (F0 m 68 ls [.int s2, .int s1, .ref (ad 2)]) := by
        intro x5 s1 s2 f_crossed f_goes f_hand f_last f_lastNow f_takes H locs ls h hw hl
        unfold wp_X10_laySchedule_b68 at h
        refine sM_hand E hw h.1 dX10_laySchedule_68 (fun y30 ey30 H locs hw => ?_)
        have h := h.2 y30 ey30
        obtain ⟨v31, ev31⟩ : ∃ y : Int32, y = x5 + 1 := ⟨_, rfl⟩
        have h := h v31 ev31
        refine lv_iinc (v := v31) (lv' := [(5, .int v31), (0, .ref (ad 23)), (1, .ref (ad 11)), (2, .int p2), (3, .int p3), (4, .int p4)]) hx hb dX10_laySchedule_69 hl (k := 5) rfl (by rw [ev31]; rfl) (by decide) rfl (fun ls hl => ?_)
        refine lv_goto (tgt := 28) hx hb dX10_laySchedule_72 (by decide) ?_
        exact ih28 v31 f_crossed f_goes y30 f_last f_lastNow f_takes _ _ _ h hw (lv_sub hl [1, 2, 3, 4, 5, 0] rfl)
      unfold wp_X10_laySchedule_b28 at h
      refine lv_iload hx hb dX10_laySchedule_28 (lv_at hl 5 rfl) ?_
      refine lv_aload_n hx hb dX10_laySchedule_30 rfl (lv_at hl 0 rfl) ?_
      refine gM_X10_87_main E hw dX10_laySchedule_31 ?_
      refine lv_icmp_ge (tgt := 75) hx hb dX10_laySchedule_34 (by decide) (fun c32 => ?_) (fun c32 => ?_)
      · have h := h.1 c32
        refine lv_aload_n hx hb dX10_laySchedule_75 rfl (lv_at hl 0 rfl) ?_
        refine lv_iconst (v := 0) hx hb dX10_laySchedule_76 (by decide) ?_
        refine pM_X10_166_main E hw dX10_laySchedule_77 (fun H locs hw => ?_)
        refine lv_aload_n hx hb dX10_laySchedule_80 rfl (lv_at hl 0 rfl) ?_
        refine lv_iconst (v := 0) hx hb dX10_laySchedule_81 (by decide) ?_
        refine pM_X10_169_main E hw dX10_laySchedule_82 (fun H locs hw => ?_)
        refine lv_aload_n hx hb dX10_laySchedule_85 rfl (lv_at hl 0 rfl) ?_
        refine lv_bipush (v := -9) hx hb dX10_laySchedule_86 (by decide) ?_
        refine pM_X10_172_main E hw dX10_laySchedule_88 (fun H locs hw => ?_)
        refine lv_iconst (v := 1) hx hb dX10_laySchedule_91 (by decide) ?_
        refine lv_istore (lv' := [(5, .int (1 : Int32)), (0, .ref (ad 23)), (1, .ref (ad 11)), (2, .int p2), (3, .int p3), (4, .int p4)]) hx hb dX10_laySchedule_92 hl (by decide) rfl (fun ls hl => ?_)
        refine lv_iconst (v := 0) hx hb dX10_laySchedule_94 (by decide) ?_
        refine lv_istore (lv' := [(6, .int (0 : Int32)), (5, .int (1 : Int32)), (0, .ref (ad 23)), (1, .ref (ad 11)), (2, .int p2), (3, .int p3), (4, .int p4)]) hx hb dX10_laySchedule_95 hl (by decide) rfl (fun ls hl => ?_)
        obtain ⟨n, h⟩ := h
        exact L97 n (1 : Int32) (0 : Int32) (0 : Int32) f_goes f_hand (-9 : Int32) f_lastNow (0 : Int32) _ _ _ h hw (lv_sub hl [2, 3, 4, 5, 6, 1, 0] rfl)
      · have h := h.2 c32
        refine lv_aload_n hx hb dX10_laySchedule_37 rfl (lv_at hl 0 rfl) ?_
        refine gM_X10_75_main E hw dX10_laySchedule_38 ?_
        refine lv_iconst (v := 4) hx hb dX10_laySchedule_41 (by decide) ?_
        refine lv_iload hx hb dX10_laySchedule_42 (lv_at hl 5 rfl) ?_
        refine lv_imul hx hb dX10_laySchedule_44 ?_
        refine lv_aload_n hx hb dX10_laySchedule_45 rfl (lv_at hl 1 rfl) ?_
        refine lv_bipush (v := 10) hx hb dX10_laySchedule_46 (by decide) ?_
        refine lv_iload hx hb dX10_laySchedule_48 (lv_at hl 5 rfl) ?_
        refine lv_iadd hx hb dX10_laySchedule_50 ?_
        refine lM_trial E hw h.1 dX10_laySchedule_51 ?_
        have h := h.2
        refine lv_iadd hx hb dX10_laySchedule_52 ?_
        refine lv_aload_n hx hb dX10_laySchedule_53 rfl (lv_at hl 0 rfl) ?_
        refine lv_iload hx hb dX10_laySchedule_54 (lv_at hl 5 rfl) ?_
        refine g_aI E hw (g_rV E hw (c_X10_stands h _) ym_X10_stands k_677 ⟨rfl, rfl⟩ ⟨Nat.le_of_ble_eq_true rfl, Nat.le_of_ble_eq_true rfl⟩ 23 rfl rfl rfl rfl hl.1 rfl (Nat.le_of_ble_eq_true rfl) ⟨Nat.zero_le _, Nat.zero_le _⟩ dX10_laySchedule_56) (fun r33 u H locs hq hw => ?_)
        obtain ⟨hu, h⟩ := hq
        rw [hu] at hw
        refine lv_if_eq (tgt := 66) hx hb dX10_laySchedule_59 (by decide) (fun c34 => ?_) (fun c34 => ?_)
        · have h := h.1 c34
          refine lv_bipush (v := -9) hx hb dX10_laySchedule_66 (by decide) ?_
          exact J68 x5 ((((4 : Int32) * x5) + (f_trial (((10 : Int32) + x5)).toNatClampNeg))) (-9 : Int32) f_crossed f_goes f_hand f_last f_lastNow f_takes _ _ _ h hw (lv_sub hl [0, 1, 2, 3, 4, 5] rfl)
        · have h := h.2 c34
          refine lv_iconst (v := 0) hx hb dX10_laySchedule_62 (by decide) ?_
          refine lv_goto (tgt := 68) hx hb dX10_laySchedule_63 (by decide) ?_
          exact J68 x5 ((((4 : Int32) * x5) + (f_trial (((10 : Int32) + x5)).toNatClampNeg))) (0 : Int32) f_crossed f_goes f_hand f_last f_lastNow f_takes _ _ _ h hw (lv_sub hl [0, 1, 2, 3, 4, 5] rfl)
  have L3 : ∀ (n : Nat) (x5 : Int32) (f_crossed : Int32) (f_goes : Nat → Int32) (f_hand : Nat → Int32) (f_last : Int32) (f_lastNow : Int32) (f_takes : Int32) (H : Heap) (locs : List Loc) (ls : Array Slot), wp_X10_laySchedule_h3 f_chips f_gates f_kind f_second f_source f_trial p2 p3 p4 Q  n x5 f_crossed f_goes f_hand f_last f_lastNow f_takes → gW D s A (wM ad cI cZ f_thrown f_text f_textSize f_place f_chips f_gates f_kind f_source f_second f_clock f_readChips f_readPins f_readGates f_readKind f_readLies f_readSource f_readSecond f_readClock f_page f_trial f_book f_doings f_kept f_isKept f_seen f_seenBehind f_seenGate f_seenWorth f_seenWas f_seed f_worth f_known f_hand f_goes f_takes f_crossed f_last f_lastNow f_states X) H locs → lv_has ls 9 [(0, .ref (ad 23)), (1, .ref (ad 11)), (2, .int p2), (3, .int p3), (4, .int p4), (5, .int x5)] → W p l e ({ frames := 2, cells := 0, slots := 0, locals := 54 } : Room) s m args below meth c H locs 0 0 Z (F0 m 3 ls []) := by
    intro n
    induction n with
    | zero => intro x5 f_crossed f_goes f_hand f_last f_lastNow f_takes H locs ls h; exact False.elim h
    | succ n3 ih3 =>
      intro x5 f_crossed f_goes f_hand f_last f_lastNow f_takes H locs ls h hw hl
      have h : wp_X10_laySchedule_b3 f_chips f_gates f_kind f_second f_source f_trial p2 p3 p4 Q (wp_X10_laySchedule_h3 f_chips f_gates f_kind f_second f_source f_trial p2 p3 p4 Q  n3) x5 f_crossed f_goes f_hand f_last f_lastNow f_takes := h
      unfold wp_X10_laySchedule_b3 at h
      refine lv_iload hx hb dX10_laySchedule_3 (lv_at hl 5 rfl) ?_
      refine lv_bipush (v := 40) hx hb dX10_laySchedule_5 (by decide) ?_
      refine lv_icmp_ge (tgt := 25) hx hb dX10_laySchedule_7 (by decide) (fun c35 => ?_) (fun c35 => ?_)
      · have h := h.1 c35
        refine lv_iconst (v := 0) hx hb dX10_laySchedule_25 (by decide) ?_
        refine lv_istore (lv' := [(5, .int (0 : Int32)), (0, .ref (ad 23)), (1, .ref (ad 11)), (2, .int p2), (3, .int p3), (4, .int p4)]) hx hb dX10_laySchedule_26 hl (by decide) rfl (fun ls hl => ?_)
        obtain ⟨n, h⟩ := h
        exact L28 n (0 : Int32) f_crossed f_goes f_hand f_last f_lastNow f_takes _ _ _ h hw (lv_sub hl [1, 2, 3, 4, 5, 0] rfl)
      · have h := h.2 c35
        refine lv_aload_n hx hb dX10_laySchedule_10 rfl (lv_at hl 0 rfl) ?_
        refine gM_X10_75_main E hw dX10_laySchedule_11 ?_
        refine lv_iload hx hb dX10_laySchedule_14 (lv_at hl 5 rfl) ?_
        refine lv_bipush (v := -9) hx hb dX10_laySchedule_16 (by decide) ?_
        refine sM_hand E hw h.1 dX10_laySchedule_18 (fun y36 ey36 H locs hw => ?_)
        have h := h.2 y36 ey36
        obtain ⟨v37, ev37⟩ : ∃ y : Int32, y = x5 + 1 := ⟨_, rfl⟩
        have h := h v37 ev37
        refine lv_iinc (v := v37) (lv' := [(5, .int v37), (0, .ref (ad 23)), (1, .ref (ad 11)), (2, .int p2), (3, .int p3), (4, .int p4)]) hx hb dX10_laySchedule_19 hl (k := 5) rfl (by rw [ev37]; rfl) (by decide) rfl (fun ls hl => ?_)
        refine lv_goto (tgt := 3) hx hb dX10_laySchedule_22 (by decide) ?_
        exact ih3 v37 f_crossed f_goes y36 f_last f_lastNow f_takes _ _ _ h hw (lv_sub hl [1, 2, 3, 4, 5, 0] rfl)
  unfold wp_X10_laySchedule at h
  refine lv_iconst (v := 0) hx hb dX10_laySchedule_0 (by decide) ?_
  refine lv_istore (lv' := [(5, .int (0 : Int32)), (0, .ref (ad 23)), (1, .ref (ad 11)), (2, .int p2), (3, .int p3), (4, .int p4)]) hx hb dX10_laySchedule_1 hl (by decide) rfl (fun ls hl => ?_)
  obtain ⟨n, h⟩ := h
  exact L3 n (0 : Int32) f_crossed f_goes f_hand f_last f_lastNow f_takes _ _ _ h hw (lv_sub hl [1, 2, 3, 4, 5, 0] rfl)
set_option maxRecDepth 100000 in
set_option maxHeartbeats 4000000 in
theorem c_X10_best {l : Launch} {D : va_G} {cI cZ : ClassId} {ad : Nat → Nat} {f_thrown : Int32} {f_text : Nat → Int32} {f_textSize : Int32} {f_place : Int32} {f_chips : Int32} {f_gates : Int32} {f_kind : Nat → Int32} {f_source : Nat → Int32} {f_second : Nat → Int32} {f_clock : Nat → Int32} {f_readChips : Int32} {f_readPins : Int32} {f_readGates : Int32} {f_readKind : Nat → Int32} {f_readLies : Nat → Int32} {f_readSource : Nat → Int32} {f_readSecond : Nat → Int32} {f_readClock : Nat → Int32} {f_page : Nat → Int32} {f_trial : Nat → Int32} {f_book : Nat → Int32} {f_doings : Int32} {f_kept : Nat → Int32} {f_isKept : Nat → Int32} {f_seen : Int32} {f_seenBehind : Nat → Int32} {f_seenGate : Nat → Int32} {f_seenWorth : Nat → Int32} {f_seenWas : Nat → Int32} {f_seed : Int64} {f_worth : Nat → Int32} {f_known : Int32} {f_hand : Nat → Int32} {f_goes : Nat → Int32} {f_takes : Int32} {f_crossed : Int32} {f_last : Int32} {f_lastNow : Int32} {f_states : Nat → Int32} {X : va_W} {Q : Int32 → Int32 → (Nat → Int32) → (Nat → Int32) → Int32 → Int32 → Int32 → (Nat → Int32) → Prop} (h : wp_X10_best f_chips f_crossed f_gates f_goes f_hand f_kind f_last f_lastNow f_page f_second f_source f_takes f_trial Q) : CtI l yX10_best cX10_best 6 (some .int) ({ frames := 3, cells := 0, slots := 0, locals := 82 } : Room) D [(cI, .int), (cZ, .boolean)] [.ref (ad 23)] (wM ad cI cZ f_thrown f_text f_textSize f_place f_chips f_gates f_kind f_source f_second f_clock f_readChips f_readPins f_readGates f_readKind f_readLies f_readSource f_readSecond f_readClock f_page f_trial f_book f_doings f_kept f_isKept f_seen f_seenBehind f_seenGate f_seenWorth f_seenWas f_seed f_worth f_known f_hand f_goes f_takes f_crossed f_last f_lastNow f_states X) (fun r u => ∃ w0 w1 w2 w3 w4 w5 w6, u = (wM ad cI cZ f_thrown f_text f_textSize f_place f_chips f_gates f_kind f_source f_second f_clock f_readChips f_readPins f_readGates f_readKind f_readLies f_readSource f_readSecond f_readClock f_page w6 f_book f_doings f_kept f_isKept f_seen f_seenBehind f_seenGate f_seenWorth f_seenWas f_seed f_worth f_known w2 w1 w5 w0 w3 w4 f_states X) ∧ Q r w0 w1 w2 w3 w4 w5 w6) := by
  refine CtI.of (by decide) rfl (Nat.le_of_ble_eq_true rfl) ?_
  intro p e s m args below meth c A Z E hret ls hl hw
  have E : gE p m c cX10_best 6 s args RX10 D [(cI, .int), (cZ, .boolean)] A := E
  have hx := E.1.1
  have hb := E.1.2.1
  have hl : lv_has ls 6 [(0, .ref (ad 23))] := hl
  have L33 : ∀ (n : Nat) (x1 : Int32) (x2 : Int32) (x3 : Int32) (x4 : Int32) (f_crossed : Int32) (f_goes : Nat → Int32) (f_hand : Nat → Int32) (f_last : Int32) (f_lastNow : Int32) (f_takes : Int32) (f_trial : Nat → Int32) (H : Heap) (locs : List Loc) (ls : Array Slot), wp_X10_best_h33 f_chips f_gates f_kind f_page f_second f_source Q  n x1 x2 x3 x4 f_crossed f_goes f_hand f_last f_lastNow f_takes f_trial → gW D s A (wM ad cI cZ f_thrown f_text f_textSize f_place f_chips f_gates f_kind f_source f_second f_clock f_readChips f_readPins f_readGates f_readKind f_readLies f_readSource f_readSecond f_readClock f_page f_trial f_book f_doings f_kept f_isKept f_seen f_seenBehind f_seenGate f_seenWorth f_seenWas f_seed f_worth f_known f_hand f_goes f_takes f_crossed f_last f_lastNow f_states X) H locs → lv_has ls 6 [(0, .ref (ad 23)), (1, .int x1), (2, .int x2), (3, .int x3), (4, .int x4)] → W p l e ({ frames := 3, cells := 0, slots := 0, locals := 82 } : Room) s m args below meth c H locs 0 0 Z (F0 m 33 ls []) := by
    intro n
    induction n with
    | zero => intro x1 x2 x3 x4 f_crossed f_goes f_hand f_last f_lastNow f_takes f_trial H locs ls h; exact False.elim h
    | succ n33 ih33 =>
      intro x1 x2 x3 x4 f_crossed f_goes f_hand f_last f_lastNow f_takes f_trial H locs ls h hw hl
      have h : wp_X10_best_b33 f_chips f_gates f_kind f_page f_second f_source Q (wp_X10_best_h33 f_chips f_gates f_kind f_page f_second f_source Q  n33) x1 x2 x3 x4 f_crossed f_goes f_hand f_last f_lastNow f_takes f_trial := h
      have L45 : ∀ (n : Nat) (x1 : Int32) (x2 : Int32) (x3 : Int32) (x4 : Int32) (x5 : Int32) (f_crossed : Int32) (f_goes : Nat → Int32) (f_hand : Nat → Int32) (f_last : Int32) (f_lastNow : Int32) (f_takes : Int32) (f_trial : Nat → Int32) (H : Heap) (locs : List Loc) (ls : Array Slot), wp_X10_best_h45 f_chips f_gates f_kind f_page f_second f_source Q (wp_X10_best_h33 f_chips f_gates f_kind f_page f_second f_source Q  n33) n x1 x2 x3 x4 x5 f_crossed f_goes f_hand f_last f_lastNow f_takes f_trial → gW D s A (wM ad cI cZ f_thrown f_text f_textSize f_place f_chips f_gates f_kind f_source f_second f_clock f_readChips f_readPins f_readGates f_readKind f_readLies f_readSource f_readSecond f_readClock f_page f_trial f_book f_doings f_kept f_isKept f_seen f_seenBehind f_seenGate f_seenWorth f_seenWas f_seed f_worth f_known f_hand f_goes f_takes f_crossed f_last f_lastNow f_states X) H locs → lv_has ls 6 [(0, .ref (ad 23)), (1, .int x1), (2, .int x2), (3, .int x3), (4, .int x4), (5, .int x5)] → W p l e ({ frames := 3, cells := 0, slots := 0, locals := 82 } : Room) s m args below meth c H locs 0 0 Z (F0 m 45 ls []) := by
        intro n
        induction n with
        | zero => intro x1 x2 x3 x4 x5 f_crossed f_goes f_hand f_last f_lastNow f_takes f_trial H locs ls h; exact False.elim h
        | succ n45 ih45 =>
          intro x1 x2 x3 x4 x5 f_crossed f_goes f_hand f_last f_lastNow f_takes f_trial H locs ls h hw hl
          have h : wp_X10_best_b45 f_chips f_gates f_kind f_page f_second f_source Q (wp_X10_best_h33 f_chips f_gates f_kind f_page f_second f_source Q  n33) (wp_X10_best_h45 f_chips f_gates f_kind f_page f_second f_source Q (wp_X10_best_h33 f_chips f_gates f_kind f_page f_second f_source Q  n33) n45) x1 x2 x3 x4 x5 f_crossed f_goes f_hand f_last f_lastNow f_takes f_trial := h
          have J145 : ∀ (x1 : Int32) (x2 : Int32) (x3 : Int32) (x4 : Int32) (x5 : Int32) (f_crossed : Int32) (f_goes : Nat → Int32) (f_hand : Nat → Int32) (f_last : Int32) (f_lastNow : Int32) (f_takes : Int32) (f_trial : Nat → Int32) (H : Heap) (locs : List Loc) (ls : Array Slot), wp_X10_best_b145 f_chips f_gates f_kind f_page f_second f_source Q (wp_X10_best_h33 f_chips f_gates f_kind f_page f_second f_source Q  n33) (wp_X10_best_h45 f_chips f_gates f_kind f_page f_second f_source Q (wp_X10_best_h33 f_chips f_gates f_kind f_page f_second f_source Q  n33) n45) x1 x2 x3 x4 x5 f_crossed f_goes f_hand f_last f_lastNow f_takes f_trial → gW D s A (wM ad cI cZ f_thrown f_text f_textSize f_place f_chips f_gates f_kind f_source f_second f_clock f_readChips f_readPins f_readGates f_readKind f_readLies f_readSource f_readSecond f_readClock f_page f_trial f_book f_doings f_kept f_isKept f_seen f_seenBehind f_seenGate f_seenWorth f_seenWas f_seed f_worth f_known f_hand f_goes f_takes f_crossed f_last f_lastNow f_states X) H locs → lv_has ls 6 [(0, .ref (ad 23)), (1, .int x1), (2, .int x2), (3, .int x3), (4, .int x4), (5, .int x5)] → W p l e ({ frames := 3, cells := 0, slots := 0, locals := 82 } : Room) s m args below meth c H locs 0 0 Z (F0 m 145 ls []) := by
            intro x1 x2 x3 x4 x5 f_crossed f_goes f_hand f_last f_lastNow f_takes f_trial H locs ls h hw hl
            unfold wp_X10_best_b145 at h
            obtain ⟨v1, ev1⟩ : ∃ y : Int32, y = x5 + 1 := ⟨_, rfl⟩
            have h := h v1 ev1
            refine lv_iinc (v := v1) (lv' := [(5, .int v1), (0, .ref (ad 23)), (1, .int x1), (2, .int x2), (3, .int x3), (4, .int x4)]) hx hb dX10_best_145 hl (k := 5) rfl (by rw [ev1]; rfl) (by decide) rfl (fun ls hl => ?_)
            refine lv_goto (tgt := 45) hx hb dX10_best_148 (by decide) ?_
            exact ih45 x1 x2 x3 x4 v1 f_crossed f_goes f_hand f_last f_lastNow f_takes f_trial _ _ _ h hw (lv_sub hl [1, 2, 3, 4, 5, 0] rfl)
          have J126 : ∀ (x4 : Int32) (x5 : Int32) (f_crossed : Int32) (f_goes : Nat → Int32) (f_hand : Nat → Int32) (f_last : Int32) (f_lastNow : Int32) (f_takes : Int32) (f_trial : Nat → Int32) (H : Heap) (locs : List Loc) (ls : Array Slot), wp_X10_best_b126 f_chips f_gates f_kind f_page f_second f_source Q (wp_X10_best_h33 f_chips f_gates f_kind f_page f_second f_source Q  n33) (wp_X10_best_h45 f_chips f_gates f_kind f_page f_second f_source Q (wp_X10_best_h33 f_chips f_gates f_kind f_page f_second f_source Q  n33) n45) x4 x5 f_crossed f_goes f_hand f_last f_lastNow f_takes f_trial → gW D s A (wM ad cI cZ f_thrown f_text f_textSize f_place f_chips f_gates f_kind f_source f_second f_clock f_readChips f_readPins f_readGates f_readKind f_readLies f_readSource f_readSecond f_readClock f_page f_trial f_book f_doings f_kept f_isKept f_seen f_seenBehind f_seenGate f_seenWorth f_seenWas f_seed f_worth f_known f_hand f_goes f_takes f_crossed f_last f_lastNow f_states X) H locs → lv_has ls 6 [(0, .ref (ad 23)), (4, .int x4), (5, .int x5)] → W p l e ({ frames := 3, cells := 0, slots := 0, locals := 82 } : Room) s m args below meth c H locs 0 0 Z (F0 m 126 ls []) := by
            intro x4 x5 f_crossed f_goes f_hand f_last f_lastNow f_takes f_trial H locs ls h hw hl
            unfold wp_X10_best_b126 at h
            refine lv_bipush (v := 10) hx hb dX10_best_126 (by decide) ?_
            refine lv_iload hx hb dX10_best_128 (lv_at hl 1 rfl) ?_
            refine lv_imul hx hb dX10_best_130 ?_
            refine lv_iload hx hb dX10_best_131 (lv_at hl 2 rfl) ?_
            refine lv_iadd hx hb dX10_best_133 ?_
            refine lv_topi (fun v2 ev2 => ?_)
            have h := h v2 ev2
            refine lv_istore_n (lv' := [(1, .int v2), (0, .ref (ad 23)), (4, .int x4), (5, .int x5)]) hx hb dX10_best_134 rfl hl (by decide) rfl (fun ls hl => ?_)
            refine lv_aload_n hx hb dX10_best_135 rfl (lv_at hl 1 rfl) ?_
            refine gM_X10_166_main E hw dX10_best_136 ?_
            refine lv_istore_n (lv' := [(2, .int f_takes), (1, .int v2), (0, .ref (ad 23)), (4, .int x4), (5, .int x5)]) hx hb dX10_best_139 rfl hl (by decide) rfl (fun ls hl => ?_)
            refine lv_aload_n hx hb dX10_best_140 rfl (lv_at hl 2 rfl) ?_
            refine gM_X10_169_main E hw dX10_best_141 ?_
            refine lv_istore_n (lv' := [(3, .int f_crossed), (2, .int f_takes), (1, .int v2), (0, .ref (ad 23)), (4, .int x4), (5, .int x5)]) hx hb dX10_best_144 rfl hl (by decide) rfl (fun ls hl => ?_)
            exact J145 v2 f_takes f_crossed x4 x5 f_crossed f_goes f_hand f_last f_lastNow f_takes f_trial _ _ _ h hw (lv_sub hl [3, 2, 1, 0, 4, 5] rfl)
          unfold wp_X10_best_b45 at h
          refine lv_iload hx hb dX10_best_45 (lv_at hl 5 rfl) ?_
          refine lv_aload_n hx hb dX10_best_47 rfl (lv_at hl 0 rfl) ?_
          refine gM_X10_13_main E hw dX10_best_48 ?_
          refine lv_icmp_ge (tgt := 151) hx hb dX10_best_51 (by decide) (fun c3 => ?_) (fun c3 => ?_)
          · have h := h.1 c3
            obtain ⟨v4, ev4⟩ : ∃ y : Int32, y = x4 + 1 := ⟨_, rfl⟩
            have h := h v4 ev4
            refine lv_iinc (v := v4) (lv' := [(4, .int v4), (0, .ref (ad 23)), (1, .int x1), (2, .int x2), (3, .int x3), (5, .int x5)]) hx hb dX10_best_151 hl (k := 4) rfl (by rw [ev4]; rfl) (by decide) rfl (fun ls hl => ?_)
            refine lv_goto (tgt := 33) hx hb dX10_best_154 (by decide) ?_
            exact ih33 x1 x2 x3 v4 f_crossed f_goes f_hand f_last f_lastNow f_takes f_trial _ _ _ h hw (lv_sub hl [1, 2, 3, 4, 0] rfl)
          · have h := h.2 c3
            refine lv_iload hx hb dX10_best_54 (lv_at hl 5 rfl) ?_
            refine lv_aload_n hx hb dX10_best_56 rfl (lv_at hl 0 rfl) ?_
            refine gM_X10_44_main E hw dX10_best_57 ?_
            refine lv_bipush (v := 10) hx hb dX10_best_60 (by decide) ?_
            refine lv_iload hx hb dX10_best_62 (lv_at hl 4 rfl) ?_
            refine lv_iadd hx hb dX10_best_64 ?_
            refine lM_page E hw h.1 dX10_best_65 ?_
            have h := h.2
            refine lv_icmp_eq (tgt := 145) hx hb dX10_best_66 (by decide) (fun c5 => ?_) (fun c5 => ?_)
            · have h := h.1 c5
              exact J145 x1 x2 x3 x4 x5 f_crossed f_goes f_hand f_last f_lastNow f_takes f_trial _ _ _ h hw (lv_sub hl [0, 1, 2, 3, 4, 5] rfl)
            · have h := h.2 c5
              refine lv_aload_n hx hb dX10_best_69 rfl (lv_at hl 0 rfl) ?_
              refine g_aV E hw (g_rV E hw (c_X10_layTrial h _) ym_X10_layTrial k_724 ⟨rfl, rfl⟩ ⟨Nat.le_of_ble_eq_true rfl, Nat.le_of_ble_eq_true rfl⟩ 23 rfl rfl rfl rfl hl.1 rfl (Nat.le_of_ble_eq_true rfl) ⟨Nat.zero_le _, Nat.zero_le _⟩ dX10_best_70) (fun u H locs hq hw => ?_)
              obtain ⟨y7, hu, h⟩ := hq
              rw [hu] at hw
              refine lv_aload_n hx hb dX10_best_73 rfl (lv_at hl 0 rfl) ?_
              refine gM_X10_47_main E hw dX10_best_74 ?_
              refine lv_bipush (v := 10) hx hb dX10_best_77 (by decide) ?_
              refine lv_iload hx hb dX10_best_79 (lv_at hl 4 rfl) ?_
              refine lv_iadd hx hb dX10_best_81 ?_
              refine lv_iload hx hb dX10_best_82 (lv_at hl 5 rfl) ?_
              refine sM_trial E hw h.1 dX10_best_84 (fun y8 ey8 H locs hw => ?_)
              have h := h.2 y8 ey8
              refine lv_aload_n hx hb dX10_best_85 rfl (lv_at hl 0 rfl) ?_
              refine lv_aload_n hx hb dX10_best_86 rfl (lv_at hl 0 rfl) ?_
              refine gM_X10_47_main E hw dX10_best_87 ?_
              refine lv_aload_n hx hb dX10_best_90 rfl (lv_at hl 0 rfl) ?_
              refine gM_X10_47_main E hw dX10_best_91 ?_
              refine lv_bipush (v := 20) hx hb dX10_best_94 (by decide) ?_
              refine lM_trial E hw h.1 dX10_best_96 ?_
              have h := h.2
              refine lv_iconst (v := 0) hx hb dX10_best_97 (by decide) ?_
              refine lv_iconst (v := 0) hx hb dX10_best_98 (by decide) ?_
              refine g_aV E hw (g_rV E hw (c_X10_laySchedule_trial h _) ym_X10_laySchedule k_738 ⟨rfl, rfl⟩ ⟨Nat.le_of_ble_eq_true rfl, Nat.le_of_ble_eq_true rfl⟩ 23 rfl rfl rfl rfl hl.1 rfl (Nat.le_of_ble_eq_true rfl) ⟨Nat.zero_le _, Nat.zero_le _⟩ dX10_best_99) (fun u H locs hq hw => ?_)
              obtain ⟨y10, y11, y12, y13, y14, y15, hu, h⟩ := hq
              rw [hu] at hw
              refine lv_aload_n hx hb dX10_best_102 rfl (lv_at hl 0 rfl) ?_
              refine gM_X10_166_main E hw dX10_best_103 ?_
              refine lv_iload_n hx hb dX10_best_106 rfl (lv_at hl 2 rfl) ?_
              refine lv_icmp_lt (tgt := 126) hx hb dX10_best_107 (by decide) (fun c16 => ?_) (fun c16 => ?_)
              · have h := h.1 c16
                exact J126 x4 x5 y10 y11 y12 y13 y14 y15 y8 _ _ _ h hw (lv_sub hl [0, 4, 5] rfl)
              · have h := h.2 c16
                refine lv_aload_n hx hb dX10_best_110 rfl (lv_at hl 0 rfl) ?_
                refine gM_X10_166_main E hw dX10_best_111 ?_
                refine lv_iload_n hx hb dX10_best_114 rfl (lv_at hl 2 rfl) ?_
                refine lv_icmp_ne (tgt := 145) hx hb dX10_best_115 (by decide) (fun c17 => ?_) (fun c17 => ?_)
                · have h := h.1 c17
                  exact J145 x1 x2 x3 x4 x5 y10 y11 y12 y13 y14 y15 y8 _ _ _ h hw (lv_sub hl [0, 1, 2, 3, 4, 5] rfl)
                · have h := h.2 c17
                  refine lv_aload_n hx hb dX10_best_118 rfl (lv_at hl 0 rfl) ?_
                  refine gM_X10_169_main E hw dX10_best_119 ?_
                  refine lv_iload_n hx hb dX10_best_122 rfl (lv_at hl 3 rfl) ?_
                  refine lv_icmp_ge (tgt := 145) hx hb dX10_best_123 (by decide) (fun c18 => ?_) (fun c18 => ?_)
                  · have h := h.1 c18
                    exact J145 x1 x2 x3 x4 x5 y10 y11 y12 y13 y14 y15 y8 _ _ _ h hw (lv_sub hl [0, 1, 2, 3, 4, 5] rfl)
                  · have h := h.2 c18
                    exact J126 x4 x5 y10 y11 y12 y13 y14 y15 y8 _ _ _ h hw (lv_sub hl [0, 4, 5] rfl)
      unfold wp_X10_best_b33 at h
      refine lv_iload hx hb dX10_best_33 (lv_at hl 4 rfl) ?_
      refine lv_aload_n hx hb dX10_best_35 rfl (lv_at hl 0 rfl) ?_
      refine gM_X10_87_main E hw dX10_best_36 ?_
      refine lv_icmp_ge (tgt := 157) hx hb dX10_best_39 (by decide) (fun c19 => ?_) (fun c19 => ?_)
      · have h := h.1 c19
        refine lv_iload_n hx hb dX10_best_157 rfl (lv_at hl 1 rfl) ?_
        exact hret _ _ _ _ _ _ ⟨_, _, _, _, _, _, _, rfl, h⟩ hw dX10_best_158
      · have h := h.2 c19
        refine lv_iconst (v := 0) hx hb dX10_best_42 (by decide) ?_
        refine lv_istore (lv' := [(5, .int (0 : Int32)), (0, .ref (ad 23)), (1, .int x1), (2, .int x2), (3, .int x3), (4, .int x4)]) hx hb dX10_best_43 hl (by decide) rfl (fun ls hl => ?_)
        obtain ⟨n, h⟩ := h
        exact L45 n x1 x2 x3 x4 (0 : Int32) f_crossed f_goes f_hand f_last f_lastNow f_takes f_trial _ _ _ h hw (lv_sub hl [1, 2, 3, 4, 5, 0] rfl)
  unfold wp_X10_best at h
  refine lv_aload_n hx hb dX10_best_0 rfl (lv_at hl 0 rfl) ?_
  refine lv_aload_n hx hb dX10_best_1 rfl (lv_at hl 0 rfl) ?_
  refine gM_X10_44_main E hw dX10_best_2 ?_
  refine lv_aload_n hx hb dX10_best_5 rfl (lv_at hl 0 rfl) ?_
  refine gM_X10_44_main E hw dX10_best_6 ?_
  refine lv_bipush (v := 20) hx hb dX10_best_9 (by decide) ?_
  refine lM_page E hw h.1 dX10_best_11 ?_
  have h := h.2
  refine lv_iconst (v := 0) hx hb dX10_best_12 (by decide) ?_
  refine lv_iconst (v := 0) hx hb dX10_best_13 (by decide) ?_
  refine g_aV E hw (g_rV E hw (c_X10_laySchedule_page h _) ym_X10_laySchedule k_738 ⟨rfl, rfl⟩ ⟨Nat.le_of_ble_eq_true rfl, Nat.le_of_ble_eq_true rfl⟩ 23 rfl rfl rfl rfl hl.1 rfl (Nat.le_of_ble_eq_true rfl) ⟨Nat.zero_le _, Nat.zero_le _⟩ dX10_best_14) (fun u H locs hq hw => ?_)
  obtain ⟨y21, y22, y23, y24, y25, y26, hu, h⟩ := hq
  rw [hu] at hw
  refine lv_bipush (v := 100) hx hb dX10_best_17 (by decide) ?_
  refine lv_istore_n (lv' := [(1, .int (100 : Int32)), (0, .ref (ad 23))]) hx hb dX10_best_19 rfl hl (by decide) rfl (fun ls hl => ?_)
  refine lv_aload_n hx hb dX10_best_20 rfl (lv_at hl 1 rfl) ?_
  refine gM_X10_166_main E hw dX10_best_21 ?_
  refine lv_istore_n (lv' := [(2, .int y26), (1, .int (100 : Int32)), (0, .ref (ad 23))]) hx hb dX10_best_24 rfl hl (by decide) rfl (fun ls hl => ?_)
  refine lv_aload_n hx hb dX10_best_25 rfl (lv_at hl 2 rfl) ?_
  refine gM_X10_169_main E hw dX10_best_26 ?_
  refine lv_istore_n (lv' := [(3, .int y21), (2, .int y26), (1, .int (100 : Int32)), (0, .ref (ad 23))]) hx hb dX10_best_29 rfl hl (by decide) rfl (fun ls hl => ?_)
  refine lv_iconst (v := 0) hx hb dX10_best_30 (by decide) ?_
  refine lv_istore (lv' := [(4, .int (0 : Int32)), (3, .int y21), (2, .int y26), (1, .int (100 : Int32)), (0, .ref (ad 23))]) hx hb dX10_best_31 hl (by decide) rfl (fun ls hl => ?_)
  obtain ⟨n, h⟩ := h
  exact L33 n (100 : Int32) y26 y21 (0 : Int32) y21 y22 y23 y24 y25 y26 f_trial _ _ _ h hw (lv_sub hl [4, 3, 2, 1, 0] rfl)
set_option maxRecDepth 100000 in
set_option maxHeartbeats 4000000 in
theorem c_X10_slots {l : Launch} {D : va_G} {cI cZ : ClassId} {ad : Nat → Nat} {f_thrown : Int32} {f_text : Nat → Int32} {f_textSize : Int32} {f_place : Int32} {f_chips : Int32} {f_gates : Int32} {f_kind : Nat → Int32} {f_source : Nat → Int32} {f_second : Nat → Int32} {f_clock : Nat → Int32} {f_readChips : Int32} {f_readPins : Int32} {f_readGates : Int32} {f_readKind : Nat → Int32} {f_readLies : Nat → Int32} {f_readSource : Nat → Int32} {f_readSecond : Nat → Int32} {f_readClock : Nat → Int32} {f_page : Nat → Int32} {f_trial : Nat → Int32} {f_book : Nat → Int32} {f_doings : Int32} {f_kept : Nat → Int32} {f_isKept : Nat → Int32} {f_seen : Int32} {f_seenBehind : Nat → Int32} {f_seenGate : Nat → Int32} {f_seenWorth : Nat → Int32} {f_seenWas : Nat → Int32} {f_seed : Int64} {f_worth : Nat → Int32} {f_known : Int32} {f_hand : Nat → Int32} {f_goes : Nat → Int32} {f_takes : Int32} {f_crossed : Int32} {f_last : Int32} {f_lastNow : Int32} {f_states : Nat → Int32} {X : va_W} {p1 : Int32} {Q : Int32 → Int32 → (Nat → Int32) → (Nat → Int32) → Int32 → Int32 → Int32 → Int32 → (Nat → Int32) → Prop} (h : wp_X10_slots f_chips f_crossed f_gates f_goes f_hand f_kind f_last f_lastNow f_page f_second f_source f_takes f_thrown f_trial p1 Q) : CtI l yX10_slots cX10_slots 2 (some .int) ({ frames := 4, cells := 0, slots := 0, locals := 107 } : Room) D [(cI, .int), (cZ, .boolean)] [.ref (ad 23), .int p1] (wM ad cI cZ f_thrown f_text f_textSize f_place f_chips f_gates f_kind f_source f_second f_clock f_readChips f_readPins f_readGates f_readKind f_readLies f_readSource f_readSecond f_readClock f_page f_trial f_book f_doings f_kept f_isKept f_seen f_seenBehind f_seenGate f_seenWorth f_seenWas f_seed f_worth f_known f_hand f_goes f_takes f_crossed f_last f_lastNow f_states X) (fun r u => ∃ w0 w1 w2 w3 w4 w5 w6 w7, u = (wM ad cI cZ w6 f_text f_textSize f_place f_chips f_gates f_kind f_source f_second f_clock f_readChips f_readPins f_readGates f_readKind f_readLies f_readSource f_readSecond f_readClock f_page w7 f_book f_doings f_kept f_isKept f_seen f_seenBehind f_seenGate f_seenWorth f_seenWas f_seed f_worth f_known w2 w1 w5 w0 w3 w4 f_states X) ∧ Q r w0 w1 w2 w3 w4 w5 w6 w7) := by
  refine CtI.of (by decide) rfl (Nat.le_of_ble_eq_true rfl) ?_
  intro p e s m args below meth c A Z E hret ls hl hw
  have E : gE p m c cX10_slots 2 s args RX10 D [(cI, .int), (cZ, .boolean)] A := E
  have hx := E.1.1
  have hb := E.1.2.1
  have hl : lv_has ls 2 [(0, .ref (ad 23)), (1, .int p1)] := hl
  unfold wp_X10_slots at h
  refine lv_aload_n hx hb dX10_slots_0 rfl (lv_at hl 0 rfl) ?_
  refine lv_iconst (v := 0) hx hb dX10_slots_1 (by decide) ?_
  refine pM_X10_84_main E hw dX10_slots_2 (fun H locs hw => ?_)
  refine lv_iload_n hx hb dX10_slots_5 rfl (lv_at hl 1 rfl) ?_
  refine lv_i2l hx hb dX10_slots_6 rfl ?_
  refine lv_lconst (v := 0) hx hb dX10_slots_7 (by decide) ?_
  refine lv_ldc2 (v := 3) hx hb E.1.2.2.2.1 (E.1.2.2.2.2 _ k_757) dX10_slots_8 ?_
  refine g_aI E hw (g_rS E hw (c_X10_in h _) ym_X10_in k_632 ⟨rfl, rfl⟩ ⟨Nat.le_of_ble_eq_true rfl, Nat.le_of_ble_eq_true rfl⟩ rfl hl.1 rfl (Nat.le_of_ble_eq_true rfl) ⟨Nat.zero_le _, Nat.zero_le _⟩ dX10_slots_11) (fun r1 u H locs hq hw => ?_)
  obtain ⟨hu, h⟩ := hq
  rw [hu] at hw
  refine lv_if_ne (tgt := 20) hx hb dX10_slots_14 (by decide) (fun c2 => ?_) (fun c2 => ?_)
  · have h := h.1 c2
    refine lv_iload_n hx hb dX10_slots_20 rfl (lv_at hl 1 rfl) ?_
    refine lv_iconst (v := 3) hx hb dX10_slots_21 (by decide) ?_
    refine lv_icmp_ne (tgt := 30) hx hb dX10_slots_22 (by decide) (fun c3 => ?_) (fun c3 => ?_)
    · have h := h.1 c3
      refine lv_aload_n hx hb dX10_slots_30 rfl (lv_at hl 0 rfl) ?_
      refine lv_aload_n hx hb dX10_slots_31 rfl (lv_at hl 0 rfl) ?_
      refine gM_X10_44_main E hw dX10_slots_32 ?_
      refine lv_aload_n hx hb dX10_slots_35 rfl (lv_at hl 0 rfl) ?_
      refine gM_X10_44_main E hw dX10_slots_36 ?_
      refine lv_bipush (v := 20) hx hb dX10_slots_39 (by decide) ?_
      refine lM_page E hw h.1 dX10_slots_41 ?_
      have h := h.2
      refine lv_iconst (v := 0) hx hb dX10_slots_42 (by decide) ?_
      refine lv_iconst (v := 0) hx hb dX10_slots_43 (by decide) ?_
      refine g_aV E hw (g_rV E hw (c_X10_laySchedule_page h _) ym_X10_laySchedule k_738 ⟨rfl, rfl⟩ ⟨Nat.le_of_ble_eq_true rfl, Nat.le_of_ble_eq_true rfl⟩ 23 rfl rfl rfl rfl hl.1 rfl (Nat.le_of_ble_eq_true rfl) ⟨Nat.zero_le _, Nat.zero_le _⟩ dX10_slots_44) (fun u H locs hq hw => ?_)
      obtain ⟨y5, y6, y7, y8, y9, y10, hu, h⟩ := hq
      rw [hu] at hw
      refine lv_iload_n hx hb dX10_slots_47 rfl (lv_at hl 1 rfl) ?_
      refine lv_if_ne (tgt := 58) hx hb dX10_slots_48 (by decide) (fun c11 => ?_) (fun c11 => ?_)
      · have h := h.1 c11
        refine lv_iload_n hx hb dX10_slots_58 rfl (lv_at hl 1 rfl) ?_
        refine lv_iconst (v := 1) hx hb dX10_slots_59 (by decide) ?_
        refine lv_icmp_ne (tgt := 70) hx hb dX10_slots_60 (by decide) (fun c12 => ?_) (fun c12 => ?_)
        · have h := h.1 c12
          refine lv_aload_n hx hb dX10_slots_70 rfl (lv_at hl 0 rfl) ?_
          refine gM_X10_172_main E hw dX10_slots_71 ?_
          exact hret _ _ _ _ _ _ ⟨_, _, _, _, _, _, _, _, rfl, h⟩ hw dX10_slots_74
        · have h := h.2 c12
          refine lv_aload_n hx hb dX10_slots_63 rfl (lv_at hl 0 rfl) ?_
          refine gM_X10_169_main E hw dX10_slots_64 ?_
          refine lv_goto (tgt := 74) hx hb dX10_slots_67 (by decide) ?_
          exact hret _ _ _ _ _ _ ⟨_, _, _, _, _, _, _, _, rfl, h⟩ hw dX10_slots_74
      · have h := h.2 c11
        refine lv_aload_n hx hb dX10_slots_51 rfl (lv_at hl 0 rfl) ?_
        refine gM_X10_166_main E hw dX10_slots_52 ?_
        refine lv_goto (tgt := 74) hx hb dX10_slots_55 (by decide) ?_
        exact hret _ _ _ _ _ _ ⟨_, _, _, _, _, _, _, _, rfl, h⟩ hw dX10_slots_74
    · have h := h.2 c3
      refine lv_aload_n hx hb dX10_slots_25 rfl (lv_at hl 0 rfl) ?_
      refine g_aI E hw (g_rV E hw (c_X10_best h _) ym_X10_best k_758 ⟨rfl, rfl⟩ ⟨Nat.le_of_ble_eq_true rfl, Nat.le_of_ble_eq_true rfl⟩ 23 rfl rfl rfl rfl hl.1 rfl (Nat.le_of_ble_eq_true rfl) ⟨Nat.zero_le _, Nat.zero_le _⟩ dX10_slots_26) (fun r13 u H locs hq hw => ?_)
      obtain ⟨y14, y15, y16, y17, y18, y19, y20, hu, h⟩ := hq
      rw [hu] at hw
      exact hret _ _ _ _ _ _ ⟨_, _, _, _, _, _, _, _, rfl, h⟩ hw dX10_slots_29
  · have h := h.2 c2
    refine lv_bipush (v := -2) hx hb dX10_slots_17 (by decide) ?_
    exact hret _ _ _ _ _ _ ⟨_, _, _, _, _, _, _, _, rfl, h⟩ hw dX10_slots_19
set_option maxRecDepth 100000 in
set_option maxHeartbeats 4000000 in
theorem c_X10_fewest {l : Launch} {D : va_G} {cI cZ : ClassId} {ad : Nat → Nat} {f_thrown : Int32} {f_text : Nat → Int32} {f_textSize : Int32} {f_place : Int32} {f_chips : Int32} {f_gates : Int32} {f_kind : Nat → Int32} {f_source : Nat → Int32} {f_second : Nat → Int32} {f_clock : Nat → Int32} {f_readChips : Int32} {f_readPins : Int32} {f_readGates : Int32} {f_readKind : Nat → Int32} {f_readLies : Nat → Int32} {f_readSource : Nat → Int32} {f_readSecond : Nat → Int32} {f_readClock : Nat → Int32} {f_page : Nat → Int32} {f_trial : Nat → Int32} {f_book : Nat → Int32} {f_doings : Int32} {f_kept : Nat → Int32} {f_isKept : Nat → Int32} {f_seen : Int32} {f_seenBehind : Nat → Int32} {f_seenGate : Nat → Int32} {f_seenWorth : Nat → Int32} {f_seenWas : Nat → Int32} {f_seed : Int64} {f_worth : Nat → Int32} {f_known : Int32} {f_hand : Nat → Int32} {f_goes : Nat → Int32} {f_takes : Int32} {f_crossed : Int32} {f_last : Int32} {f_lastNow : Int32} {f_states : Nat → Int32} {X : va_W} {p1 : Int32} {Q : Int32 → Int32 → (Nat → Int32) → (Nat → Int32) → Int32 → Int32 → Int32 → Int32 → Prop} (h : wp_X10_fewest f_chips f_crossed f_gates f_goes f_hand f_kind f_last f_lastNow f_page f_second f_source f_takes f_thrown p1 Q) : CtI l yX10_fewest cX10_fewest 3 (some .int) ({ frames := 3, cells := 0, slots := 0, locals := 82 } : Room) D [(cI, .int), (cZ, .boolean)] [.ref (ad 23), .int p1] (wM ad cI cZ f_thrown f_text f_textSize f_place f_chips f_gates f_kind f_source f_second f_clock f_readChips f_readPins f_readGates f_readKind f_readLies f_readSource f_readSecond f_readClock f_page f_trial f_book f_doings f_kept f_isKept f_seen f_seenBehind f_seenGate f_seenWorth f_seenWas f_seed f_worth f_known f_hand f_goes f_takes f_crossed f_last f_lastNow f_states X) (fun r u => ∃ w0 w1 w2 w3 w4 w5 w6, u = (wM ad cI cZ w6 f_text f_textSize f_place f_chips f_gates f_kind f_source f_second f_clock f_readChips f_readPins f_readGates f_readKind f_readLies f_readSource f_readSecond f_readClock f_page f_trial f_book f_doings f_kept f_isKept f_seen f_seenBehind f_seenGate f_seenWorth f_seenWas f_seed f_worth f_known w2 w1 w5 w0 w3 w4 f_states X) ∧ Q r w0 w1 w2 w3 w4 w5 w6) := by
  refine CtI.of (by decide) rfl (Nat.le_of_ble_eq_true rfl) ?_
  intro p e s m args below meth c A Z E hret ls hl hw
  have E : gE p m c cX10_fewest 3 s args RX10 D [(cI, .int), (cZ, .boolean)] A := E
  have hx := E.1.1
  have hb := E.1.2.1
  have hl : lv_has ls 3 [(0, .ref (ad 23)), (1, .int p1)] := hl
  have L22 : ∀ (n : Nat) (x2 : Int32) (f_crossed : Int32) (f_goes : Nat → Int32) (f_hand : Nat → Int32) (f_last : Int32) (f_lastNow : Int32) (f_takes : Int32) (f_thrown : Int32) (H : Heap) (locs : List Loc) (ls : Array Slot), wp_X10_fewest_h22 f_chips f_gates f_kind f_page f_second f_source p1 Q  n x2 f_crossed f_goes f_hand f_last f_lastNow f_takes f_thrown → gW D s A (wM ad cI cZ f_thrown f_text f_textSize f_place f_chips f_gates f_kind f_source f_second f_clock f_readChips f_readPins f_readGates f_readKind f_readLies f_readSource f_readSecond f_readClock f_page f_trial f_book f_doings f_kept f_isKept f_seen f_seenBehind f_seenGate f_seenWorth f_seenWas f_seed f_worth f_known f_hand f_goes f_takes f_crossed f_last f_lastNow f_states X) H locs → lv_has ls 3 [(0, .ref (ad 23)), (1, .int p1), (2, .int x2)] → W p l e ({ frames := 3, cells := 0, slots := 0, locals := 82 } : Room) s m args below meth c H locs 0 0 Z (F0 m 22 ls []) := by
    intro n
    induction n with
    | zero => intro x2 f_crossed f_goes f_hand f_last f_lastNow f_takes f_thrown H locs ls h; exact False.elim h
    | succ n22 ih22 =>
      intro x2 f_crossed f_goes f_hand f_last f_lastNow f_takes f_thrown H locs ls h hw hl
      have h : wp_X10_fewest_b22 f_chips f_gates f_kind f_page f_second f_source p1 Q (wp_X10_fewest_h22 f_chips f_gates f_kind f_page f_second f_source p1 Q  n22) x2 f_crossed f_goes f_hand f_last f_lastNow f_takes f_thrown := h
      unfold wp_X10_fewest_b22 at h
      refine lv_iload_n hx hb dX10_fewest_22 rfl (lv_at hl 2 rfl) ?_
      refine lv_bipush (v := 10) hx hb dX10_fewest_23 (by decide) ?_
      refine lv_icmp_ge (tgt := 55) hx hb dX10_fewest_25 (by decide) (fun c1 => ?_) (fun c1 => ?_)
      · have h := h.1 c1
        refine lv_bipush (v := -9) hx hb dX10_fewest_55 (by decide) ?_
        exact hret _ _ _ _ _ _ ⟨_, _, _, _, _, _, _, rfl, h⟩ hw dX10_fewest_57
      · have h := h.2 c1
        refine lv_aload_n hx hb dX10_fewest_28 rfl (lv_at hl 0 rfl) ?_
        refine lv_aload_n hx hb dX10_fewest_29 rfl (lv_at hl 0 rfl) ?_
        refine gM_X10_44_main E hw dX10_fewest_30 ?_
        refine lv_iload_n hx hb dX10_fewest_33 rfl (lv_at hl 2 rfl) ?_
        refine lv_iconst (v := 0) hx hb dX10_fewest_34 (by decide) ?_
        refine lv_iconst (v := 0) hx hb dX10_fewest_35 (by decide) ?_
        refine g_aV E hw (g_rV E hw (c_X10_laySchedule_page h _) ym_X10_laySchedule k_738 ⟨rfl, rfl⟩ ⟨Nat.le_of_ble_eq_true rfl, Nat.le_of_ble_eq_true rfl⟩ 23 rfl rfl rfl rfl hl.1 rfl (Nat.le_of_ble_eq_true rfl) ⟨Nat.zero_le _, Nat.zero_le _⟩ dX10_fewest_36) (fun u H locs hq hw => ?_)
        obtain ⟨y3, y4, y5, y6, y7, y8, hu, h⟩ := hq
        rw [hu] at hw
        refine lv_aload_n hx hb dX10_fewest_39 rfl (lv_at hl 0 rfl) ?_
        refine gM_X10_166_main E hw dX10_fewest_40 ?_
        refine lv_iload_n hx hb dX10_fewest_43 rfl (lv_at hl 1 rfl) ?_
        refine lv_icmp_gt (tgt := 49) hx hb dX10_fewest_44 (by decide) (fun c9 => ?_) (fun c9 => ?_)
        · have h := h.1 c9
          obtain ⟨v10, ev10⟩ : ∃ y : Int32, y = x2 + 1 := ⟨_, rfl⟩
          have h := h v10 ev10
          refine lv_iinc (v := v10) (lv' := [(2, .int v10), (0, .ref (ad 23)), (1, .int p1)]) hx hb dX10_fewest_49 hl (k := 2) rfl (by rw [ev10]; rfl) (by decide) rfl (fun ls hl => ?_)
          refine lv_goto (tgt := 22) hx hb dX10_fewest_52 (by decide) ?_
          exact ih22 v10 y3 y4 y5 y6 y7 y8 f_thrown _ _ _ h hw (lv_sub hl [1, 2, 0] rfl)
        · have h := h.2 c9
          refine lv_iload_n hx hb dX10_fewest_47 rfl (lv_at hl 2 rfl) ?_
          exact hret _ _ _ _ _ _ ⟨_, _, _, _, _, _, _, rfl, h⟩ hw dX10_fewest_48
  unfold wp_X10_fewest at h
  refine lv_aload_n hx hb dX10_fewest_0 rfl (lv_at hl 0 rfl) ?_
  refine lv_iconst (v := 0) hx hb dX10_fewest_1 (by decide) ?_
  refine pM_X10_84_main E hw dX10_fewest_2 (fun H locs hw => ?_)
  refine lv_iload_n hx hb dX10_fewest_5 rfl (lv_at hl 1 rfl) ?_
  refine lv_i2l hx hb dX10_fewest_6 rfl ?_
  refine lv_lconst (v := 1) hx hb dX10_fewest_7 (by decide) ?_
  refine lv_ldc2 (v := 99) hx hb E.1.2.2.2.1 (E.1.2.2.2.2 _ k_693) dX10_fewest_8 ?_
  refine g_aI E hw (g_rS E hw (c_X10_in h _) ym_X10_in k_632 ⟨rfl, rfl⟩ ⟨Nat.le_of_ble_eq_true rfl, Nat.le_of_ble_eq_true rfl⟩ rfl hl.1 rfl (Nat.le_of_ble_eq_true rfl) ⟨Nat.zero_le _, Nat.zero_le _⟩ dX10_fewest_11) (fun r11 u H locs hq hw => ?_)
  obtain ⟨hu, h⟩ := hq
  rw [hu] at hw
  refine lv_if_ne (tgt := 20) hx hb dX10_fewest_14 (by decide) (fun c12 => ?_) (fun c12 => ?_)
  · have h := h.1 c12
    refine lv_iconst (v := 1) hx hb dX10_fewest_20 (by decide) ?_
    refine lv_istore_n (lv' := [(2, .int (1 : Int32)), (0, .ref (ad 23)), (1, .int p1)]) hx hb dX10_fewest_21 rfl hl (by decide) rfl (fun ls hl => ?_)
    obtain ⟨n, h⟩ := h
    exact L22 n (1 : Int32) f_crossed f_goes f_hand f_last f_lastNow f_takes (0 : Int32) _ _ _ h hw (lv_sub hl [1, 2, 0] rfl)
  · have h := h.2 c12
    refine lv_bipush (v := -2) hx hb dX10_fewest_17 (by decide) ?_
    exact hret _ _ _ _ _ _ ⟨_, _, _, _, _, _, _, rfl, h⟩ hw dX10_fewest_19
set_option maxRecDepth 100000 in
set_option maxHeartbeats 4000000 in
theorem c_X10_does {l : Launch} {D : va_G} {cI cZ : ClassId} {ad : Nat → Nat} {f_thrown : Int32} {f_text : Nat → Int32} {f_textSize : Int32} {f_place : Int32} {f_chips : Int32} {f_gates : Int32} {f_kind : Nat → Int32} {f_source : Nat → Int32} {f_second : Nat → Int32} {f_clock : Nat → Int32} {f_readChips : Int32} {f_readPins : Int32} {f_readGates : Int32} {f_readKind : Nat → Int32} {f_readLies : Nat → Int32} {f_readSource : Nat → Int32} {f_readSecond : Nat → Int32} {f_readClock : Nat → Int32} {f_page : Nat → Int32} {f_trial : Nat → Int32} {f_book : Nat → Int32} {f_doings : Int32} {f_kept : Nat → Int32} {f_isKept : Nat → Int32} {f_seen : Int32} {f_seenBehind : Nat → Int32} {f_seenGate : Nat → Int32} {f_seenWorth : Nat → Int32} {f_seenWas : Nat → Int32} {f_seed : Int64} {f_worth : Nat → Int32} {f_known : Int32} {f_hand : Nat → Int32} {f_goes : Nat → Int32} {f_takes : Int32} {f_crossed : Int32} {f_last : Int32} {f_lastNow : Int32} {f_states : Nat → Int32} {X : va_W} {p1 : Int32} {p2 : Int32} {p3 : Int32} {Q : Int32 → Int32 → (Nat → Int32) → (Nat → Int32) → Int32 → Int32 → Int32 → Int32 → (Nat → Int32) → (Nat → Int32) → Prop} (h : wp_X10_does f_chips f_clock f_crossed f_gates f_goes f_hand f_kind f_known f_last f_lastNow f_second f_source f_takes f_trial f_worth p1 p2 p3 Q) : CtI l yX10_does cX10_does 5 (some .boolean) ({ frames := 3, cells := 0, slots := 0, locals := 82 } : Room) D [(cI, .int), (cZ, .boolean)] [.ref (ad 23), .int p1, .int p2, .int p3] (wM ad cI cZ f_thrown f_text f_textSize f_place f_chips f_gates f_kind f_source f_second f_clock f_readChips f_readPins f_readGates f_readKind f_readLies f_readSource f_readSecond f_readClock f_page f_trial f_book f_doings f_kept f_isKept f_seen f_seenBehind f_seenGate f_seenWorth f_seenWas f_seed f_worth f_known f_hand f_goes f_takes f_crossed f_last f_lastNow f_states X) (fun r u => ∃ w0 w1 w2 w3 w4 w5 w6 w7 w8, u = (wM ad cI cZ f_thrown f_text f_textSize f_place f_chips f_gates f_kind f_source f_second f_clock f_readChips f_readPins f_readGates f_readKind f_readLies f_readSource f_readSecond f_readClock f_page w7 f_book f_doings f_kept f_isKept f_seen f_seenBehind f_seenGate f_seenWorth f_seenWas f_seed w8 w3 w2 w1 w6 w0 w4 w5 f_states X) ∧ Q r w0 w1 w2 w3 w4 w5 w6 w7 w8) := by
  refine CtI.ofZ (by decide) rfl (Nat.le_of_ble_eq_true rfl) ?_
  intro p e s m args below meth c A Z E hret ls hl hw
  have E : gE p m c cX10_does 5 s args RX10 D [(cI, .int), (cZ, .boolean)] A := E
  have hx := E.1.1
  have hb := E.1.2.1
  have hl : lv_has ls 5 [(0, .ref (ad 23)), (1, .int p1), (2, .int p2), (3, .int p3)] := hl
  have L54 : ∀ (n : Nat) (x4 : Int32) (f_crossed : Int32) (f_goes : Nat → Int32) (f_hand : Nat → Int32) (f_known : Int32) (f_last : Int32) (f_lastNow : Int32) (f_takes : Int32) (f_trial : Nat → Int32) (f_worth : Nat → Int32) (H : Heap) (locs : List Loc) (ls : Array Slot), wp_X10_does_h54 f_chips f_clock f_gates f_kind f_second f_source p1 p2 p3 Q  n x4 f_crossed f_goes f_hand f_known f_last f_lastNow f_takes f_trial f_worth → gW D s A (wM ad cI cZ f_thrown f_text f_textSize f_place f_chips f_gates f_kind f_source f_second f_clock f_readChips f_readPins f_readGates f_readKind f_readLies f_readSource f_readSecond f_readClock f_page f_trial f_book f_doings f_kept f_isKept f_seen f_seenBehind f_seenGate f_seenWorth f_seenWas f_seed f_worth f_known f_hand f_goes f_takes f_crossed f_last f_lastNow f_states X) H locs → lv_has ls 5 [(0, .ref (ad 23)), (2, .int p2), (3, .int p3), (4, .int x4)] → W p l e ({ frames := 3, cells := 0, slots := 0, locals := 82 } : Room) s m args below meth c H locs 0 0 Z (F0 m 54 ls []) := by
    intro n
    induction n with
    | zero => intro x4 f_crossed f_goes f_hand f_known f_last f_lastNow f_takes f_trial f_worth H locs ls h; exact False.elim h
    | succ n54 ih54 =>
      intro x4 f_crossed f_goes f_hand f_known f_last f_lastNow f_takes f_trial f_worth H locs ls h hw hl
      have h : wp_X10_does_b54 f_chips f_clock f_gates f_kind f_second f_source p1 p2 p3 Q (wp_X10_does_h54 f_chips f_clock f_gates f_kind f_second f_source p1 p2 p3 Q  n54) x4 f_crossed f_goes f_hand f_known f_last f_lastNow f_takes f_trial f_worth := h
      unfold wp_X10_does_b54 at h
      refine lv_iload hx hb dX10_does_54 (lv_at hl 3 rfl) ?_
      refine lv_bipush (v := 10) hx hb dX10_does_56 (by decide) ?_
      refine lv_iload_n hx hb dX10_does_58 rfl (lv_at hl 1 rfl) ?_
      refine lv_imul hx hb dX10_does_59 ?_
      refine lv_iload_n hx hb dX10_does_60 rfl (lv_at hl 2 rfl) ?_
      refine lv_iadd hx hb dX10_does_61 ?_
      refine lv_icmp_ge (tgt := 81) hx hb dX10_does_62 (by decide) (fun c1 => ?_) (fun c1 => ?_)
      · have h := h.1 c1
        refine lv_iconst (v := 1) hx hb dX10_does_81 (by decide) ?_
        exact hret _ _ _ _ _ _ (Or.inr rfl) ⟨_, _, _, _, _, _, _, _, _, rfl, h⟩ hw dX10_does_82
      · have h := h.2 c1
        refine lv_aload_n hx hb dX10_does_65 rfl (lv_at hl 0 rfl) ?_
        refine lv_aload_n hx hb dX10_does_66 rfl (lv_at hl 0 rfl) ?_
        refine gM_X10_47_main E hw dX10_does_67 ?_
        refine lv_bipush (v := -9) hx hb dX10_does_70 (by decide) ?_
        refine g_aV E hw (g_rV E hw (c_X10_stepOn_trial h _) ym_X10_stepOn k_697 ⟨rfl, rfl⟩ ⟨Nat.le_of_ble_eq_true rfl, Nat.le_of_ble_eq_true rfl⟩ 23 rfl rfl rfl rfl hl.1 rfl (Nat.le_of_ble_eq_true rfl) ⟨Nat.zero_le _, Nat.zero_le _⟩ dX10_does_72) (fun u H locs hq hw => ?_)
        obtain ⟨y3, y4, y5, hu, h⟩ := hq
        rw [hu] at hw
        obtain ⟨v6, ev6⟩ : ∃ y : Int32, y = x4 + 1 := ⟨_, rfl⟩
        have h := h v6 ev6
        refine lv_iinc (v := v6) (lv' := [(4, .int v6), (0, .ref (ad 23)), (2, .int p2), (3, .int p3)]) hx hb dX10_does_75 hl (k := 3) rfl (by rw [ev6]; rfl) (by decide) rfl (fun ls hl => ?_)
        refine lv_goto (tgt := 54) hx hb dX10_does_78 (by decide) ?_
        exact ih54 v6 f_crossed f_goes f_hand y3 f_last f_lastNow f_takes y5 y4 _ _ _ h hw (lv_sub hl [1, 2, 3, 0] rfl)
  have J184 : ∀ (f_crossed : Int32) (f_goes : Nat → Int32) (f_hand : Nat → Int32) (f_known : Int32) (f_last : Int32) (f_lastNow : Int32) (f_takes : Int32) (f_trial : Nat → Int32) (f_worth : Nat → Int32) (H : Heap) (locs : List Loc) (ls : Array Slot), wp_X10_does_b184 f_chips f_clock f_gates f_kind f_second f_source p1 p2 p3 Q  f_crossed f_goes f_hand f_known f_last f_lastNow f_takes f_trial f_worth → gW D s A (wM ad cI cZ f_thrown f_text f_textSize f_place f_chips f_gates f_kind f_source f_second f_clock f_readChips f_readPins f_readGates f_readKind f_readLies f_readSource f_readSecond f_readClock f_page f_trial f_book f_doings f_kept f_isKept f_seen f_seenBehind f_seenGate f_seenWorth f_seenWas f_seed f_worth f_known f_hand f_goes f_takes f_crossed f_last f_lastNow f_states X) H locs → lv_has ls 5 [] → W p l e ({ frames := 3, cells := 0, slots := 0, locals := 82 } : Room) s m args below meth c H locs 0 0 Z (F0 m 184 ls []) := by
    intro f_crossed f_goes f_hand f_known f_last f_lastNow f_takes f_trial f_worth H locs ls h hw hl
    unfold wp_X10_does_b184 at h
    refine lv_iconst (v := 0) hx hb dX10_does_184 (by decide) ?_
    exact hret _ _ _ _ _ _ (Or.inl rfl) ⟨_, _, _, _, _, _, _, _, _, rfl, h⟩ hw dX10_does_185
  unfold wp_X10_does at h
  refine lv_iload_n hx hb dX10_does_0 rfl (lv_at hl 1 rfl) ?_
  by_cases c7 : p1 = 1
  · have h := h.1 c7
    refine lv_tableIn (tgt := 40) (off := 39) hx hb dX10_does_1 (by rw [c7]; decide) (by rw [c7]; decide) (by rw [c7]; rfl) (by decide) ?_
    refine lv_bipush (v := 10) hx hb dX10_does_40 (by decide) ?_
    refine lv_iload_n hx hb dX10_does_42 rfl (lv_at hl 2 rfl) ?_
    refine lv_imul hx hb dX10_does_43 ?_
    refine lv_iload_n hx hb dX10_does_44 rfl (lv_at hl 3 rfl) ?_
    refine lv_iadd hx hb dX10_does_45 ?_
    refine lv_if_ne (tgt := 51) hx hb dX10_does_46 (by decide) (fun c8 => ?_) (fun c8 => ?_)
    · have h := h.1 c8
      refine lv_iconst (v := 0) hx hb dX10_does_51 (by decide) ?_
      refine lv_istore (lv' := [(4, .int (0 : Int32)), (0, .ref (ad 23)), (1, .int p1), (2, .int p2), (3, .int p3)]) hx hb dX10_does_52 hl (by decide) rfl (fun ls hl => ?_)
      obtain ⟨n, h⟩ := h
      exact L54 n (0 : Int32) f_crossed f_goes f_hand f_known f_last f_lastNow f_takes f_trial f_worth _ _ _ h hw (lv_sub hl [1, 3, 4, 0] rfl)
    · have h := h.2 c8
      refine lv_iconst (v := 0) hx hb dX10_does_49 (by decide) ?_
      exact hret _ _ _ _ _ _ (Or.inl rfl) ⟨_, _, _, _, _, _, _, _, _, rfl, h⟩ hw dX10_does_50
  · have h := h.2 c7
    by_cases c9 : p1 = 2
    · have h := h.1 c9
      refine lv_tableIn (tgt := 83) (off := 82) hx hb dX10_does_1 (by rw [c9]; decide) (by rw [c9]; decide) (by rw [c9]; rfl) (by decide) ?_
      refine lv_aload_n hx hb dX10_does_83 rfl (lv_at hl 0 rfl) ?_
      refine lv_iload_n hx hb dX10_does_84 rfl (lv_at hl 2 rfl) ?_
      refine g_aI E hw (g_rV E hw (c_X10_noGate h _) ym_X10_noGate k_668 ⟨rfl, rfl⟩ ⟨Nat.le_of_ble_eq_true rfl, Nat.le_of_ble_eq_true rfl⟩ 23 rfl rfl rfl rfl hl.1 rfl (Nat.le_of_ble_eq_true rfl) ⟨Nat.zero_le _, Nat.zero_le _⟩ dX10_does_85) (fun r10 u H locs hq hw => ?_)
      obtain ⟨hu, h⟩ := hq
      rw [hu] at hw
      refine lv_if_ne (tgt := 105) hx hb dX10_does_88 (by decide) (fun c11 => ?_) (fun c11 => ?_)
      · have h := h.1 c11
        refine lv_iconst (v := 0) hx hb dX10_does_105 (by decide) ?_
        exact hret _ _ _ _ _ _ (Or.inl rfl) ⟨_, _, _, _, _, _, _, _, _, rfl, h⟩ hw dX10_does_106
      · have h := h.2 c11
        refine lv_aload_n hx hb dX10_does_91 rfl (lv_at hl 0 rfl) ?_
        refine gM_X10_17_main E hw dX10_does_92 ?_
        refine lv_iload_n hx hb dX10_does_95 rfl (lv_at hl 2 rfl) ?_
        refine lM_kind E hw h.1 dX10_does_96 ?_
        have h := h.2
        refine lv_if_ne (tgt := 105) hx hb dX10_does_97 (by decide) (fun c12 => ?_) (fun c12 => ?_)
        · have h := h.1 c12
          refine lv_iconst (v := 0) hx hb dX10_does_105 (by decide) ?_
          exact hret _ _ _ _ _ _ (Or.inl rfl) ⟨_, _, _, _, _, _, _, _, _, rfl, h⟩ hw dX10_does_106
        · have h := h.2 c12
          refine lv_iload_n hx hb dX10_does_100 rfl (lv_at hl 3 rfl) ?_
          refine lv_iconst (v := 2) hx hb dX10_does_101 (by decide) ?_
          refine lv_icmp_le (tgt := 107) hx hb dX10_does_102 (by decide) (fun c13 => ?_) (fun c13 => ?_)
          · have h := h.1 c13
            refine lv_aload_n hx hb dX10_does_107 rfl (lv_at hl 0 rfl) ?_
            refine gM_X10_47_main E hw dX10_does_108 ?_
            refine lv_iload_n hx hb dX10_does_111 rfl (lv_at hl 2 rfl) ?_
            refine lv_iload_n hx hb dX10_does_112 rfl (lv_at hl 3 rfl) ?_
            refine sM_trial E hw h.1 dX10_does_113 (fun y14 ey14 H locs hw => ?_)
            have h := h.2 y14 ey14
            refine lv_iconst (v := 1) hx hb dX10_does_114 (by decide) ?_
            exact hret _ _ _ _ _ _ (Or.inr rfl) ⟨_, _, _, _, _, _, _, _, _, rfl, h⟩ hw dX10_does_115
          · have h := h.2 c13
            refine lv_iconst (v := 0) hx hb dX10_does_105 (by decide) ?_
            exact hret _ _ _ _ _ _ (Or.inl rfl) ⟨_, _, _, _, _, _, _, _, _, rfl, h⟩ hw dX10_does_106
    · have h := h.2 c9
      by_cases c15 : p1 = 3
      · have h := h.1 c15
        refine lv_tableIn (tgt := 116) (off := 115) hx hb dX10_does_1 (by rw [c15]; decide) (by rw [c15]; decide) (by rw [c15]; rfl) (by decide) ?_
        refine lv_aload_n hx hb dX10_does_116 rfl (lv_at hl 0 rfl) ?_
        refine lv_iload_n hx hb dX10_does_117 rfl (lv_at hl 2 rfl) ?_
        refine g_aI E hw (g_rV E hw (c_X10_noGate h _) ym_X10_noGate k_668 ⟨rfl, rfl⟩ ⟨Nat.le_of_ble_eq_true rfl, Nat.le_of_ble_eq_true rfl⟩ 23 rfl rfl rfl rfl hl.1 rfl (Nat.le_of_ble_eq_true rfl) ⟨Nat.zero_le _, Nat.zero_le _⟩ dX10_does_118) (fun r16 u H locs hq hw => ?_)
        obtain ⟨hu, h⟩ := hq
        rw [hu] at hw
        refine lv_if_ne (tgt := 145) hx hb dX10_does_121 (by decide) (fun c17 => ?_) (fun c17 => ?_)
        · have h := h.1 c17
          refine lv_iconst (v := 0) hx hb dX10_does_145 (by decide) ?_
          exact hret _ _ _ _ _ _ (Or.inl rfl) ⟨_, _, _, _, _, _, _, _, _, rfl, h⟩ hw dX10_does_146
        · have h := h.2 c17
          refine lv_aload_n hx hb dX10_does_124 rfl (lv_at hl 0 rfl) ?_
          refine lv_iload_n hx hb dX10_does_125 rfl (lv_at hl 3 rfl) ?_
          refine g_aI E hw (g_rV E hw (c_X10_noChip h _) ym_X10_noChip k_708 ⟨rfl, rfl⟩ ⟨Nat.le_of_ble_eq_true rfl, Nat.le_of_ble_eq_true rfl⟩ 23 rfl rfl rfl rfl hl.1 rfl (Nat.le_of_ble_eq_true rfl) ⟨Nat.zero_le _, Nat.zero_le _⟩ dX10_does_126) (fun r18 u H locs hq hw => ?_)
          obtain ⟨hu, h⟩ := hq
          rw [hu] at hw
          refine lv_if_ne (tgt := 145) hx hb dX10_does_129 (by decide) (fun c19 => ?_) (fun c19 => ?_)
          · have h := h.1 c19
            refine lv_iconst (v := 0) hx hb dX10_does_145 (by decide) ?_
            exact hret _ _ _ _ _ _ (Or.inl rfl) ⟨_, _, _, _, _, _, _, _, _, rfl, h⟩ hw dX10_does_146
          · have h := h.2 c19
            refine lv_aload_n hx hb dX10_does_132 rfl (lv_at hl 0 rfl) ?_
            refine gM_X10_47_main E hw dX10_does_133 ?_
            refine lv_bipush (v := 10) hx hb dX10_does_136 (by decide) ?_
            refine lv_iload_n hx hb dX10_does_138 rfl (lv_at hl 2 rfl) ?_
            refine lv_iadd hx hb dX10_does_139 ?_
            refine lM_trial E hw h.1 dX10_does_140 ?_
            have h := h.2
            refine lv_iload_n hx hb dX10_does_141 rfl (lv_at hl 3 rfl) ?_
            refine lv_icmp_ne (tgt := 147) hx hb dX10_does_142 (by decide) (fun c20 => ?_) (fun c20 => ?_)
            · have h := h.1 c20
              refine lv_aload_n hx hb dX10_does_147 rfl (lv_at hl 0 rfl) ?_
              refine gM_X10_47_main E hw dX10_does_148 ?_
              refine lv_bipush (v := 10) hx hb dX10_does_151 (by decide) ?_
              refine lv_iload_n hx hb dX10_does_153 rfl (lv_at hl 2 rfl) ?_
              refine lv_iadd hx hb dX10_does_154 ?_
              refine lv_iload_n hx hb dX10_does_155 rfl (lv_at hl 3 rfl) ?_
              refine sM_trial E hw h.1 dX10_does_156 (fun y21 ey21 H locs hw => ?_)
              have h := h.2 y21 ey21
              refine lv_iconst (v := 1) hx hb dX10_does_157 (by decide) ?_
              exact hret _ _ _ _ _ _ (Or.inr rfl) ⟨_, _, _, _, _, _, _, _, _, rfl, h⟩ hw dX10_does_158
            · have h := h.2 c20
              refine lv_iconst (v := 0) hx hb dX10_does_145 (by decide) ?_
              exact hret _ _ _ _ _ _ (Or.inl rfl) ⟨_, _, _, _, _, _, _, _, _, rfl, h⟩ hw dX10_does_146
      · have h := h.2 c15
        by_cases c22 : p1 = 4
        · have h := h.1 c22
          refine lv_tableIn (tgt := 159) (off := 158) hx hb dX10_does_1 (by rw [c22]; decide) (by rw [c22]; decide) (by rw [c22]; rfl) (by decide) ?_
          refine lv_aload_n hx hb dX10_does_159 rfl (lv_at hl 0 rfl) ?_
          refine lv_iload_n hx hb dX10_does_160 rfl (lv_at hl 2 rfl) ?_
          refine g_aI E hw (g_rV E hw (c_X10_noGate h _) ym_X10_noGate k_668 ⟨rfl, rfl⟩ ⟨Nat.le_of_ble_eq_true rfl, Nat.le_of_ble_eq_true rfl⟩ 23 rfl rfl rfl rfl hl.1 rfl (Nat.le_of_ble_eq_true rfl) ⟨Nat.zero_le _, Nat.zero_le _⟩ dX10_does_161) (fun r23 u H locs hq hw => ?_)
          obtain ⟨hu, h⟩ := hq
          rw [hu] at hw
          refine lv_if_ne (tgt := 184) hx hb dX10_does_164 (by decide) (fun c24 => ?_) (fun c24 => ?_)
          · have h := h.1 c24
            exact J184 f_crossed f_goes f_hand f_known f_last f_lastNow f_takes f_trial f_worth _ _ _ h hw (lv_sub hl [] rfl)
          · have h := h.2 c24
            refine lv_aload_n hx hb dX10_does_167 rfl (lv_at hl 0 rfl) ?_
            refine lv_aload_n hx hb dX10_does_168 rfl (lv_at hl 0 rfl) ?_
            refine gM_X10_47_main E hw dX10_does_169 ?_
            refine lv_iload_n hx hb dX10_does_172 rfl (lv_at hl 2 rfl) ?_
            refine g_aI E hw (g_rV E hw (c_X10_worthOf_trial h _) ym_X10_worthOf k_671 ⟨rfl, rfl⟩ ⟨Nat.le_of_ble_eq_true rfl, Nat.le_of_ble_eq_true rfl⟩ 23 rfl rfl rfl rfl hl.1 rfl (Nat.le_of_ble_eq_true rfl) ⟨Nat.zero_le _, Nat.zero_le _⟩ dX10_does_173) (fun r25 u H locs hq hw => ?_)
            obtain ⟨y26, y27, hu, h⟩ := hq
            rw [hu] at hw
            refine lv_iload_n hx hb dX10_does_176 rfl (lv_at hl 3 rfl) ?_
            refine lv_icmp_ne (tgt := 184) hx hb dX10_does_177 (by decide) (fun c28 => ?_) (fun c28 => ?_)
            · have h := h.1 c28
              exact J184 f_crossed f_goes f_hand y26 f_last f_lastNow f_takes f_trial y27 _ _ _ h hw (lv_sub hl [] rfl)
            · have h := h.2 c28
              refine lv_iconst (v := 1) hx hb dX10_does_180 (by decide) ?_
              refine lv_goto (tgt := 185) hx hb dX10_does_181 (by decide) ?_
              exact hret _ _ _ _ _ _ (Or.inr rfl) ⟨_, _, _, _, _, _, _, _, _, rfl, h⟩ hw dX10_does_185
        · have h := h.2 c22
          by_cases c29 : p1 = 5
          · have h := h.1 c29
            refine lv_tableIn (tgt := 186) (off := 185) hx hb dX10_does_1 (by rw [c29]; decide) (by rw [c29]; decide) (by rw [c29]; rfl) (by decide) ?_
            refine lv_aload_n hx hb dX10_does_186 rfl (lv_at hl 0 rfl) ?_
            refine lv_aload_n hx hb dX10_does_187 rfl (lv_at hl 0 rfl) ?_
            refine gM_X10_47_main E hw dX10_does_188 ?_
            refine lv_aload_n hx hb dX10_does_191 rfl (lv_at hl 0 rfl) ?_
            refine gM_X10_47_main E hw dX10_does_192 ?_
            refine lv_bipush (v := 20) hx hb dX10_does_195 (by decide) ?_
            refine lM_trial E hw h.1 dX10_does_197 ?_
            have h := h.2
            refine lv_iconst (v := 0) hx hb dX10_does_198 (by decide) ?_
            refine lv_iconst (v := 0) hx hb dX10_does_199 (by decide) ?_
            refine g_aV E hw (g_rV E hw (c_X10_laySchedule_trial h _) ym_X10_laySchedule k_738 ⟨rfl, rfl⟩ ⟨Nat.le_of_ble_eq_true rfl, Nat.le_of_ble_eq_true rfl⟩ 23 rfl rfl rfl rfl hl.1 rfl (Nat.le_of_ble_eq_true rfl) ⟨Nat.zero_le _, Nat.zero_le _⟩ dX10_does_200) (fun u H locs hq hw => ?_)
            obtain ⟨y31, y32, y33, y34, y35, y36, hu, h⟩ := hq
            rw [hu] at hw
            refine lv_aload_n hx hb dX10_does_203 rfl (lv_at hl 0 rfl) ?_
            refine gM_X10_166_main E hw dX10_does_204 ?_
            refine lv_bipush (v := 10) hx hb dX10_does_207 (by decide) ?_
            refine lv_iload_n hx hb dX10_does_209 rfl (lv_at hl 2 rfl) ?_
            refine lv_imul hx hb dX10_does_210 ?_
            refine lv_iload_n hx hb dX10_does_211 rfl (lv_at hl 3 rfl) ?_
            refine lv_iadd hx hb dX10_does_212 ?_
            refine lv_icmp_ne (tgt := 220) hx hb dX10_does_213 (by decide) (fun c37 => ?_) (fun c37 => ?_)
            · have h := h.1 c37
              refine lv_iconst (v := 0) hx hb dX10_does_220 (by decide) ?_
              exact hret _ _ _ _ _ _ (Or.inl rfl) ⟨_, _, _, _, _, _, _, _, _, rfl, h⟩ hw dX10_does_221
            · have h := h.2 c37
              refine lv_iconst (v := 1) hx hb dX10_does_216 (by decide) ?_
              refine lv_goto (tgt := 221) hx hb dX10_does_217 (by decide) ?_
              exact hret _ _ _ _ _ _ (Or.inr rfl) ⟨_, _, _, _, _, _, _, _, _, rfl, h⟩ hw dX10_does_221
          · have h := h.2 c29
            by_cases c38 : p1 = 6
            · have h := h.1 c38
              refine lv_tableIn (tgt := 222) (off := 221) hx hb dX10_does_1 (by rw [c38]; decide) (by rw [c38]; decide) (by rw [c38]; rfl) (by decide) ?_
              refine lv_iload_n hx hb dX10_does_222 rfl (lv_at hl 2 rfl) ?_
              refine lv_if_ne (tgt := 230) hx hb dX10_does_223 (by decide) (fun c39 => ?_) (fun c39 => ?_)
              · have h := h.1 c39
                refine lv_iconst (v := 0) hx hb dX10_does_230 (by decide) ?_
                exact hret _ _ _ _ _ _ (Or.inl rfl) ⟨_, _, _, _, _, _, _, _, _, rfl, h⟩ hw dX10_does_231
              · have h := h.2 c39
                refine lv_iload_n hx hb dX10_does_226 rfl (lv_at hl 3 rfl) ?_
                refine lv_if_ne (tgt := 232) hx hb dX10_does_227 (by decide) (fun c40 => ?_) (fun c40 => ?_)
                · have h := h.1 c40
                  refine lv_aload_n hx hb dX10_does_232 rfl (lv_at hl 0 rfl) ?_
                  refine gM_X10_47_main E hw dX10_does_233 ?_
                  refine lv_bipush (v := 20) hx hb dX10_does_236 (by decide) ?_
                  refine lv_iload_n hx hb dX10_does_238 rfl (lv_at hl 3 rfl) ?_
                  refine sM_trial E hw h.1 dX10_does_239 (fun y41 ey41 H locs hw => ?_)
                  have h := h.2 y41 ey41
                  refine lv_iconst (v := 1) hx hb dX10_does_240 (by decide) ?_
                  exact hret _ _ _ _ _ _ (Or.inr rfl) ⟨_, _, _, _, _, _, _, _, _, rfl, h⟩ hw dX10_does_241
                · have h := h.2 c40
                  refine lv_iconst (v := 0) hx hb dX10_does_230 (by decide) ?_
                  exact hret _ _ _ _ _ _ (Or.inl rfl) ⟨_, _, _, _, _, _, _, _, _, rfl, h⟩ hw dX10_does_231
            · have h := h.2 c38
              have nc7 := lv_neT c7 (a := 1) rfl
              have nc9 := lv_neT c9 (a := 2) rfl
              have nc15 := lv_neT c15 (a := 3) rfl
              have nc22 := lv_neT c22 (a := 4) rfl
              have nc29 := lv_neT c29 (a := 5) rfl
              have nc38 := lv_neT c38 (a := 6) rfl
              refine lv_tableOut (tgt := 242) hx hb dX10_does_1 (by omega) (by decide) ?_
              refine lv_iconst (v := 0) hx hb dX10_does_242 (by decide) ?_
              exact hret _ _ _ _ _ _ (Or.inl rfl) ⟨_, _, _, _, _, _, _, _, _, rfl, h⟩ hw dX10_does_243
set_option maxRecDepth 100000 in
set_option maxHeartbeats 4000000 in
theorem c_X10_judge {l : Launch} {D : va_G} {cI cZ : ClassId} {ad : Nat → Nat} {f_thrown : Int32} {f_text : Nat → Int32} {f_textSize : Int32} {f_place : Int32} {f_chips : Int32} {f_gates : Int32} {f_kind : Nat → Int32} {f_source : Nat → Int32} {f_second : Nat → Int32} {f_clock : Nat → Int32} {f_readChips : Int32} {f_readPins : Int32} {f_readGates : Int32} {f_readKind : Nat → Int32} {f_readLies : Nat → Int32} {f_readSource : Nat → Int32} {f_readSecond : Nat → Int32} {f_readClock : Nat → Int32} {f_page : Nat → Int32} {f_trial : Nat → Int32} {f_book : Nat → Int32} {f_doings : Int32} {f_kept : Nat → Int32} {f_isKept : Nat → Int32} {f_seen : Int32} {f_seenBehind : Nat → Int32} {f_seenGate : Nat → Int32} {f_seenWorth : Nat → Int32} {f_seenWas : Nat → Int32} {f_seed : Int64} {f_worth : Nat → Int32} {f_known : Int32} {f_hand : Nat → Int32} {f_goes : Nat → Int32} {f_takes : Int32} {f_crossed : Int32} {f_last : Int32} {f_lastNow : Int32} {f_states : Nat → Int32} {X : va_W} {p1 : Int32} {p2 : Int64} {Q : Int32 → Int32 → (Nat → Int32) → (Nat → Int32) → Int32 → Int32 → Int32 → Int32 → Int32 → (Nat → Int32) → (Nat → Int32) → Prop} (h : wp_X10_judge f_chips f_clock f_crossed f_gates f_goes f_hand f_kind f_known f_last f_lastNow f_page f_second f_source f_takes f_thrown f_trial f_worth p1 p2 Q) : CtI l yX10_judge cX10_judge 6 (some .int) ({ frames := 4, cells := 0, slots := 0, locals := 106 } : Room) D [(cI, .int), (cZ, .boolean)] [.ref (ad 23), .int p1, .long p2] (wM ad cI cZ f_thrown f_text f_textSize f_place f_chips f_gates f_kind f_source f_second f_clock f_readChips f_readPins f_readGates f_readKind f_readLies f_readSource f_readSecond f_readClock f_page f_trial f_book f_doings f_kept f_isKept f_seen f_seenBehind f_seenGate f_seenWorth f_seenWas f_seed f_worth f_known f_hand f_goes f_takes f_crossed f_last f_lastNow f_states X) (fun r u => ∃ w0 w1 w2 w3 w4 w5 w6 w7 w8 w9, u = (wM ad cI cZ w7 f_text f_textSize f_place f_chips f_gates f_kind f_source f_second f_clock f_readChips f_readPins f_readGates f_readKind f_readLies f_readSource f_readSecond f_readClock f_page w8 f_book f_doings f_kept f_isKept f_seen f_seenBehind f_seenGate f_seenWorth f_seenWas f_seed w9 w3 w2 w1 w6 w0 w4 w5 f_states X) ∧ Q r w0 w1 w2 w3 w4 w5 w6 w7 w8 w9) := by
  refine CtI.of (by decide) rfl (Nat.le_of_ble_eq_true rfl) ?_
  intro p e s m args below meth c A Z E hret ls hl hw
  have E : gE p m c cX10_judge 6 s args RX10 D [(cI, .int), (cZ, .boolean)] A := E
  have hx := E.1.1
  have hb := E.1.2.1
  have hl : lv_has ls 6 [(0, .ref (ad 23)), (1, .int p1), (2, .long p2)] := hl
  have L44 : ∀ (n : Nat) (x4 : Int32) (f_crossed : Int32) (f_goes : Nat → Int32) (f_hand : Nat → Int32) (f_known : Int32) (f_last : Int32) (f_lastNow : Int32) (f_takes : Int32) (f_thrown : Int32) (f_trial : Nat → Int32) (f_worth : Nat → Int32) (H : Heap) (locs : List Loc) (ls : Array Slot), wp_X10_judge_h44 f_chips f_clock f_gates f_kind f_page f_second f_source p1 p2 Q  n x4 f_crossed f_goes f_hand f_known f_last f_lastNow f_takes f_thrown f_trial f_worth → gW D s A (wM ad cI cZ f_thrown f_text f_textSize f_place f_chips f_gates f_kind f_source f_second f_clock f_readChips f_readPins f_readGates f_readKind f_readLies f_readSource f_readSecond f_readClock f_page f_trial f_book f_doings f_kept f_isKept f_seen f_seenBehind f_seenGate f_seenWorth f_seenWas f_seed f_worth f_known f_hand f_goes f_takes f_crossed f_last f_lastNow f_states X) H locs → lv_has ls 6 [(0, .ref (ad 23)), (1, .int p1), (2, .long p2), (4, .int x4)] → W p l e ({ frames := 4, cells := 0, slots := 0, locals := 106 } : Room) s m args below meth c H locs 0 0 Z (F0 m 44 ls []) := by
    intro n
    induction n with
    | zero => intro x4 f_crossed f_goes f_hand f_known f_last f_lastNow f_takes f_thrown f_trial f_worth H locs ls h; exact False.elim h
    | succ n44 ih44 =>
      intro x4 f_crossed f_goes f_hand f_known f_last f_lastNow f_takes f_thrown f_trial f_worth H locs ls h hw hl
      have h : wp_X10_judge_b44 f_chips f_clock f_gates f_kind f_page f_second f_source p1 p2 Q (wp_X10_judge_h44 f_chips f_clock f_gates f_kind f_page f_second f_source p1 p2 Q  n44) x4 f_crossed f_goes f_hand f_known f_last f_lastNow f_takes f_thrown f_trial f_worth := h
      unfold wp_X10_judge_b44 at h
      refine lv_iload hx hb dX10_judge_44 (lv_at hl 3 rfl) ?_
      refine lv_iload_n hx hb dX10_judge_46 rfl (lv_at hl 1 rfl) ?_
      refine lv_icmp_ge (tgt := 105) hx hb dX10_judge_47 (by decide) (fun c1 => ?_) (fun c1 => ?_)
      · have h := h.1 c1
        refine lv_bipush (v := -9) hx hb dX10_judge_105 (by decide) ?_
        exact hret _ _ _ _ _ _ ⟨_, _, _, _, _, _, _, _, _, _, rfl, h⟩ hw dX10_judge_107
      · have h := h.2 c1
        refine lv_lload_n hx hb dX10_judge_50 rfl (lv_at hl 2 rfl) ?_
        refine lv_ldc2 (v := 1000) hx hb E.1.2.2.2.1 (E.1.2.2.2.2 _ k_769) dX10_judge_51 ?_
        refine lv_iload_n hx hb dX10_judge_54 rfl (lv_at hl 1 rfl) ?_
        refine lv_iconst (v := 1) hx hb dX10_judge_55 (by decide) ?_
        refine lv_isub hx hb dX10_judge_56 ?_
        refine lv_iload hx hb dX10_judge_57 (lv_at hl 3 rfl) ?_
        refine lv_isub hx hb dX10_judge_59 ?_
        refine g_aL E hw (g_rS E hw (c_X10_longPower h _) ym_X10_longPower k_770 ⟨rfl, rfl⟩ ⟨Nat.le_of_ble_eq_true rfl, Nat.le_of_ble_eq_true rfl⟩ rfl hl.1 rfl (Nat.le_of_ble_eq_true rfl) ⟨Nat.zero_le _, Nat.zero_le _⟩ dX10_judge_60) (fun r2 u H locs hq hw => ?_)
        obtain ⟨hu, h⟩ := hq
        rw [hu] at hw
        refine lv_ldiv hx hb dX10_judge_63 h.1 ?_
        have h := h.2
        refine lv_ldc2 (v := 1000) hx hb E.1.2.2.2.1 (E.1.2.2.2.2 _ k_769) dX10_judge_64 ?_
        refine lv_lrem hx hb dX10_judge_67 (by decide) ?_
        refine lv_l2i hx hb dX10_judge_68 rfl ?_
        refine lv_topi (fun v3 ev3 => ?_)
        have h := h v3 ev3
        refine lv_istore (lv' := [(5, .int v3), (0, .ref (ad 23)), (1, .int p1), (2, .long p2), (4, .int x4)]) hx hb dX10_judge_69 hl (by decide) rfl (fun ls hl => ?_)
        refine lv_aload_n hx hb dX10_judge_71 rfl (lv_at hl 1 rfl) ?_
        refine lv_iload hx hb dX10_judge_72 (lv_at hl 0 rfl) ?_
        refine lv_bipush (v := 100) hx hb dX10_judge_74 (by decide) ?_
        refine lv_idiv hx hb dX10_judge_76 (by decide) ?_
        refine lv_iload hx hb dX10_judge_77 (lv_at hl 0 rfl) ?_
        refine lv_bipush (v := 10) hx hb dX10_judge_79 (by decide) ?_
        refine lv_idiv hx hb dX10_judge_81 (by decide) ?_
        refine lv_bipush (v := 10) hx hb dX10_judge_82 (by decide) ?_
        refine lv_irem hx hb dX10_judge_84 (by decide) ?_
        refine lv_iload hx hb dX10_judge_85 (lv_at hl 0 rfl) ?_
        refine lv_bipush (v := 10) hx hb dX10_judge_87 (by decide) ?_
        refine lv_irem hx hb dX10_judge_89 (by decide) ?_
        refine g_aI E hw (g_rV E hw (c_X10_does h _) ym_X10_does k_773 ⟨rfl, rfl⟩ ⟨Nat.le_of_ble_eq_true rfl, Nat.le_of_ble_eq_true rfl⟩ 23 rfl rfl rfl rfl hl.1 rfl (Nat.le_of_ble_eq_true rfl) ⟨Nat.zero_le _, Nat.zero_le _⟩ dX10_judge_90) (fun r4 u H locs hq hw => ?_)
        obtain ⟨y5, y6, y7, y8, y9, y10, y11, y12, y13, hu, h⟩ := hq
        rw [hu] at hw
        refine lv_if_ne (tgt := 99) hx hb dX10_judge_93 (by decide) (fun c14 => ?_) (fun c14 => ?_)
        · have h := h.1 c14
          obtain ⟨v15, ev15⟩ : ∃ y : Int32, y = x4 + 1 := ⟨_, rfl⟩
          have h := h v15 ev15
          refine lv_iinc (v := v15) (lv' := [(4, .int v15), (5, .int v3), (0, .ref (ad 23)), (1, .int p1), (2, .long p2)]) hx hb dX10_judge_99 hl (k := 4) rfl (by rw [ev15]; rfl) (by decide) rfl (fun ls hl => ?_)
          refine lv_goto (tgt := 44) hx hb dX10_judge_102 (by decide) ?_
          exact ih44 v15 y5 y6 y7 y8 y9 y10 y11 f_thrown y12 y13 _ _ _ h hw (lv_sub hl [2, 3, 4, 0] rfl)
        · have h := h.2 c14
          refine lv_iload hx hb dX10_judge_96 (lv_at hl 4 rfl) ?_
          exact hret _ _ _ _ _ _ ⟨_, _, _, _, _, _, _, _, _, _, rfl, h⟩ hw dX10_judge_98
  unfold wp_X10_judge at h
  refine lv_aload_n hx hb dX10_judge_0 rfl (lv_at hl 0 rfl) ?_
  refine lv_iconst (v := 0) hx hb dX10_judge_1 (by decide) ?_
  refine pM_X10_84_main E hw dX10_judge_2 (fun H locs hw => ?_)
  refine lv_iload_n hx hb dX10_judge_5 rfl (lv_at hl 1 rfl) ?_
  refine lv_i2l hx hb dX10_judge_6 rfl ?_
  refine lv_lconst (v := 1) hx hb dX10_judge_7 (by decide) ?_
  refine lv_ldc2 (v := 4) hx hb E.1.2.2.2.1 (E.1.2.2.2.2 _ k_659) dX10_judge_8 ?_
  refine g_aI E hw (g_rS E hw (c_X10_in h _) ym_X10_in k_632 ⟨rfl, rfl⟩ ⟨Nat.le_of_ble_eq_true rfl, Nat.le_of_ble_eq_true rfl⟩ rfl hl.1 rfl (Nat.le_of_ble_eq_true rfl) ⟨Nat.zero_le _, Nat.zero_le _⟩ dX10_judge_11) (fun r16 u H locs hq hw => ?_)
  obtain ⟨hu, h⟩ := hq
  rw [hu] at hw
  refine lv_if_eq (tgt := 34) hx hb dX10_judge_14 (by decide) (fun c17 => ?_) (fun c17 => ?_)
  · have h := h.1 c17
    refine lv_bipush (v := -2) hx hb dX10_judge_34 (by decide) ?_
    exact hret _ _ _ _ _ _ ⟨_, _, _, _, _, _, _, _, _, _, rfl, h⟩ hw dX10_judge_36
  · have h := h.2 c17
    refine lv_lload_n hx hb dX10_judge_17 rfl (lv_at hl 2 rfl) ?_
    refine lv_lconst (v := 0) hx hb dX10_judge_18 (by decide) ?_
    refine lv_ldc2 (v := 1000) hx hb E.1.2.2.2.1 (E.1.2.2.2.2 _ k_769) dX10_judge_19 ?_
    refine lv_iload_n hx hb dX10_judge_22 rfl (lv_at hl 1 rfl) ?_
    refine g_aL E hw (g_rS E hw (c_X10_longPower h _) ym_X10_longPower k_770 ⟨rfl, rfl⟩ ⟨Nat.le_of_ble_eq_true rfl, Nat.le_of_ble_eq_true rfl⟩ rfl hl.1 rfl (Nat.le_of_ble_eq_true rfl) ⟨Nat.zero_le _, Nat.zero_le _⟩ dX10_judge_23) (fun r18 u H locs hq hw => ?_)
    obtain ⟨hu, h⟩ := hq
    rw [hu] at hw
    refine lv_lconst (v := 1) hx hb dX10_judge_26 (by decide) ?_
    refine lv_lsub hx hb dX10_judge_27 ?_
    refine g_aI E hw (g_rS E hw (c_X10_in h _) ym_X10_in k_632 ⟨rfl, rfl⟩ ⟨Nat.le_of_ble_eq_true rfl, Nat.le_of_ble_eq_true rfl⟩ rfl hl.1 rfl (Nat.le_of_ble_eq_true rfl) ⟨Nat.zero_le _, Nat.zero_le _⟩ dX10_judge_28) (fun r19 u H locs hq hw => ?_)
    obtain ⟨hu, h⟩ := hq
    rw [hu] at hw
    refine lv_if_ne (tgt := 37) hx hb dX10_judge_31 (by decide) (fun c20 => ?_) (fun c20 => ?_)
    · have h := h.1 c20
      refine lv_aload_n hx hb dX10_judge_37 rfl (lv_at hl 0 rfl) ?_
      refine g_aV E hw (g_rV E hw (c_X10_layTrial h _) ym_X10_layTrial k_724 ⟨rfl, rfl⟩ ⟨Nat.le_of_ble_eq_true rfl, Nat.le_of_ble_eq_true rfl⟩ 23 rfl rfl rfl rfl hl.1 rfl (Nat.le_of_ble_eq_true rfl) ⟨Nat.zero_le _, Nat.zero_le _⟩ dX10_judge_38) (fun u H locs hq hw => ?_)
      obtain ⟨y22, hu, h⟩ := hq
      rw [hu] at hw
      refine lv_iconst (v := 0) hx hb dX10_judge_41 (by decide) ?_
      refine lv_istore (lv' := [(4, .int (0 : Int32)), (0, .ref (ad 23)), (1, .int p1), (2, .long p2)]) hx hb dX10_judge_42 hl (by decide) rfl (fun ls hl => ?_)
      obtain ⟨n, h⟩ := h
      exact L44 n (0 : Int32) f_crossed f_goes f_hand f_known f_last f_lastNow f_takes (0 : Int32) y22 f_worth _ _ _ h hw (lv_sub hl [1, 2, 3, 0] rfl)
    · have h := h.2 c20
      refine lv_bipush (v := -2) hx hb dX10_judge_34 (by decide) ?_
      exact hret _ _ _ _ _ _ ⟨_, _, _, _, _, _, _, _, _, _, rfl, h⟩ hw dX10_judge_36
set_option maxRecDepth 100000 in
set_option maxHeartbeats 4000000 in
theorem c_X10_see {l : Launch} {D : va_G} {cI cZ : ClassId} {ad : Nat → Nat} {f_thrown : Int32} {f_text : Nat → Int32} {f_textSize : Int32} {f_place : Int32} {f_chips : Int32} {f_gates : Int32} {f_kind : Nat → Int32} {f_source : Nat → Int32} {f_second : Nat → Int32} {f_clock : Nat → Int32} {f_readChips : Int32} {f_readPins : Int32} {f_readGates : Int32} {f_readKind : Nat → Int32} {f_readLies : Nat → Int32} {f_readSource : Nat → Int32} {f_readSecond : Nat → Int32} {f_readClock : Nat → Int32} {f_page : Nat → Int32} {f_trial : Nat → Int32} {f_book : Nat → Int32} {f_doings : Int32} {f_kept : Nat → Int32} {f_isKept : Nat → Int32} {f_seen : Int32} {f_seenBehind : Nat → Int32} {f_seenGate : Nat → Int32} {f_seenWorth : Nat → Int32} {f_seenWas : Nat → Int32} {f_seed : Int64} {f_worth : Nat → Int32} {f_known : Int32} {f_hand : Nat → Int32} {f_goes : Nat → Int32} {f_takes : Int32} {f_crossed : Int32} {f_last : Int32} {f_lastNow : Int32} {f_states : Nat → Int32} {X : va_W} {p1 : Int32} {p2 : Int32} {p3 : Int32} {p4 : Int32} {Q : Int32 → Int32 → (Nat → Int32) → (Nat → Int32) → (Nat → Int32) → (Nat → Int32) → Int32 → Prop} (h : wp_X10_see f_gates f_seen f_seenBehind f_seenGate f_seenWas f_seenWorth f_thrown p1 p2 p3 p4 Q) : CtI l yX10_see cX10_see 5 (some .int) ({ frames := 2, cells := 0, slots := 0, locals := 46 } : Room) D [(cI, .int), (cZ, .boolean)] [.ref (ad 23), .int p1, .int p2, .int p3, .int p4] (wM ad cI cZ f_thrown f_text f_textSize f_place f_chips f_gates f_kind f_source f_second f_clock f_readChips f_readPins f_readGates f_readKind f_readLies f_readSource f_readSecond f_readClock f_page f_trial f_book f_doings f_kept f_isKept f_seen f_seenBehind f_seenGate f_seenWorth f_seenWas f_seed f_worth f_known f_hand f_goes f_takes f_crossed f_last f_lastNow f_states X) (fun r u => ∃ w0 w1 w2 w3 w4 w5, u = (wM ad cI cZ w5 f_text f_textSize f_place f_chips f_gates f_kind f_source f_second f_clock f_readChips f_readPins f_readGates f_readKind f_readLies f_readSource f_readSecond f_readClock f_page f_trial f_book f_doings f_kept f_isKept w0 w1 w2 w4 w3 f_seed f_worth f_known f_hand f_goes f_takes f_crossed f_last f_lastNow f_states X) ∧ Q r w0 w1 w2 w3 w4 w5) := by
  refine CtI.of (by decide) rfl (Nat.le_of_ble_eq_true rfl) ?_
  intro p e s m args below meth c A Z E hret ls hl hw
  have E : gE p m c cX10_see 5 s args RX10 D [(cI, .int), (cZ, .boolean)] A := E
  have hx := E.1.1
  have hb := E.1.2.1
  have hl : lv_has ls 5 [(0, .ref (ad 23)), (1, .int p1), (2, .int p2), (3, .int p3), (4, .int p4)] := hl
  unfold wp_X10_see at h
  refine lv_aload_n hx hb dX10_see_0 rfl (lv_at hl 0 rfl) ?_
  refine lv_iconst (v := 0) hx hb dX10_see_1 (by decide) ?_
  refine pM_X10_84_main E hw dX10_see_2 (fun H locs hw => ?_)
  refine lv_aload_n hx hb dX10_see_5 rfl (lv_at hl 0 rfl) ?_
  refine lv_iload_n hx hb dX10_see_6 rfl (lv_at hl 2 rfl) ?_
  refine g_aI E hw (g_rV E hw (c_X10_noGate h _) ym_X10_noGate k_668 ⟨rfl, rfl⟩ ⟨Nat.le_of_ble_eq_true rfl, Nat.le_of_ble_eq_true rfl⟩ 23 rfl rfl rfl rfl hl.1 rfl (Nat.le_of_ble_eq_true rfl) ⟨Nat.zero_le _, Nat.zero_le _⟩ dX10_see_7) (fun r1 u H locs hq hw => ?_)
  obtain ⟨hu, h⟩ := hq
  rw [hu] at hw
  refine lv_if_eq (tgt := 15) hx hb dX10_see_10 (by decide) (fun c2 => ?_) (fun c2 => ?_)
  · have h := h.1 c2
    refine lv_iload_n hx hb dX10_see_15 rfl (lv_at hl 1 rfl) ?_
    refine lv_i2l hx hb dX10_see_16 rfl ?_
    refine lv_lconst (v := 0) hx hb dX10_see_17 (by decide) ?_
    refine lv_ldc2 (v := 9) hx hb E.1.2.2.2.1 (E.1.2.2.2.2 _ k_715) dX10_see_18 ?_
    refine g_aI E hw (g_rS E hw (c_X10_in h _) ym_X10_in k_632 ⟨rfl, rfl⟩ ⟨Nat.le_of_ble_eq_true rfl, Nat.le_of_ble_eq_true rfl⟩ rfl hl.1 rfl (Nat.le_of_ble_eq_true rfl) ⟨Nat.zero_le _, Nat.zero_le _⟩ dX10_see_21) (fun r3 u H locs hq hw => ?_)
    obtain ⟨hu, h⟩ := hq
    rw [hu] at hw
    refine lv_if_eq (tgt := 50) hx hb dX10_see_24 (by decide) (fun c4 => ?_) (fun c4 => ?_)
    · have h := h.1 c4
      refine lv_bipush (v := -2) hx hb dX10_see_50 (by decide) ?_
      exact hret _ _ _ _ _ _ ⟨_, _, _, _, _, _, rfl, h⟩ hw dX10_see_52
    · have h := h.2 c4
      refine lv_iload_n hx hb dX10_see_27 rfl (lv_at hl 3 rfl) ?_
      refine lv_i2l hx hb dX10_see_28 rfl ?_
      refine lv_lconst (v := 0) hx hb dX10_see_29 (by decide) ?_
      refine lv_ldc2 (v := 2) hx hb E.1.2.2.2.1 (E.1.2.2.2.2 _ k_658) dX10_see_30 ?_
      refine g_aI E hw (g_rS E hw (c_X10_in h _) ym_X10_in k_632 ⟨rfl, rfl⟩ ⟨Nat.le_of_ble_eq_true rfl, Nat.le_of_ble_eq_true rfl⟩ rfl hl.1 rfl (Nat.le_of_ble_eq_true rfl) ⟨Nat.zero_le _, Nat.zero_le _⟩ dX10_see_33) (fun r5 u H locs hq hw => ?_)
      obtain ⟨hu, h⟩ := hq
      rw [hu] at hw
      refine lv_if_eq (tgt := 50) hx hb dX10_see_36 (by decide) (fun c6 => ?_) (fun c6 => ?_)
      · have h := h.1 c6
        refine lv_bipush (v := -2) hx hb dX10_see_50 (by decide) ?_
        exact hret _ _ _ _ _ _ ⟨_, _, _, _, _, _, rfl, h⟩ hw dX10_see_52
      · have h := h.2 c6
        refine lv_iload hx hb dX10_see_39 (lv_at hl 4 rfl) ?_
        refine lv_i2l hx hb dX10_see_41 rfl ?_
        refine lv_lconst (v := 0) hx hb dX10_see_42 (by decide) ?_
        refine lv_lconst (v := 1) hx hb dX10_see_43 (by decide) ?_
        refine g_aI E hw (g_rS E hw (c_X10_in h _) ym_X10_in k_632 ⟨rfl, rfl⟩ ⟨Nat.le_of_ble_eq_true rfl, Nat.le_of_ble_eq_true rfl⟩ rfl hl.1 rfl (Nat.le_of_ble_eq_true rfl) ⟨Nat.zero_le _, Nat.zero_le _⟩ dX10_see_44) (fun r7 u H locs hq hw => ?_)
        obtain ⟨hu, h⟩ := hq
        rw [hu] at hw
        refine lv_if_ne (tgt := 53) hx hb dX10_see_47 (by decide) (fun c8 => ?_) (fun c8 => ?_)
        · have h := h.1 c8
          refine lv_aload_n hx hb dX10_see_53 rfl (lv_at hl 0 rfl) ?_
          refine gM_X10_231_main E hw dX10_see_54 ?_
          refine lv_bipush (v := 6) hx hb dX10_see_57 (by decide) ?_
          refine lv_icmp_ne (tgt := 65) hx hb dX10_see_59 (by decide) (fun c9 => ?_) (fun c9 => ?_)
          · have h := h.1 c9
            refine lv_aload_n hx hb dX10_see_65 rfl (lv_at hl 0 rfl) ?_
            refine gM_X10_60_main E hw dX10_see_66 ?_
            refine lv_aload_n hx hb dX10_see_69 rfl (lv_at hl 0 rfl) ?_
            refine gM_X10_231_main E hw dX10_see_70 ?_
            refine lv_iload_n hx hb dX10_see_73 rfl (lv_at hl 1 rfl) ?_
            refine sM_seenBehind E hw h.1 dX10_see_74 (fun y10 ey10 H locs hw => ?_)
            have h := h.2 y10 ey10
            refine lv_aload_n hx hb dX10_see_75 rfl (lv_at hl 0 rfl) ?_
            refine gM_X10_63_main E hw dX10_see_76 ?_
            refine lv_aload_n hx hb dX10_see_79 rfl (lv_at hl 0 rfl) ?_
            refine gM_X10_231_main E hw dX10_see_80 ?_
            refine lv_iload_n hx hb dX10_see_83 rfl (lv_at hl 2 rfl) ?_
            refine sM_seenGate E hw h.1 dX10_see_84 (fun y11 ey11 H locs hw => ?_)
            have h := h.2 y11 ey11
            refine lv_aload_n hx hb dX10_see_85 rfl (lv_at hl 0 rfl) ?_
            refine gM_X10_66_main E hw dX10_see_86 ?_
            refine lv_aload_n hx hb dX10_see_89 rfl (lv_at hl 0 rfl) ?_
            refine gM_X10_231_main E hw dX10_see_90 ?_
            refine lv_iload_n hx hb dX10_see_93 rfl (lv_at hl 3 rfl) ?_
            refine sM_seenWorth E hw h.1 dX10_see_94 (fun y12 ey12 H locs hw => ?_)
            have h := h.2 y12 ey12
            refine lv_aload_n hx hb dX10_see_95 rfl (lv_at hl 0 rfl) ?_
            refine gM_X10_69_main E hw dX10_see_96 ?_
            refine lv_aload_n hx hb dX10_see_99 rfl (lv_at hl 0 rfl) ?_
            refine gM_X10_231_main E hw dX10_see_100 ?_
            refine lv_iload hx hb dX10_see_103 (lv_at hl 4 rfl) ?_
            refine sM_seenWas E hw h.1 dX10_see_105 (fun y13 ey13 H locs hw => ?_)
            have h := h.2 y13 ey13
            refine lv_aload_n hx hb dX10_see_106 rfl (lv_at hl 0 rfl) ?_
            refine lv_dup hx hb dX10_see_107 rfl ?_
            refine gM_X10_231_main E hw dX10_see_108 ?_
            refine lv_iconst (v := 1) hx hb dX10_see_111 (by decide) ?_
            refine lv_iadd hx hb dX10_see_112 ?_
            refine lv_topi (fun v14 ev14 => ?_)
            have h := h v14 ev14
            refine pM_X10_231_main E hw dX10_see_113 (fun H locs hw => ?_)
            refine lv_aload_n hx hb dX10_see_116 rfl (lv_at hl 0 rfl) ?_
            refine gM_X10_231_main E hw dX10_see_117 ?_
            exact hret _ _ _ _ _ _ ⟨_, _, _, _, _, _, rfl, h⟩ hw dX10_see_120
          · have h := h.2 c9
            refine lv_bipush (v := -4) hx hb dX10_see_62 (by decide) ?_
            exact hret _ _ _ _ _ _ ⟨_, _, _, _, _, _, rfl, h⟩ hw dX10_see_64
        · have h := h.2 c8
          refine lv_bipush (v := -2) hx hb dX10_see_50 (by decide) ?_
          exact hret _ _ _ _ _ _ ⟨_, _, _, _, _, _, rfl, h⟩ hw dX10_see_52
  · have h := h.2 c2
    refine lv_iconst (v := -1) hx hb dX10_see_13 (by decide) ?_
    exact hret _ _ _ _ _ _ ⟨_, _, _, _, _, _, rfl, h⟩ hw dX10_see_14
set_option maxRecDepth 100000 in
set_option maxHeartbeats 4000000 in
theorem c_X10_unsee {l : Launch} {D : va_G} {cI cZ : ClassId} {ad : Nat → Nat} {f_thrown : Int32} {f_text : Nat → Int32} {f_textSize : Int32} {f_place : Int32} {f_chips : Int32} {f_gates : Int32} {f_kind : Nat → Int32} {f_source : Nat → Int32} {f_second : Nat → Int32} {f_clock : Nat → Int32} {f_readChips : Int32} {f_readPins : Int32} {f_readGates : Int32} {f_readKind : Nat → Int32} {f_readLies : Nat → Int32} {f_readSource : Nat → Int32} {f_readSecond : Nat → Int32} {f_readClock : Nat → Int32} {f_page : Nat → Int32} {f_trial : Nat → Int32} {f_book : Nat → Int32} {f_doings : Int32} {f_kept : Nat → Int32} {f_isKept : Nat → Int32} {f_seen : Int32} {f_seenBehind : Nat → Int32} {f_seenGate : Nat → Int32} {f_seenWorth : Nat → Int32} {f_seenWas : Nat → Int32} {f_seed : Int64} {f_worth : Nat → Int32} {f_known : Int32} {f_hand : Nat → Int32} {f_goes : Nat → Int32} {f_takes : Int32} {f_crossed : Int32} {f_last : Int32} {f_lastNow : Int32} {f_states : Nat → Int32} {X : va_W} {Q : Int32 → Int32 → Int32 → Prop} (h : wp_X10_unsee f_seen f_thrown Q) : CtI l yX10_unsee cX10_unsee 2 (some .int) ({ frames := 0, cells := 0, slots := 0, locals := 0 } : Room) D [(cI, .int), (cZ, .boolean)] [.ref (ad 23)] (wM ad cI cZ f_thrown f_text f_textSize f_place f_chips f_gates f_kind f_source f_second f_clock f_readChips f_readPins f_readGates f_readKind f_readLies f_readSource f_readSecond f_readClock f_page f_trial f_book f_doings f_kept f_isKept f_seen f_seenBehind f_seenGate f_seenWorth f_seenWas f_seed f_worth f_known f_hand f_goes f_takes f_crossed f_last f_lastNow f_states X) (fun r u => ∃ w0 w1, u = (wM ad cI cZ w1 f_text f_textSize f_place f_chips f_gates f_kind f_source f_second f_clock f_readChips f_readPins f_readGates f_readKind f_readLies f_readSource f_readSecond f_readClock f_page f_trial f_book f_doings f_kept f_isKept w0 f_seenBehind f_seenGate f_seenWorth f_seenWas f_seed f_worth f_known f_hand f_goes f_takes f_crossed f_last f_lastNow f_states X) ∧ Q r w0 w1) := by
  refine CtI.of (by decide) rfl (Nat.le_of_ble_eq_true rfl) ?_
  intro p e s m args below meth c A Z E hret ls hl hw
  have E : gE p m c cX10_unsee 2 s args RX10 D [(cI, .int), (cZ, .boolean)] A := E
  have hx := E.1.1
  have hb := E.1.2.1
  have hl : lv_has ls 2 [(0, .ref (ad 23))] := hl
  unfold wp_X10_unsee at h
  refine lv_aload_n hx hb dX10_unsee_0 rfl (lv_at hl 0 rfl) ?_
  refine lv_iconst (v := 0) hx hb dX10_unsee_1 (by decide) ?_
  refine pM_X10_84_main E hw dX10_unsee_2 (fun H locs hw => ?_)
  refine lv_aload_n hx hb dX10_unsee_5 rfl (lv_at hl 0 rfl) ?_
  refine gM_X10_231_main E hw dX10_unsee_6 ?_
  refine lv_istore_n (lv' := [(1, .int f_seen), (0, .ref (ad 23))]) hx hb dX10_unsee_9 rfl hl (by decide) rfl (fun ls hl => ?_)
  refine lv_aload_n hx hb dX10_unsee_10 rfl (lv_at hl 1 rfl) ?_
  refine lv_iconst (v := 0) hx hb dX10_unsee_11 (by decide) ?_
  refine pM_X10_231_main E hw dX10_unsee_12 (fun H locs hw => ?_)
  refine lv_iload_n hx hb dX10_unsee_15 rfl (lv_at hl 0 rfl) ?_
  exact hret _ _ _ _ _ _ ⟨_, _, rfl, h⟩ hw dX10_unsee_16
set_option maxRecDepth 100000 in
set_option maxHeartbeats 4000000 in
theorem c_X10_isSo {l : Launch} {D : va_G} {cI cZ : ClassId} {ad : Nat → Nat} {f_thrown : Int32} {f_text : Nat → Int32} {f_textSize : Int32} {f_place : Int32} {f_chips : Int32} {f_gates : Int32} {f_kind : Nat → Int32} {f_source : Nat → Int32} {f_second : Nat → Int32} {f_clock : Nat → Int32} {f_readChips : Int32} {f_readPins : Int32} {f_readGates : Int32} {f_readKind : Nat → Int32} {f_readLies : Nat → Int32} {f_readSource : Nat → Int32} {f_readSecond : Nat → Int32} {f_readClock : Nat → Int32} {f_page : Nat → Int32} {f_trial : Nat → Int32} {f_book : Nat → Int32} {f_doings : Int32} {f_kept : Nat → Int32} {f_isKept : Nat → Int32} {f_seen : Int32} {f_seenBehind : Nat → Int32} {f_seenGate : Nat → Int32} {f_seenWorth : Nat → Int32} {f_seenWas : Nat → Int32} {f_seed : Int64} {f_worth : Nat → Int32} {f_known : Int32} {f_hand : Nat → Int32} {f_goes : Nat → Int32} {f_takes : Int32} {f_crossed : Int32} {f_last : Int32} {f_lastNow : Int32} {f_states : Nat → Int32} {X : va_W} {p1 : Int32} {p2 : Int32} {Q : Int32 → Int32 → (Nat → Int32) → (Nat → Int32) → Prop} (h : wp_X10_isSo f_clock f_gates f_kind f_known f_page f_second f_seenBehind f_seenGate f_seenWas f_seenWorth f_source f_trial f_worth p1 p2 Q) : CtI l yX10_isSo cX10_isSo 4 (some .boolean) ({ frames := 3, cells := 0, slots := 0, locals := 70 } : Room) D [(cI, .int), (cZ, .boolean)] [.ref (ad 23), .int p1, .int p2] (wM ad cI cZ f_thrown f_text f_textSize f_place f_chips f_gates f_kind f_source f_second f_clock f_readChips f_readPins f_readGates f_readKind f_readLies f_readSource f_readSecond f_readClock f_page f_trial f_book f_doings f_kept f_isKept f_seen f_seenBehind f_seenGate f_seenWorth f_seenWas f_seed f_worth f_known f_hand f_goes f_takes f_crossed f_last f_lastNow f_states X) (fun r u => ∃ w0 w1 w2, u = (wM ad cI cZ f_thrown f_text f_textSize f_place f_chips f_gates f_kind f_source f_second f_clock f_readChips f_readPins f_readGates f_readKind f_readLies f_readSource f_readSecond f_readClock f_page w1 f_book f_doings f_kept f_isKept f_seen f_seenBehind f_seenGate f_seenWorth f_seenWas f_seed w2 w0 f_hand f_goes f_takes f_crossed f_last f_lastNow f_states X) ∧ Q r w0 w1 w2) := by
  refine CtI.ofZ (by decide) rfl (Nat.le_of_ble_eq_true rfl) ?_
  intro p e s m args below meth c A Z E hret ls hl hw
  have E : gE p m c cX10_isSo 4 s args RX10 D [(cI, .int), (cZ, .boolean)] A := E
  have hx := E.1.1
  have hb := E.1.2.1
  have hl : lv_has ls 4 [(0, .ref (ad 23)), (1, .int p1), (2, .int p2)] := hl
  have J95 : ∀ (s0 : Int32) (s1 : Int32) (f_known : Int32) (f_trial : Nat → Int32) (f_worth : Nat → Int32) (H : Heap) (locs : List Loc) (ls : Array Slot), wp_X10_isSo_b95 f_clock f_gates f_kind f_page f_second f_seenBehind f_seenGate f_seenWas f_seenWorth f_source p1 p2 Q  s0 s1 f_known f_trial f_worth → gW D s A (wM ad cI cZ f_thrown f_text f_textSize f_place f_chips f_gates f_kind f_source f_second f_clock f_readChips f_readPins f_readGates f_readKind f_readLies f_readSource f_readSecond f_readClock f_page f_trial f_book f_doings f_kept f_isKept f_seen f_seenBehind f_seenGate f_seenWorth f_seenWas f_seed f_worth f_known f_hand f_goes f_takes f_crossed f_last f_lastNow f_states X) H locs → lv_has ls 4 [] → W p l e ({ frames := 3, cells := 0, slots := 0, locals := 70 } : Room) s m args below meth c H locs 0 0 Z (F0 m 95 ls [.int s1, .int s0]) := by
    intro s0 s1 f_known f_trial f_worth H locs ls h hw hl
    unfold wp_X10_isSo_b95 at h
    refine lv_icmp_ne (tgt := 102) hx hb dX10_isSo_95 (by decide) (fun c1 => ?_) (fun c1 => ?_)
    · have h := h.1 c1
      refine lv_iconst (v := 0) hx hb dX10_isSo_102 (by decide) ?_
      exact hret _ _ _ _ _ _ (Or.inl rfl) ⟨_, _, _, rfl, h⟩ hw dX10_isSo_103
    · have h := h.2 c1
      refine lv_iconst (v := 1) hx hb dX10_isSo_98 (by decide) ?_
      refine lv_goto (tgt := 103) hx hb dX10_isSo_99 (by decide) ?_
      exact hret _ _ _ _ _ _ (Or.inr rfl) ⟨_, _, _, rfl, h⟩ hw dX10_isSo_103
  have J80 : ∀ (s0 : Int32) (f_known : Int32) (f_trial : Nat → Int32) (f_worth : Nat → Int32) (H : Heap) (locs : List Loc) (ls : Array Slot), wp_X10_isSo_b80 f_clock f_gates f_kind f_page f_second f_seenBehind f_seenGate f_seenWas f_seenWorth f_source p1 p2 Q  s0 f_known f_trial f_worth → gW D s A (wM ad cI cZ f_thrown f_text f_textSize f_place f_chips f_gates f_kind f_source f_second f_clock f_readChips f_readPins f_readGates f_readKind f_readLies f_readSource f_readSecond f_readClock f_page f_trial f_book f_doings f_kept f_isKept f_seen f_seenBehind f_seenGate f_seenWorth f_seenWas f_seed f_worth f_known f_hand f_goes f_takes f_crossed f_last f_lastNow f_states X) H locs → lv_has ls 4 [(0, .ref (ad 23)), (2, .int p2)] → W p l e ({ frames := 3, cells := 0, slots := 0, locals := 70 } : Room) s m args below meth c H locs 0 0 Z (F0 m 80 ls [.int s0]) := by
    intro s0 f_known f_trial f_worth H locs ls h hw hl
    unfold wp_X10_isSo_b80 at h
    refine lv_aload_n hx hb dX10_isSo_80 rfl (lv_at hl 0 rfl) ?_
    refine gM_X10_69_main E hw dX10_isSo_81 ?_
    refine lv_iload_n hx hb dX10_isSo_84 rfl (lv_at hl 1 rfl) ?_
    refine lM_seenWas E hw h.1 dX10_isSo_85 ?_
    have h := h.2
    refine lv_iconst (v := 1) hx hb dX10_isSo_86 (by decide) ?_
    refine lv_icmp_ne (tgt := 94) hx hb dX10_isSo_87 (by decide) (fun c2 => ?_) (fun c2 => ?_)
    · have h := h.1 c2
      refine lv_iconst (v := 0) hx hb dX10_isSo_94 (by decide) ?_
      exact J95 s0 (0 : Int32) f_known f_trial f_worth _ _ _ h hw (lv_sub hl [] rfl)
    · have h := h.2 c2
      refine lv_iconst (v := 1) hx hb dX10_isSo_90 (by decide) ?_
      refine lv_goto (tgt := 95) hx hb dX10_isSo_91 (by decide) ?_
      exact J95 s0 (1 : Int32) f_known f_trial f_worth _ _ _ h hw (lv_sub hl [] rfl)
  have L21 : ∀ (n : Nat) (x3 : Int32) (f_known : Int32) (f_trial : Nat → Int32) (f_worth : Nat → Int32) (H : Heap) (locs : List Loc) (ls : Array Slot), wp_X10_isSo_h21 f_clock f_gates f_kind f_page f_second f_seenBehind f_seenGate f_seenWas f_seenWorth f_source p1 p2 Q  n x3 f_known f_trial f_worth → gW D s A (wM ad cI cZ f_thrown f_text f_textSize f_place f_chips f_gates f_kind f_source f_second f_clock f_readChips f_readPins f_readGates f_readKind f_readLies f_readSource f_readSecond f_readClock f_page f_trial f_book f_doings f_kept f_isKept f_seen f_seenBehind f_seenGate f_seenWorth f_seenWas f_seed f_worth f_known f_hand f_goes f_takes f_crossed f_last f_lastNow f_states X) H locs → lv_has ls 4 [(0, .ref (ad 23)), (1, .int p1), (2, .int p2), (3, .int x3)] → W p l e ({ frames := 3, cells := 0, slots := 0, locals := 70 } : Room) s m args below meth c H locs 0 0 Z (F0 m 21 ls []) := by
    intro n
    induction n with
    | zero => intro x3 f_known f_trial f_worth H locs ls h; exact False.elim h
    | succ n21 ih21 =>
      intro x3 f_known f_trial f_worth H locs ls h hw hl
      have h : wp_X10_isSo_b21 f_clock f_gates f_kind f_page f_second f_seenBehind f_seenGate f_seenWas f_seenWorth f_source p1 p2 Q (wp_X10_isSo_h21 f_clock f_gates f_kind f_page f_second f_seenBehind f_seenGate f_seenWas f_seenWorth f_source p1 p2 Q  n21) x3 f_known f_trial f_worth := h
      unfold wp_X10_isSo_b21 at h
      refine lv_iload_n hx hb dX10_isSo_21 rfl (lv_at hl 3 rfl) ?_
      refine lv_aload_n hx hb dX10_isSo_22 rfl (lv_at hl 0 rfl) ?_
      refine gM_X10_60_main E hw dX10_isSo_23 ?_
      refine lv_iload_n hx hb dX10_isSo_26 rfl (lv_at hl 2 rfl) ?_
      refine lM_seenBehind E hw h.1 dX10_isSo_27 ?_
      have h := h.2
      refine lv_icmp_ge (tgt := 46) hx hb dX10_isSo_28 (by decide) (fun c3 => ?_) (fun c3 => ?_)
      · have h := h.1 c3
        refine lv_aload_n hx hb dX10_isSo_46 rfl (lv_at hl 0 rfl) ?_
        refine lv_aload_n hx hb dX10_isSo_47 rfl (lv_at hl 0 rfl) ?_
        refine gM_X10_47_main E hw dX10_isSo_48 ?_
        refine lv_iload_n hx hb dX10_isSo_51 rfl (lv_at hl 1 rfl) ?_
        refine g_aV E hw (g_rV E hw (c_X10_layWorth_trial h _) ym_X10_layWorth k_674 ⟨rfl, rfl⟩ ⟨Nat.le_of_ble_eq_true rfl, Nat.le_of_ble_eq_true rfl⟩ 23 rfl rfl rfl rfl hl.1 rfl (Nat.le_of_ble_eq_true rfl) ⟨Nat.zero_le _, Nat.zero_le _⟩ dX10_isSo_52) (fun u H locs hq hw => ?_)
        obtain ⟨y5, y6, hu, h⟩ := hq
        rw [hu] at hw
        refine lv_aload_n hx hb dX10_isSo_55 rfl (lv_at hl 0 rfl) ?_
        refine gM_X10_72_main E hw dX10_isSo_56 ?_
        refine lv_aload_n hx hb dX10_isSo_59 rfl (lv_at hl 0 rfl) ?_
        refine gM_X10_63_main E hw dX10_isSo_60 ?_
        refine lv_iload_n hx hb dX10_isSo_63 rfl (lv_at hl 2 rfl) ?_
        refine lM_seenGate E hw h.1 dX10_isSo_64 ?_
        have h := h.2
        refine lM_worth E hw h.1 dX10_isSo_65 ?_
        have h := h.2
        refine lv_aload_n hx hb dX10_isSo_66 rfl (lv_at hl 0 rfl) ?_
        refine gM_X10_66_main E hw dX10_isSo_67 ?_
        refine lv_iload_n hx hb dX10_isSo_70 rfl (lv_at hl 2 rfl) ?_
        refine lM_seenWorth E hw h.1 dX10_isSo_71 ?_
        have h := h.2
        refine lv_icmp_ne (tgt := 79) hx hb dX10_isSo_72 (by decide) (fun c7 => ?_) (fun c7 => ?_)
        · have h := h.1 c7
          refine lv_iconst (v := 0) hx hb dX10_isSo_79 (by decide) ?_
          exact J80 (0 : Int32) y5 f_trial y6 _ _ _ h hw (lv_sub hl [0, 2] rfl)
        · have h := h.2 c7
          refine lv_iconst (v := 1) hx hb dX10_isSo_75 (by decide) ?_
          refine lv_goto (tgt := 80) hx hb dX10_isSo_76 (by decide) ?_
          exact J80 (1 : Int32) y5 f_trial y6 _ _ _ h hw (lv_sub hl [0, 2] rfl)
      · have h := h.2 c3
        refine lv_aload_n hx hb dX10_isSo_31 rfl (lv_at hl 0 rfl) ?_
        refine lv_aload_n hx hb dX10_isSo_32 rfl (lv_at hl 0 rfl) ?_
        refine gM_X10_47_main E hw dX10_isSo_33 ?_
        refine lv_iload_n hx hb dX10_isSo_36 rfl (lv_at hl 1 rfl) ?_
        refine g_aV E hw (g_rV E hw (c_X10_stepOn_trial h _) ym_X10_stepOn k_697 ⟨rfl, rfl⟩ ⟨Nat.le_of_ble_eq_true rfl, Nat.le_of_ble_eq_true rfl⟩ 23 rfl rfl rfl rfl hl.1 rfl (Nat.le_of_ble_eq_true rfl) ⟨Nat.zero_le _, Nat.zero_le _⟩ dX10_isSo_37) (fun u H locs hq hw => ?_)
        obtain ⟨y9, y10, y11, hu, h⟩ := hq
        rw [hu] at hw
        obtain ⟨v12, ev12⟩ : ∃ y : Int32, y = x3 + 1 := ⟨_, rfl⟩
        have h := h v12 ev12
        refine lv_iinc (v := v12) (lv' := [(3, .int v12), (0, .ref (ad 23)), (1, .int p1), (2, .int p2)]) hx hb dX10_isSo_40 hl (k := 3) rfl (by rw [ev12]; rfl) (by decide) rfl (fun ls hl => ?_)
        refine lv_goto (tgt := 21) hx hb dX10_isSo_43 (by decide) ?_
        exact ih21 v12 y9 y11 y10 _ _ _ h hw (lv_sub hl [1, 2, 3, 0] rfl)
  unfold wp_X10_isSo at h
  refine lv_aload_n hx hb dX10_isSo_0 rfl (lv_at hl 0 rfl) ?_
  refine lv_aload_n hx hb dX10_isSo_1 rfl (lv_at hl 0 rfl) ?_
  refine gM_X10_63_main E hw dX10_isSo_2 ?_
  refine lv_iload_n hx hb dX10_isSo_5 rfl (lv_at hl 2 rfl) ?_
  refine lM_seenGate E hw h.1 dX10_isSo_6 ?_
  have h := h.2
  refine g_aI E hw (g_rV E hw (c_X10_noGate h _) ym_X10_noGate k_668 ⟨rfl, rfl⟩ ⟨Nat.le_of_ble_eq_true rfl, Nat.le_of_ble_eq_true rfl⟩ 23 rfl rfl rfl rfl hl.1 rfl (Nat.le_of_ble_eq_true rfl) ⟨Nat.zero_le _, Nat.zero_le _⟩ dX10_isSo_7) (fun r13 u H locs hq hw => ?_)
  obtain ⟨hu, h⟩ := hq
  rw [hu] at hw
  refine lv_if_eq (tgt := 15) hx hb dX10_isSo_10 (by decide) (fun c14 => ?_) (fun c14 => ?_)
  · have h := h.1 c14
    refine lv_aload_n hx hb dX10_isSo_15 rfl (lv_at hl 0 rfl) ?_
    refine g_aV E hw (g_rV E hw (c_X10_layTrial h _) ym_X10_layTrial k_724 ⟨rfl, rfl⟩ ⟨Nat.le_of_ble_eq_true rfl, Nat.le_of_ble_eq_true rfl⟩ 23 rfl rfl rfl rfl hl.1 rfl (Nat.le_of_ble_eq_true rfl) ⟨Nat.zero_le _, Nat.zero_le _⟩ dX10_isSo_16) (fun u H locs hq hw => ?_)
    obtain ⟨y16, hu, h⟩ := hq
    rw [hu] at hw
    refine lv_iconst (v := 0) hx hb dX10_isSo_19 (by decide) ?_
    refine lv_istore_n (lv' := [(3, .int (0 : Int32)), (0, .ref (ad 23)), (1, .int p1), (2, .int p2)]) hx hb dX10_isSo_20 rfl hl (by decide) rfl (fun ls hl => ?_)
    obtain ⟨n, h⟩ := h
    exact L21 n (0 : Int32) f_known y16 f_worth _ _ _ h hw (lv_sub hl [1, 2, 3, 0] rfl)
  · have h := h.2 c14
    refine lv_iconst (v := 1) hx hb dX10_isSo_13 (by decide) ?_
    exact hret _ _ _ _ _ _ (Or.inr rfl) ⟨_, _, _, rfl, h⟩ hw dX10_isSo_14
set_option maxRecDepth 100000 in
set_option maxHeartbeats 4000000 in
theorem c_X10_which {l : Launch} {D : va_G} {cI cZ : ClassId} {ad : Nat → Nat} {f_thrown : Int32} {f_text : Nat → Int32} {f_textSize : Int32} {f_place : Int32} {f_chips : Int32} {f_gates : Int32} {f_kind : Nat → Int32} {f_source : Nat → Int32} {f_second : Nat → Int32} {f_clock : Nat → Int32} {f_readChips : Int32} {f_readPins : Int32} {f_readGates : Int32} {f_readKind : Nat → Int32} {f_readLies : Nat → Int32} {f_readSource : Nat → Int32} {f_readSecond : Nat → Int32} {f_readClock : Nat → Int32} {f_page : Nat → Int32} {f_trial : Nat → Int32} {f_book : Nat → Int32} {f_doings : Int32} {f_kept : Nat → Int32} {f_isKept : Nat → Int32} {f_seen : Int32} {f_seenBehind : Nat → Int32} {f_seenGate : Nat → Int32} {f_seenWorth : Nat → Int32} {f_seenWas : Nat → Int32} {f_seed : Int64} {f_worth : Nat → Int32} {f_known : Int32} {f_hand : Nat → Int32} {f_goes : Nat → Int32} {f_takes : Int32} {f_crossed : Int32} {f_last : Int32} {f_lastNow : Int32} {f_states : Nat → Int32} {X : va_W} {Q : Int32 → Int32 → Int32 → (Nat → Int32) → (Nat → Int32) → Prop} (h : wp_X10_which f_clock f_gates f_kind f_known f_page f_second f_seen f_seenBehind f_seenGate f_seenWas f_seenWorth f_source f_thrown f_trial f_worth Q) : CtI l yX10_which cX10_which 5 (some .int) ({ frames := 4, cells := 0, slots := 0, locals := 93 } : Room) D [(cI, .int), (cZ, .boolean)] [.ref (ad 23)] (wM ad cI cZ f_thrown f_text f_textSize f_place f_chips f_gates f_kind f_source f_second f_clock f_readChips f_readPins f_readGates f_readKind f_readLies f_readSource f_readSecond f_readClock f_page f_trial f_book f_doings f_kept f_isKept f_seen f_seenBehind f_seenGate f_seenWorth f_seenWas f_seed f_worth f_known f_hand f_goes f_takes f_crossed f_last f_lastNow f_states X) (fun r u => ∃ w0 w1 w2 w3, u = (wM ad cI cZ w1 f_text f_textSize f_place f_chips f_gates f_kind f_source f_second f_clock f_readChips f_readPins f_readGates f_readKind f_readLies f_readSource f_readSecond f_readClock f_page w2 f_book f_doings f_kept f_isKept f_seen f_seenBehind f_seenGate f_seenWorth f_seenWas f_seed w3 w0 f_hand f_goes f_takes f_crossed f_last f_lastNow f_states X) ∧ Q r w0 w1 w2 w3) := by
  refine CtI.of (by decide) rfl (Nat.le_of_ble_eq_true rfl) ?_
  intro p e s m args below meth c A Z E hret ls hl hw
  have E : gE p m c cX10_which 5 s args RX10 D [(cI, .int), (cZ, .boolean)] A := E
  have hx := E.1.1
  have hb := E.1.2.1
  have hl : lv_has ls 5 [(0, .ref (ad 23))] := hl
  have L9 : ∀ (n : Nat) (x1 : Int32) (x2 : Int32) (f_known : Int32) (f_thrown : Int32) (f_trial : Nat → Int32) (f_worth : Nat → Int32) (H : Heap) (locs : List Loc) (ls : Array Slot), wp_X10_which_h9 f_clock f_gates f_kind f_page f_second f_seen f_seenBehind f_seenGate f_seenWas f_seenWorth f_source Q  n x1 x2 f_known f_thrown f_trial f_worth → gW D s A (wM ad cI cZ f_thrown f_text f_textSize f_place f_chips f_gates f_kind f_source f_second f_clock f_readChips f_readPins f_readGates f_readKind f_readLies f_readSource f_readSecond f_readClock f_page f_trial f_book f_doings f_kept f_isKept f_seen f_seenBehind f_seenGate f_seenWorth f_seenWas f_seed f_worth f_known f_hand f_goes f_takes f_crossed f_last f_lastNow f_states X) H locs → lv_has ls 5 [(0, .ref (ad 23)), (1, .int x1), (2, .int x2)] → W p l e ({ frames := 4, cells := 0, slots := 0, locals := 93 } : Room) s m args below meth c H locs 0 0 Z (F0 m 9 ls []) := by
    intro n
    induction n with
    | zero => intro x1 x2 f_known f_thrown f_trial f_worth H locs ls h; exact False.elim h
    | succ n9 ih9 =>
      intro x1 x2 f_known f_thrown f_trial f_worth H locs ls h hw hl
      have h : wp_X10_which_b9 f_clock f_gates f_kind f_page f_second f_seen f_seenBehind f_seenGate f_seenWas f_seenWorth f_source Q (wp_X10_which_h9 f_clock f_gates f_kind f_page f_second f_seen f_seenBehind f_seenGate f_seenWas f_seenWorth f_source Q  n9) x1 x2 f_known f_thrown f_trial f_worth := h
      have J69 : ∀ (x2 : Int32) (s0 : Int32) (s1 : Int32) (f_known : Int32) (f_thrown : Int32) (f_trial : Nat → Int32) (f_worth : Nat → Int32) (H : Heap) (locs : List Loc) (ls : Array Slot), wp_X10_which_b69 f_clock f_gates f_kind f_page f_second f_seen f_seenBehind f_seenGate f_seenWas f_seenWorth f_source Q (wp_X10_which_h9 f_clock f_gates f_kind f_page f_second f_seen f_seenBehind f_seenGate f_seenWas f_seenWorth f_source Q  n9) x2 s0 s1 f_known f_thrown f_trial f_worth → gW D s A (wM ad cI cZ f_thrown f_text f_textSize f_place f_chips f_gates f_kind f_source f_second f_clock f_readChips f_readPins f_readGates f_readKind f_readLies f_readSource f_readSecond f_readClock f_page f_trial f_book f_doings f_kept f_isKept f_seen f_seenBehind f_seenGate f_seenWorth f_seenWas f_seed f_worth f_known f_hand f_goes f_takes f_crossed f_last f_lastNow f_states X) H locs → lv_has ls 5 [(0, .ref (ad 23)), (2, .int x2)] → W p l e ({ frames := 4, cells := 0, slots := 0, locals := 93 } : Room) s m args below meth c H locs 0 0 Z (F0 m 69 ls [.int s1, .int s0]) := by
        intro x2 s0 s1 f_known f_thrown f_trial f_worth H locs ls h hw hl
        unfold wp_X10_which_b69 at h
        refine lv_ior hx hb dX10_which_69 ?_
        refine lv_topi (fun v1 ev1 => ?_)
        have h := h v1 ev1
        refine lv_istore_n (lv' := [(1, .int v1), (0, .ref (ad 23)), (2, .int x2)]) hx hb dX10_which_70 rfl hl (by decide) rfl (fun ls hl => ?_)
        obtain ⟨v2, ev2⟩ : ∃ y : Int32, y = x2 + 1 := ⟨_, rfl⟩
        have h := h v2 ev2
        refine lv_iinc (v := v2) (lv' := [(2, .int v2), (1, .int v1), (0, .ref (ad 23))]) hx hb dX10_which_71 hl (k := 2) rfl (by rw [ev2]; rfl) (by decide) rfl (fun ls hl => ?_)
        refine lv_goto (tgt := 9) hx hb dX10_which_74 (by decide) ?_
        exact ih9 v1 v2 f_known f_thrown f_trial f_worth _ _ _ h hw (lv_sub hl [2, 1, 0] rfl)
      have L22 : ∀ (n : Nat) (x1 : Int32) (x2 : Int32) (x3 : Int32) (x4 : Int32) (f_known : Int32) (f_thrown : Int32) (f_trial : Nat → Int32) (f_worth : Nat → Int32) (H : Heap) (locs : List Loc) (ls : Array Slot), wp_X10_which_h22 f_clock f_gates f_kind f_page f_second f_seen f_seenBehind f_seenGate f_seenWas f_seenWorth f_source Q (wp_X10_which_h9 f_clock f_gates f_kind f_page f_second f_seen f_seenBehind f_seenGate f_seenWas f_seenWorth f_source Q  n9) n x1 x2 x3 x4 f_known f_thrown f_trial f_worth → gW D s A (wM ad cI cZ f_thrown f_text f_textSize f_place f_chips f_gates f_kind f_source f_second f_clock f_readChips f_readPins f_readGates f_readKind f_readLies f_readSource f_readSecond f_readClock f_page f_trial f_book f_doings f_kept f_isKept f_seen f_seenBehind f_seenGate f_seenWorth f_seenWas f_seed f_worth f_known f_hand f_goes f_takes f_crossed f_last f_lastNow f_states X) H locs → lv_has ls 5 [(0, .ref (ad 23)), (1, .int x1), (2, .int x2), (3, .int x3), (4, .int x4)] → W p l e ({ frames := 4, cells := 0, slots := 0, locals := 93 } : Room) s m args below meth c H locs 0 0 Z (F0 m 22 ls []) := by
        intro n
        induction n with
        | zero => intro x1 x2 x3 x4 f_known f_thrown f_trial f_worth H locs ls h; exact False.elim h
        | succ n22 ih22 =>
          intro x1 x2 x3 x4 f_known f_thrown f_trial f_worth H locs ls h hw hl
          have h : wp_X10_which_b22 f_clock f_gates f_kind f_page f_second f_seen f_seenBehind f_seenGate f_seenWas f_seenWorth f_source Q (wp_X10_which_h9 f_clock f_gates f_kind f_page f_second f_seen f_seenBehind f_seenGate f_seenWas f_seenWorth f_source Q  n9) (wp_X10_which_h22 f_clock f_gates f_kind f_page f_second f_seen f_seenBehind f_seenGate f_seenWas f_seenWorth f_source Q (wp_X10_which_h9 f_clock f_gates f_kind f_page f_second f_seen f_seenBehind f_seenGate f_seenWas f_seenWorth f_source Q  n9) n22) x1 x2 x3 x4 f_known f_thrown f_trial f_worth := h
          have J50 : ∀ (x1 : Int32) (x2 : Int32) (x4 : Int32) (s0 : Int32) (f_known : Int32) (f_thrown : Int32) (f_trial : Nat → Int32) (f_worth : Nat → Int32) (H : Heap) (locs : List Loc) (ls : Array Slot), wp_X10_which_b50 f_clock f_gates f_kind f_page f_second f_seen f_seenBehind f_seenGate f_seenWas f_seenWorth f_source Q (wp_X10_which_h9 f_clock f_gates f_kind f_page f_second f_seen f_seenBehind f_seenGate f_seenWas f_seenWorth f_source Q  n9) (wp_X10_which_h22 f_clock f_gates f_kind f_page f_second f_seen f_seenBehind f_seenGate f_seenWas f_seenWorth f_source Q (wp_X10_which_h9 f_clock f_gates f_kind f_page f_second f_seen f_seenBehind f_seenGate f_seenWas f_seenWorth f_source Q  n9) n22) x1 x2 x4 s0 f_known f_thrown f_trial f_worth → gW D s A (wM ad cI cZ f_thrown f_text f_textSize f_place f_chips f_gates f_kind f_source f_second f_clock f_readChips f_readPins f_readGates f_readKind f_readLies f_readSource f_readSecond f_readClock f_page f_trial f_book f_doings f_kept f_isKept f_seen f_seenBehind f_seenGate f_seenWorth f_seenWas f_seed f_worth f_known f_hand f_goes f_takes f_crossed f_last f_lastNow f_states X) H locs → lv_has ls 5 [(0, .ref (ad 23)), (1, .int x1), (2, .int x2), (4, .int x4)] → W p l e ({ frames := 4, cells := 0, slots := 0, locals := 93 } : Room) s m args below meth c H locs 0 0 Z (F0 m 50 ls [.int s0]) := by
            intro x1 x2 x4 s0 f_known f_thrown f_trial f_worth H locs ls h hw hl
            unfold wp_X10_which_b50 at h
            refine lv_istore_n (lv' := [(3, .int s0), (0, .ref (ad 23)), (1, .int x1), (2, .int x2), (4, .int x4)]) hx hb dX10_which_50 rfl hl (by decide) rfl (fun ls hl => ?_)
            obtain ⟨v3, ev3⟩ : ∃ y : Int32, y = x4 + 1 := ⟨_, rfl⟩
            have h := h v3 ev3
            refine lv_iinc (v := v3) (lv' := [(4, .int v3), (3, .int s0), (0, .ref (ad 23)), (1, .int x1), (2, .int x2)]) hx hb dX10_which_51 hl (k := 4) rfl (by rw [ev3]; rfl) (by decide) rfl (fun ls hl => ?_)
            refine lv_goto (tgt := 22) hx hb dX10_which_54 (by decide) ?_
            exact ih22 x1 x2 s0 v3 f_known f_thrown f_trial f_worth _ _ _ h hw (lv_sub hl [2, 3, 4, 1, 0] rfl)
          have J49 : ∀ (x1 : Int32) (x2 : Int32) (x4 : Int32) (f_known : Int32) (f_thrown : Int32) (f_trial : Nat → Int32) (f_worth : Nat → Int32) (H : Heap) (locs : List Loc) (ls : Array Slot), wp_X10_which_b49 f_clock f_gates f_kind f_page f_second f_seen f_seenBehind f_seenGate f_seenWas f_seenWorth f_source Q (wp_X10_which_h9 f_clock f_gates f_kind f_page f_second f_seen f_seenBehind f_seenGate f_seenWas f_seenWorth f_source Q  n9) (wp_X10_which_h22 f_clock f_gates f_kind f_page f_second f_seen f_seenBehind f_seenGate f_seenWas f_seenWorth f_source Q (wp_X10_which_h9 f_clock f_gates f_kind f_page f_second f_seen f_seenBehind f_seenGate f_seenWas f_seenWorth f_source Q  n9) n22) x1 x2 x4 f_known f_thrown f_trial f_worth → gW D s A (wM ad cI cZ f_thrown f_text f_textSize f_place f_chips f_gates f_kind f_source f_second f_clock f_readChips f_readPins f_readGates f_readKind f_readLies f_readSource f_readSecond f_readClock f_page f_trial f_book f_doings f_kept f_isKept f_seen f_seenBehind f_seenGate f_seenWorth f_seenWas f_seed f_worth f_known f_hand f_goes f_takes f_crossed f_last f_lastNow f_states X) H locs → lv_has ls 5 [(0, .ref (ad 23)), (1, .int x1), (2, .int x2), (4, .int x4)] → W p l e ({ frames := 4, cells := 0, slots := 0, locals := 93 } : Room) s m args below meth c H locs 0 0 Z (F0 m 49 ls []) := by
            intro x1 x2 x4 f_known f_thrown f_trial f_worth H locs ls h hw hl
            unfold wp_X10_which_b49 at h
            refine lv_iconst (v := 0) hx hb dX10_which_49 (by decide) ?_
            exact J50 x1 x2 x4 (0 : Int32) f_known f_thrown f_trial f_worth _ _ _ h hw (lv_sub hl [0, 1, 2, 3] rfl)
          unfold wp_X10_which_b22 at h
          refine lv_iload hx hb dX10_which_22 (lv_at hl 4 rfl) ?_
          refine lv_aload_n hx hb dX10_which_24 rfl (lv_at hl 0 rfl) ?_
          refine gM_X10_231_main E hw dX10_which_25 ?_
          refine lv_icmp_ge (tgt := 57) hx hb dX10_which_28 (by decide) (fun c4 => ?_) (fun c4 => ?_)
          · have h := h.1 c4
            refine lv_iload_n hx hb dX10_which_57 rfl (lv_at hl 1 rfl) ?_
            refine lv_iload_n hx hb dX10_which_58 rfl (lv_at hl 3 rfl) ?_
            refine lv_if_eq (tgt := 68) hx hb dX10_which_59 (by decide) (fun c5 => ?_) (fun c5 => ?_)
            · have h := h.1 c5
              refine lv_iconst (v := 0) hx hb dX10_which_68 (by decide) ?_
              exact J69 x2 x1 (0 : Int32) f_known f_thrown f_trial f_worth _ _ _ h hw (lv_sub hl [0, 2] rfl)
            · have h := h.2 c5
              refine lv_iconst (v := 1) hx hb dX10_which_62 (by decide) ?_
              refine lv_iload_n hx hb dX10_which_63 rfl (lv_at hl 2 rfl) ?_
              refine lv_ishl hx hb dX10_which_64 ?_
              refine lv_goto (tgt := 69) hx hb dX10_which_65 (by decide) ?_
              exact J69 x2 x1 (((1 : Int32) <<< (x2 &&& 31))) f_known f_thrown f_trial f_worth _ _ _ h hw (lv_sub hl [0, 2] rfl)
          · have h := h.2 c4
            refine lv_iload_n hx hb dX10_which_31 rfl (lv_at hl 3 rfl) ?_
            refine lv_if_eq (tgt := 49) hx hb dX10_which_32 (by decide) (fun c6 => ?_) (fun c6 => ?_)
            · have h := h.1 c6
              exact J49 x1 x2 x4 f_known f_thrown f_trial f_worth _ _ _ h hw (lv_sub hl [0, 1, 2, 4] rfl)
            · have h := h.2 c6
              refine lv_aload_n hx hb dX10_which_35 rfl (lv_at hl 0 rfl) ?_
              refine lv_iload_n hx hb dX10_which_36 rfl (lv_at hl 2 rfl) ?_
              refine lv_iload hx hb dX10_which_37 (lv_at hl 4 rfl) ?_
              refine g_aI E hw (g_rV E hw (c_X10_isSo h _) ym_X10_isSo k_788 ⟨rfl, rfl⟩ ⟨Nat.le_of_ble_eq_true rfl, Nat.le_of_ble_eq_true rfl⟩ 23 rfl rfl rfl rfl hl.1 rfl (Nat.le_of_ble_eq_true rfl) ⟨Nat.zero_le _, Nat.zero_le _⟩ dX10_which_39) (fun r7 u H locs hq hw => ?_)
              obtain ⟨y8, y9, y10, hu, h⟩ := hq
              rw [hu] at hw
              refine lv_if_eq (tgt := 49) hx hb dX10_which_42 (by decide) (fun c11 => ?_) (fun c11 => ?_)
              · have h := h.1 c11
                exact J49 x1 x2 x4 y8 f_thrown y9 y10 _ _ _ h hw (lv_sub hl [0, 1, 2, 4] rfl)
              · have h := h.2 c11
                refine lv_iconst (v := 1) hx hb dX10_which_45 (by decide) ?_
                refine lv_goto (tgt := 50) hx hb dX10_which_46 (by decide) ?_
                exact J50 x1 x2 x4 (1 : Int32) y8 f_thrown y9 y10 _ _ _ h hw (lv_sub hl [0, 1, 2, 4] rfl)
      unfold wp_X10_which_b9 at h
      refine lv_iload_n hx hb dX10_which_9 rfl (lv_at hl 2 rfl) ?_
      refine lv_aload_n hx hb dX10_which_10 rfl (lv_at hl 0 rfl) ?_
      refine gM_X10_87_main E hw dX10_which_11 ?_
      refine lv_icmp_ge (tgt := 77) hx hb dX10_which_14 (by decide) (fun c12 => ?_) (fun c12 => ?_)
      · have h := h.1 c12
        refine lv_iload_n hx hb dX10_which_77 rfl (lv_at hl 1 rfl) ?_
        exact hret _ _ _ _ _ _ ⟨_, _, _, _, rfl, h⟩ hw dX10_which_78
      · have h := h.2 c12
        refine lv_iconst (v := 1) hx hb dX10_which_17 (by decide) ?_
        refine lv_istore_n (lv' := [(3, .int (1 : Int32)), (0, .ref (ad 23)), (1, .int x1), (2, .int x2)]) hx hb dX10_which_18 rfl hl (by decide) rfl (fun ls hl => ?_)
        refine lv_iconst (v := 0) hx hb dX10_which_19 (by decide) ?_
        refine lv_istore (lv' := [(4, .int (0 : Int32)), (3, .int (1 : Int32)), (0, .ref (ad 23)), (1, .int x1), (2, .int x2)]) hx hb dX10_which_20 hl (by decide) rfl (fun ls hl => ?_)
        obtain ⟨n, h⟩ := h
        exact L22 n x1 x2 (1 : Int32) (0 : Int32) f_known f_thrown f_trial f_worth _ _ _ h hw (lv_sub hl [2, 3, 4, 1, 0] rfl)
  unfold wp_X10_which at h
  refine lv_aload_n hx hb dX10_which_0 rfl (lv_at hl 0 rfl) ?_
  refine lv_iconst (v := 0) hx hb dX10_which_1 (by decide) ?_
  refine pM_X10_84_main E hw dX10_which_2 (fun H locs hw => ?_)
  refine lv_iconst (v := 0) hx hb dX10_which_5 (by decide) ?_
  refine lv_istore_n (lv' := [(1, .int (0 : Int32)), (0, .ref (ad 23))]) hx hb dX10_which_6 rfl hl (by decide) rfl (fun ls hl => ?_)
  refine lv_iconst (v := 0) hx hb dX10_which_7 (by decide) ?_
  refine lv_istore_n (lv' := [(2, .int (0 : Int32)), (1, .int (0 : Int32)), (0, .ref (ad 23))]) hx hb dX10_which_8 rfl hl (by decide) rfl (fun ls hl => ?_)
  obtain ⟨n, h⟩ := h
  exact L9 n (0 : Int32) (0 : Int32) f_known (0 : Int32) f_trial f_worth _ _ _ h hw (lv_sub hl [2, 1, 0] rfl)
set_option maxRecDepth 100000 in
set_option maxHeartbeats 4000000 in
theorem c_X10_thereBy {l : Launch} {D : va_G} {cI cZ : ClassId} {ad : Nat → Nat} {f_thrown : Int32} {f_text : Nat → Int32} {f_textSize : Int32} {f_place : Int32} {f_chips : Int32} {f_gates : Int32} {f_kind : Nat → Int32} {f_source : Nat → Int32} {f_second : Nat → Int32} {f_clock : Nat → Int32} {f_readChips : Int32} {f_readPins : Int32} {f_readGates : Int32} {f_readKind : Nat → Int32} {f_readLies : Nat → Int32} {f_readSource : Nat → Int32} {f_readSecond : Nat → Int32} {f_readClock : Nat → Int32} {f_page : Nat → Int32} {f_trial : Nat → Int32} {f_book : Nat → Int32} {f_doings : Int32} {f_kept : Nat → Int32} {f_isKept : Nat → Int32} {f_seen : Int32} {f_seenBehind : Nat → Int32} {f_seenGate : Nat → Int32} {f_seenWorth : Nat → Int32} {f_seenWas : Nat → Int32} {f_seed : Int64} {f_worth : Nat → Int32} {f_known : Int32} {f_hand : Nat → Int32} {f_goes : Nat → Int32} {f_takes : Int32} {f_crossed : Int32} {f_last : Int32} {f_lastNow : Int32} {f_states : Nat → Int32} {X : va_W} {p1 : Int32} {Q : Int32 → Prop} (h : wp_X10_thereBy f_gates f_page f_second f_source p1 Q) : CtI l yX10_thereBy cX10_thereBy 6 (some .int) ({ frames := 1, cells := 0, slots := 0, locals := 22 } : Room) D [(cI, .int), (cZ, .boolean)] [.ref (ad 23), .int p1] (wM ad cI cZ f_thrown f_text f_textSize f_place f_chips f_gates f_kind f_source f_second f_clock f_readChips f_readPins f_readGates f_readKind f_readLies f_readSource f_readSecond f_readClock f_page f_trial f_book f_doings f_kept f_isKept f_seen f_seenBehind f_seenGate f_seenWorth f_seenWas f_seed f_worth f_known f_hand f_goes f_takes f_crossed f_last f_lastNow f_states X) (fun r u => u = (wM ad cI cZ f_thrown f_text f_textSize f_place f_chips f_gates f_kind f_source f_second f_clock f_readChips f_readPins f_readGates f_readKind f_readLies f_readSource f_readSecond f_readClock f_page f_trial f_book f_doings f_kept f_isKept f_seen f_seenBehind f_seenGate f_seenWorth f_seenWas f_seed f_worth f_known f_hand f_goes f_takes f_crossed f_last f_lastNow f_states X) ∧ Q r) := by
  refine CtI.of (by decide) rfl (Nat.le_of_ble_eq_true rfl) ?_
  intro p e s m args below meth c A Z E hret ls hl hw
  have E : gE p m c cX10_thereBy 6 s args RX10 D [(cI, .int), (cZ, .boolean)] A := E
  have hx := E.1.1
  have hb := E.1.2.1
  have hl : lv_has ls 6 [(0, .ref (ad 23)), (1, .int p1)] := hl
  have L46 : ∀ (n : Nat) (x2 : Int32) (x3 : Int32) (H : Heap) (locs : List Loc) (ls : Array Slot), wp_X10_thereBy_h46 f_gates f_page f_second f_source p1 Q  n x2 x3 → gW D s A (wM ad cI cZ f_thrown f_text f_textSize f_place f_chips f_gates f_kind f_source f_second f_clock f_readChips f_readPins f_readGates f_readKind f_readLies f_readSource f_readSecond f_readClock f_page f_trial f_book f_doings f_kept f_isKept f_seen f_seenBehind f_seenGate f_seenWorth f_seenWas f_seed f_worth f_known f_hand f_goes f_takes f_crossed f_last f_lastNow f_states X) H locs → lv_has ls 6 [(0, .ref (ad 23)), (2, .int x2), (3, .int x3)] → W p l e ({ frames := 1, cells := 0, slots := 0, locals := 22 } : Room) s m args below meth c H locs 0 0 Z (F0 m 46 ls []) := by
    intro n
    induction n with
    | zero => intro x2 x3 H locs ls h; exact False.elim h
    | succ n46 ih46 =>
      intro x2 x3 H locs ls h hw hl
      have h : wp_X10_thereBy_b46 f_gates f_page f_second f_source p1 Q (wp_X10_thereBy_h46 f_gates f_page f_second f_source p1 Q  n46) x2 x3 := h
      have L57 : ∀ (n : Nat) (x2 : Int32) (x3 : Int32) (x4 : Int32) (H : Heap) (locs : List Loc) (ls : Array Slot), wp_X10_thereBy_h57 f_gates f_page f_second f_source p1 Q (wp_X10_thereBy_h46 f_gates f_page f_second f_source p1 Q  n46) n x2 x3 x4 → gW D s A (wM ad cI cZ f_thrown f_text f_textSize f_place f_chips f_gates f_kind f_source f_second f_clock f_readChips f_readPins f_readGates f_readKind f_readLies f_readSource f_readSecond f_readClock f_page f_trial f_book f_doings f_kept f_isKept f_seen f_seenBehind f_seenGate f_seenWorth f_seenWas f_seed f_worth f_known f_hand f_goes f_takes f_crossed f_last f_lastNow f_states X) H locs → lv_has ls 6 [(0, .ref (ad 23)), (2, .int x2), (3, .int x3), (4, .int x4)] → W p l e ({ frames := 1, cells := 0, slots := 0, locals := 22 } : Room) s m args below meth c H locs 0 0 Z (F0 m 57 ls []) := by
        intro n
        induction n with
        | zero => intro x2 x3 x4 H locs ls h; exact False.elim h
        | succ n57 ih57 =>
          intro x2 x3 x4 H locs ls h hw hl
          have h : wp_X10_thereBy_b57 f_gates f_page f_second f_source p1 Q (wp_X10_thereBy_h46 f_gates f_page f_second f_source p1 Q  n46) (wp_X10_thereBy_h57 f_gates f_page f_second f_source p1 Q (wp_X10_thereBy_h46 f_gates f_page f_second f_source p1 Q  n46) n57) x2 x3 x4 := h
          have J141 : ∀ (x3 : Int32) (x4 : Int32) (s0 : Int32) (s1 : Int32) (H : Heap) (locs : List Loc) (ls : Array Slot), wp_X10_thereBy_b141 f_gates f_page f_second f_source p1 Q (wp_X10_thereBy_h46 f_gates f_page f_second f_source p1 Q  n46) (wp_X10_thereBy_h57 f_gates f_page f_second f_source p1 Q (wp_X10_thereBy_h46 f_gates f_page f_second f_source p1 Q  n46) n57) x3 x4 s0 s1 → gW D s A (wM ad cI cZ f_thrown f_text f_textSize f_place f_chips f_gates f_kind f_source f_second f_clock f_readChips f_readPins f_readGates f_readKind f_readLies f_readSource f_readSecond f_readClock f_page f_trial f_book f_doings f_kept f_isKept f_seen f_seenBehind f_seenGate f_seenWorth f_seenWas f_seed f_worth f_known f_hand f_goes f_takes f_crossed f_last f_lastNow f_states X) H locs → lv_has ls 6 [(0, .ref (ad 23)), (3, .int x3), (4, .int x4)] → W p l e ({ frames := 1, cells := 0, slots := 0, locals := 22 } : Room) s m args below meth c H locs 0 0 Z (F0 m 141 ls [.int s1, .int s0]) := by
            intro x3 x4 s0 s1 H locs ls h hw hl
            unfold wp_X10_thereBy_b141 at h
            refine lv_iand hx hb dX10_thereBy_141 ?_
            refine lv_topi (fun v1 ev1 => ?_)
            have h := h v1 ev1
            refine lv_istore_n (lv' := [(2, .int v1), (0, .ref (ad 23)), (3, .int x3), (4, .int x4)]) hx hb dX10_thereBy_142 rfl hl (by decide) rfl (fun ls hl => ?_)
            obtain ⟨v2, ev2⟩ : ∃ y : Int32, y = x4 + 1 := ⟨_, rfl⟩
            have h := h v2 ev2
            refine lv_iinc (v := v2) (lv' := [(4, .int v2), (2, .int v1), (0, .ref (ad 23)), (3, .int x3)]) hx hb dX10_thereBy_143 hl (k := 3) rfl (by rw [ev2]; rfl) (by decide) rfl (fun ls hl => ?_)
            refine lv_goto (tgt := 57) hx hb dX10_thereBy_146 (by decide) ?_
            exact ih57 v1 x3 v2 _ _ _ h hw (lv_sub hl [2, 1, 3, 0] rfl)
          have J123 : ∀ (x2 : Int32) (x3 : Int32) (x4 : Int32) (s0 : Int32) (H : Heap) (locs : List Loc) (ls : Array Slot), wp_X10_thereBy_b123 f_gates f_page f_second f_source p1 Q (wp_X10_thereBy_h46 f_gates f_page f_second f_source p1 Q  n46) (wp_X10_thereBy_h57 f_gates f_page f_second f_source p1 Q (wp_X10_thereBy_h46 f_gates f_page f_second f_source p1 Q  n46) n57) x2 x3 x4 s0 → gW D s A (wM ad cI cZ f_thrown f_text f_textSize f_place f_chips f_gates f_kind f_source f_second f_clock f_readChips f_readPins f_readGates f_readKind f_readLies f_readSource f_readSecond f_readClock f_page f_trial f_book f_doings f_kept f_isKept f_seen f_seenBehind f_seenGate f_seenWorth f_seenWas f_seed f_worth f_known f_hand f_goes f_takes f_crossed f_last f_lastNow f_states X) H locs → lv_has ls 6 [(0, .ref (ad 23)), (2, .int x2), (3, .int x3), (4, .int x4)] → W p l e ({ frames := 1, cells := 0, slots := 0, locals := 22 } : Room) s m args below meth c H locs 0 0 Z (F0 m 123 ls [.int s0]) := by
            intro x2 x3 x4 s0 H locs ls h hw hl
            unfold wp_X10_thereBy_b123 at h
            refine lv_istore (lv' := [(5, .int s0), (0, .ref (ad 23)), (2, .int x2), (3, .int x3), (4, .int x4)]) hx hb dX10_thereBy_123 hl (by decide) rfl (fun ls hl => ?_)
            refine lv_iload_n hx hb dX10_thereBy_125 rfl (lv_at hl 2 rfl) ?_
            refine lv_iload hx hb dX10_thereBy_126 (lv_at hl 0 rfl) ?_
            refine lv_if_eq (tgt := 140) hx hb dX10_thereBy_128 (by decide) (fun c3 => ?_) (fun c3 => ?_)
            · have h := h.1 c3
              refine lv_iconst (v := -1) hx hb dX10_thereBy_140 (by decide) ?_
              exact J141 x3 x4 x2 (-1 : Int32) _ _ _ h hw (lv_sub hl [1, 3, 4] rfl)
            · have h := h.2 c3
              refine lv_iconst (v := 1) hx hb dX10_thereBy_131 (by decide) ?_
              refine lv_iload hx hb dX10_thereBy_132 (lv_at hl 4 rfl) ?_
              refine lv_ishl hx hb dX10_thereBy_134 ?_
              refine lv_iconst (v := -1) hx hb dX10_thereBy_135 (by decide) ?_
              refine lv_ixor hx hb dX10_thereBy_136 ?_
              refine lv_goto (tgt := 141) hx hb dX10_thereBy_137 (by decide) ?_
              exact J141 x3 x4 x2 ((((1 : Int32) <<< (x4 &&& 31)) ^^^ (-1 : Int32))) _ _ _ h hw (lv_sub hl [1, 3, 4] rfl)
          have J122 : ∀ (x2 : Int32) (x3 : Int32) (x4 : Int32) (H : Heap) (locs : List Loc) (ls : Array Slot), wp_X10_thereBy_b122 f_gates f_page f_second f_source p1 Q (wp_X10_thereBy_h46 f_gates f_page f_second f_source p1 Q  n46) (wp_X10_thereBy_h57 f_gates f_page f_second f_source p1 Q (wp_X10_thereBy_h46 f_gates f_page f_second f_source p1 Q  n46) n57) x2 x3 x4 → gW D s A (wM ad cI cZ f_thrown f_text f_textSize f_place f_chips f_gates f_kind f_source f_second f_clock f_readChips f_readPins f_readGates f_readKind f_readLies f_readSource f_readSecond f_readClock f_page f_trial f_book f_doings f_kept f_isKept f_seen f_seenBehind f_seenGate f_seenWorth f_seenWas f_seed f_worth f_known f_hand f_goes f_takes f_crossed f_last f_lastNow f_states X) H locs → lv_has ls 6 [(0, .ref (ad 23)), (2, .int x2), (3, .int x3), (4, .int x4)] → W p l e ({ frames := 1, cells := 0, slots := 0, locals := 22 } : Room) s m args below meth c H locs 0 0 Z (F0 m 122 ls []) := by
            intro x2 x3 x4 H locs ls h hw hl
            unfold wp_X10_thereBy_b122 at h
            refine lv_iconst (v := 0) hx hb dX10_thereBy_122 (by decide) ?_
            exact J123 x2 x3 x4 (0 : Int32) _ _ _ h hw (lv_sub hl [0, 1, 2, 3] rfl)
          have J118 : ∀ (x2 : Int32) (x3 : Int32) (x4 : Int32) (H : Heap) (locs : List Loc) (ls : Array Slot), wp_X10_thereBy_b118 f_gates f_page f_second f_source p1 Q (wp_X10_thereBy_h46 f_gates f_page f_second f_source p1 Q  n46) (wp_X10_thereBy_h57 f_gates f_page f_second f_source p1 Q (wp_X10_thereBy_h46 f_gates f_page f_second f_source p1 Q  n46) n57) x2 x3 x4 → gW D s A (wM ad cI cZ f_thrown f_text f_textSize f_place f_chips f_gates f_kind f_source f_second f_clock f_readChips f_readPins f_readGates f_readKind f_readLies f_readSource f_readSecond f_readClock f_page f_trial f_book f_doings f_kept f_isKept f_seen f_seenBehind f_seenGate f_seenWorth f_seenWas f_seed f_worth f_known f_hand f_goes f_takes f_crossed f_last f_lastNow f_states X) H locs → lv_has ls 6 [(0, .ref (ad 23)), (2, .int x2), (3, .int x3), (4, .int x4)] → W p l e ({ frames := 1, cells := 0, slots := 0, locals := 22 } : Room) s m args below meth c H locs 0 0 Z (F0 m 118 ls []) := by
            intro x2 x3 x4 H locs ls h hw hl
            unfold wp_X10_thereBy_b118 at h
            refine lv_iconst (v := 1) hx hb dX10_thereBy_118 (by decide) ?_
            refine lv_goto (tgt := 123) hx hb dX10_thereBy_119 (by decide) ?_
            exact J123 x2 x3 x4 (1 : Int32) _ _ _ h hw (lv_sub hl [0, 1, 2, 3] rfl)
          have J92 : ∀ (x2 : Int32) (x3 : Int32) (x4 : Int32) (H : Heap) (locs : List Loc) (ls : Array Slot), wp_X10_thereBy_b92 f_gates f_page f_second f_source p1 Q (wp_X10_thereBy_h46 f_gates f_page f_second f_source p1 Q  n46) (wp_X10_thereBy_h57 f_gates f_page f_second f_source p1 Q (wp_X10_thereBy_h46 f_gates f_page f_second f_source p1 Q  n46) n57) x2 x3 x4 → gW D s A (wM ad cI cZ f_thrown f_text f_textSize f_place f_chips f_gates f_kind f_source f_second f_clock f_readChips f_readPins f_readGates f_readKind f_readLies f_readSource f_readSecond f_readClock f_page f_trial f_book f_doings f_kept f_isKept f_seen f_seenBehind f_seenGate f_seenWorth f_seenWas f_seed f_worth f_known f_hand f_goes f_takes f_crossed f_last f_lastNow f_states X) H locs → lv_has ls 6 [(0, .ref (ad 23)), (2, .int x2), (3, .int x3), (4, .int x4)] → W p l e ({ frames := 1, cells := 0, slots := 0, locals := 22 } : Room) s m args below meth c H locs 0 0 Z (F0 m 92 ls []) := by
            intro x2 x3 x4 H locs ls h hw hl
            unfold wp_X10_thereBy_b92 at h
            refine lv_aload_n hx hb dX10_thereBy_92 rfl (lv_at hl 0 rfl) ?_
            refine gM_X10_23_main E hw dX10_thereBy_93 ?_
            refine lv_iload hx hb dX10_thereBy_96 (lv_at hl 3 rfl) ?_
            refine lM_second E hw h.1 dX10_thereBy_98 ?_
            have h := h.2
            refine lv_bipush (v := -9) hx hb dX10_thereBy_99 (by decide) ?_
            refine lv_icmp_eq (tgt := 122) hx hb dX10_thereBy_101 (by decide) (fun c4 => ?_) (fun c4 => ?_)
            · have h := h.1 c4
              exact J122 x2 x3 x4 _ _ _ h hw (lv_sub hl [0, 1, 2, 3] rfl)
            · have h := h.2 c4
              refine lv_iload_n hx hb dX10_thereBy_104 rfl (lv_at hl 1 rfl) ?_
              refine lv_aload_n hx hb dX10_thereBy_105 rfl (lv_at hl 0 rfl) ?_
              refine gM_X10_23_main E hw dX10_thereBy_106 ?_
              refine lv_iload hx hb dX10_thereBy_109 (lv_at hl 3 rfl) ?_
              refine lM_second E hw h.1 dX10_thereBy_111 ?_
              have h := h.2
              refine g_aI E hw (g_rS E hw (c_X10_has h _) ym_X10_has k_680 ⟨rfl, rfl⟩ ⟨Nat.le_of_ble_eq_true rfl, Nat.le_of_ble_eq_true rfl⟩ rfl hl.1 rfl (Nat.le_of_ble_eq_true rfl) ⟨Nat.zero_le _, Nat.zero_le _⟩ dX10_thereBy_112) (fun r5 u H locs hq hw => ?_)
              obtain ⟨hu, h⟩ := hq
              rw [hu] at hw
              refine lv_if_ne (tgt := 122) hx hb dX10_thereBy_115 (by decide) (fun c6 => ?_) (fun c6 => ?_)
              · have h := h.1 c6
                exact J122 x2 x3 x4 _ _ _ h hw (lv_sub hl [0, 1, 2, 3] rfl)
              · have h := h.2 c6
                exact J118 x2 x3 x4 _ _ _ h hw (lv_sub hl [0, 1, 2, 3] rfl)
          unfold wp_X10_thereBy_b57 at h
          refine lv_iload hx hb dX10_thereBy_57 (lv_at hl 3 rfl) ?_
          refine lv_aload_n hx hb dX10_thereBy_59 rfl (lv_at hl 0 rfl) ?_
          refine gM_X10_87_main E hw dX10_thereBy_60 ?_
          refine lv_icmp_ge (tgt := 149) hx hb dX10_thereBy_63 (by decide) (fun c7 => ?_) (fun c7 => ?_)
          · have h := h.1 c7
            obtain ⟨v8, ev8⟩ : ∃ y : Int32, y = x3 + 1 := ⟨_, rfl⟩
            have h := h v8 ev8
            refine lv_iinc (v := v8) (lv' := [(3, .int v8), (0, .ref (ad 23)), (2, .int x2), (4, .int x4)]) hx hb dX10_thereBy_149 hl (k := 2) rfl (by rw [ev8]; rfl) (by decide) rfl (fun ls hl => ?_)
            refine lv_goto (tgt := 46) hx hb dX10_thereBy_152 (by decide) ?_
            exact ih46 x2 v8 _ _ _ h hw (lv_sub hl [1, 2, 0] rfl)
          · have h := h.2 c7
            refine lv_aload_n hx hb dX10_thereBy_66 rfl (lv_at hl 0 rfl) ?_
            refine gM_X10_20_main E hw dX10_thereBy_67 ?_
            refine lv_iload hx hb dX10_thereBy_70 (lv_at hl 3 rfl) ?_
            refine lM_source E hw h.1 dX10_thereBy_72 ?_
            have h := h.2
            refine lv_bipush (v := -9) hx hb dX10_thereBy_73 (by decide) ?_
            refine lv_icmp_eq (tgt := 92) hx hb dX10_thereBy_75 (by decide) (fun c9 => ?_) (fun c9 => ?_)
            · have h := h.1 c9
              exact J92 x2 x3 x4 _ _ _ h hw (lv_sub hl [0, 1, 2, 3] rfl)
            · have h := h.2 c9
              refine lv_iload_n hx hb dX10_thereBy_78 rfl (lv_at hl 1 rfl) ?_
              refine lv_aload_n hx hb dX10_thereBy_79 rfl (lv_at hl 0 rfl) ?_
              refine gM_X10_20_main E hw dX10_thereBy_80 ?_
              refine lv_iload hx hb dX10_thereBy_83 (lv_at hl 3 rfl) ?_
              refine lM_source E hw h.1 dX10_thereBy_85 ?_
              have h := h.2
              refine g_aI E hw (g_rS E hw (c_X10_has h _) ym_X10_has k_680 ⟨rfl, rfl⟩ ⟨Nat.le_of_ble_eq_true rfl, Nat.le_of_ble_eq_true rfl⟩ rfl hl.1 rfl (Nat.le_of_ble_eq_true rfl) ⟨Nat.zero_le _, Nat.zero_le _⟩ dX10_thereBy_86) (fun r10 u H locs hq hw => ?_)
              obtain ⟨hu, h⟩ := hq
              rw [hu] at hw
              refine lv_if_eq (tgt := 118) hx hb dX10_thereBy_89 (by decide) (fun c11 => ?_) (fun c11 => ?_)
              · have h := h.1 c11
                exact J118 x2 x3 x4 _ _ _ h hw (lv_sub hl [0, 1, 2, 3] rfl)
              · have h := h.2 c11
                exact J92 x2 x3 x4 _ _ _ h hw (lv_sub hl [0, 1, 2, 3] rfl)
      unfold wp_X10_thereBy_b46 at h
      refine lv_iload_n hx hb dX10_thereBy_46 rfl (lv_at hl 2 rfl) ?_
      refine lv_aload_n hx hb dX10_thereBy_47 rfl (lv_at hl 0 rfl) ?_
      refine gM_X10_87_main E hw dX10_thereBy_48 ?_
      refine lv_icmp_ge (tgt := 155) hx hb dX10_thereBy_51 (by decide) (fun c12 => ?_) (fun c12 => ?_)
      · have h := h.1 c12
        refine lv_iload_n hx hb dX10_thereBy_155 rfl (lv_at hl 1 rfl) ?_
        refine g_aI E hw (g_rS E hw (c_X10_ones h _) ym_X10_ones k_795 ⟨rfl, rfl⟩ ⟨Nat.le_of_ble_eq_true rfl, Nat.le_of_ble_eq_true rfl⟩ rfl hl.1 rfl (Nat.le_of_ble_eq_true rfl) ⟨Nat.zero_le _, Nat.zero_le _⟩ dX10_thereBy_156) (fun r13 u H locs hq hw => ?_)
        obtain ⟨hu, h⟩ := hq
        rw [hu] at hw
        exact hret _ _ _ _ _ _ ⟨rfl, h⟩ hw dX10_thereBy_159
      · have h := h.2 c12
        refine lv_iconst (v := 0) hx hb dX10_thereBy_54 (by decide) ?_
        refine lv_istore (lv' := [(4, .int (0 : Int32)), (0, .ref (ad 23)), (2, .int x2), (3, .int x3)]) hx hb dX10_thereBy_55 hl (by decide) rfl (fun ls hl => ?_)
        obtain ⟨n, h⟩ := h
        exact L57 n x2 x3 (0 : Int32) _ _ _ h hw (lv_sub hl [1, 2, 3, 0] rfl)
  have L4 : ∀ (n : Nat) (x2 : Int32) (x3 : Int32) (H : Heap) (locs : List Loc) (ls : Array Slot), wp_X10_thereBy_h4 f_gates f_page f_second f_source p1 Q  n x2 x3 → gW D s A (wM ad cI cZ f_thrown f_text f_textSize f_place f_chips f_gates f_kind f_source f_second f_clock f_readChips f_readPins f_readGates f_readKind f_readLies f_readSource f_readSecond f_readClock f_page f_trial f_book f_doings f_kept f_isKept f_seen f_seenBehind f_seenGate f_seenWorth f_seenWas f_seed f_worth f_known f_hand f_goes f_takes f_crossed f_last f_lastNow f_states X) H locs → lv_has ls 6 [(0, .ref (ad 23)), (1, .int p1), (2, .int x2), (3, .int x3)] → W p l e ({ frames := 1, cells := 0, slots := 0, locals := 22 } : Room) s m args below meth c H locs 0 0 Z (F0 m 4 ls []) := by
    intro n
    induction n with
    | zero => intro x2 x3 H locs ls h; exact False.elim h
    | succ n4 ih4 =>
      intro x2 x3 H locs ls h hw hl
      have h : wp_X10_thereBy_b4 f_gates f_page f_second f_source p1 Q (wp_X10_thereBy_h4 f_gates f_page f_second f_source p1 Q  n4) x2 x3 := h
      have J36 : ∀ (x3 : Int32) (s0 : Int32) (s1 : Int32) (H : Heap) (locs : List Loc) (ls : Array Slot), wp_X10_thereBy_b36 f_gates f_page f_second f_source p1 Q (wp_X10_thereBy_h4 f_gates f_page f_second f_source p1 Q  n4) x3 s0 s1 → gW D s A (wM ad cI cZ f_thrown f_text f_textSize f_place f_chips f_gates f_kind f_source f_second f_clock f_readChips f_readPins f_readGates f_readKind f_readLies f_readSource f_readSecond f_readClock f_page f_trial f_book f_doings f_kept f_isKept f_seen f_seenBehind f_seenGate f_seenWorth f_seenWas f_seed f_worth f_known f_hand f_goes f_takes f_crossed f_last f_lastNow f_states X) H locs → lv_has ls 6 [(0, .ref (ad 23)), (1, .int p1), (3, .int x3)] → W p l e ({ frames := 1, cells := 0, slots := 0, locals := 22 } : Room) s m args below meth c H locs 0 0 Z (F0 m 36 ls [.int s1, .int s0]) := by
        intro x3 s0 s1 H locs ls h hw hl
        unfold wp_X10_thereBy_b36 at h
        refine lv_ior hx hb dX10_thereBy_36 ?_
        refine lv_topi (fun v14 ev14 => ?_)
        have h := h v14 ev14
        refine lv_istore_n (lv' := [(2, .int v14), (0, .ref (ad 23)), (1, .int p1), (3, .int x3)]) hx hb dX10_thereBy_37 rfl hl (by decide) rfl (fun ls hl => ?_)
        obtain ⟨v15, ev15⟩ : ∃ y : Int32, y = x3 + 1 := ⟨_, rfl⟩
        have h := h v15 ev15
        refine lv_iinc (v := v15) (lv' := [(3, .int v15), (2, .int v14), (0, .ref (ad 23)), (1, .int p1)]) hx hb dX10_thereBy_38 hl (k := 3) rfl (by rw [ev15]; rfl) (by decide) rfl (fun ls hl => ?_)
        refine lv_goto (tgt := 4) hx hb dX10_thereBy_41 (by decide) ?_
        exact ih4 v14 v15 _ _ _ h hw (lv_sub hl [2, 3, 1, 0] rfl)
      unfold wp_X10_thereBy_b4 at h
      refine lv_iload_n hx hb dX10_thereBy_4 rfl (lv_at hl 3 rfl) ?_
      refine lv_aload_n hx hb dX10_thereBy_5 rfl (lv_at hl 0 rfl) ?_
      refine gM_X10_87_main E hw dX10_thereBy_6 ?_
      refine lv_icmp_ge (tgt := 44) hx hb dX10_thereBy_9 (by decide) (fun c16 => ?_) (fun c16 => ?_)
      · have h := h.1 c16
        refine lv_iconst (v := 0) hx hb dX10_thereBy_44 (by decide) ?_
        refine lv_istore_n (lv' := [(3, .int (0 : Int32)), (0, .ref (ad 23)), (1, .int p1), (2, .int x2)]) hx hb dX10_thereBy_45 rfl hl (by decide) rfl (fun ls hl => ?_)
        obtain ⟨n, h⟩ := h
        exact L46 n x2 (0 : Int32) _ _ _ h hw (lv_sub hl [1, 3, 0] rfl)
      · have h := h.2 c16
        refine lv_iload_n hx hb dX10_thereBy_12 rfl (lv_at hl 2 rfl) ?_
        refine lv_iload_n hx hb dX10_thereBy_13 rfl (lv_at hl 1 rfl) ?_
        refine lv_aload_n hx hb dX10_thereBy_14 rfl (lv_at hl 0 rfl) ?_
        refine gM_X10_44_main E hw dX10_thereBy_15 ?_
        refine lv_bipush (v := 10) hx hb dX10_thereBy_18 (by decide) ?_
        refine lv_iload_n hx hb dX10_thereBy_20 rfl (lv_at hl 3 rfl) ?_
        refine lv_iadd hx hb dX10_thereBy_21 ?_
        refine lM_page E hw h.1 dX10_thereBy_22 ?_
        have h := h.2
        refine g_aI E hw (g_rS E hw (c_X10_has h _) ym_X10_has k_680 ⟨rfl, rfl⟩ ⟨Nat.le_of_ble_eq_true rfl, Nat.le_of_ble_eq_true rfl⟩ rfl hl.1 rfl (Nat.le_of_ble_eq_true rfl) ⟨Nat.zero_le _, Nat.zero_le _⟩ dX10_thereBy_23) (fun r17 u H locs hq hw => ?_)
        obtain ⟨hu, h⟩ := hq
        rw [hu] at hw
        refine lv_if_eq (tgt := 35) hx hb dX10_thereBy_26 (by decide) (fun c18 => ?_) (fun c18 => ?_)
        · have h := h.1 c18
          refine lv_iconst (v := 0) hx hb dX10_thereBy_35 (by decide) ?_
          exact J36 x3 x2 (0 : Int32) _ _ _ h hw (lv_sub hl [0, 1, 3] rfl)
        · have h := h.2 c18
          refine lv_iconst (v := 1) hx hb dX10_thereBy_29 (by decide) ?_
          refine lv_iload_n hx hb dX10_thereBy_30 rfl (lv_at hl 3 rfl) ?_
          refine lv_ishl hx hb dX10_thereBy_31 ?_
          refine lv_goto (tgt := 36) hx hb dX10_thereBy_32 (by decide) ?_
          exact J36 x3 x2 (((1 : Int32) <<< (x3 &&& 31))) _ _ _ h hw (lv_sub hl [0, 1, 3] rfl)
  unfold wp_X10_thereBy at h
  refine lv_iconst (v := 0) hx hb dX10_thereBy_0 (by decide) ?_
  refine lv_istore_n (lv' := [(2, .int (0 : Int32)), (0, .ref (ad 23)), (1, .int p1)]) hx hb dX10_thereBy_1 rfl hl (by decide) rfl (fun ls hl => ?_)
  refine lv_iconst (v := 0) hx hb dX10_thereBy_2 (by decide) ?_
  refine lv_istore_n (lv' := [(3, .int (0 : Int32)), (2, .int (0 : Int32)), (0, .ref (ad 23)), (1, .int p1)]) hx hb dX10_thereBy_3 rfl hl (by decide) rfl (fun ls hl => ?_)
  obtain ⟨n, h⟩ := h
  exact L4 n (0 : Int32) (0 : Int32) _ _ _ h hw (lv_sub hl [2, 3, 1, 0] rfl)
set_option maxRecDepth 100000 in
set_option maxHeartbeats 4000000 in
theorem c_X10_share {l : Launch} {D : va_G} {cI cZ : ClassId} {ad : Nat → Nat} {f_thrown : Int32} {f_text : Nat → Int32} {f_textSize : Int32} {f_place : Int32} {f_chips : Int32} {f_gates : Int32} {f_kind : Nat → Int32} {f_source : Nat → Int32} {f_second : Nat → Int32} {f_clock : Nat → Int32} {f_readChips : Int32} {f_readPins : Int32} {f_readGates : Int32} {f_readKind : Nat → Int32} {f_readLies : Nat → Int32} {f_readSource : Nat → Int32} {f_readSecond : Nat → Int32} {f_readClock : Nat → Int32} {f_page : Nat → Int32} {f_trial : Nat → Int32} {f_book : Nat → Int32} {f_doings : Int32} {f_kept : Nat → Int32} {f_isKept : Nat → Int32} {f_seen : Int32} {f_seenBehind : Nat → Int32} {f_seenGate : Nat → Int32} {f_seenWorth : Nat → Int32} {f_seenWas : Nat → Int32} {f_seed : Int64} {f_worth : Nat → Int32} {f_known : Int32} {f_hand : Nat → Int32} {f_goes : Nat → Int32} {f_takes : Int32} {f_crossed : Int32} {f_last : Int32} {f_lastNow : Int32} {f_states : Nat → Int32} {X : va_W} {p1 : Int32} {p2 : Int32} {Q : Int32 → Int32 → Prop} (h : wp_X10_share f_chips f_gates f_page f_second f_source f_thrown p1 p2 Q) : CtI l yX10_share cX10_share 6 (some .int) ({ frames := 2, cells := 0, slots := 0, locals := 47 } : Room) D [(cI, .int), (cZ, .boolean)] [.ref (ad 23), .int p1, .int p2] (wM ad cI cZ f_thrown f_text f_textSize f_place f_chips f_gates f_kind f_source f_second f_clock f_readChips f_readPins f_readGates f_readKind f_readLies f_readSource f_readSecond f_readClock f_page f_trial f_book f_doings f_kept f_isKept f_seen f_seenBehind f_seenGate f_seenWorth f_seenWas f_seed f_worth f_known f_hand f_goes f_takes f_crossed f_last f_lastNow f_states X) (fun r u => ∃ w0, u = (wM ad cI cZ w0 f_text f_textSize f_place f_chips f_gates f_kind f_source f_second f_clock f_readChips f_readPins f_readGates f_readKind f_readLies f_readSource f_readSecond f_readClock f_page f_trial f_book f_doings f_kept f_isKept f_seen f_seenBehind f_seenGate f_seenWorth f_seenWas f_seed f_worth f_known f_hand f_goes f_takes f_crossed f_last f_lastNow f_states X) ∧ Q r w0) := by
  refine CtI.of (by decide) rfl (Nat.le_of_ble_eq_true rfl) ?_
  intro p e s m args below meth c A Z E hret ls hl hw
  have E : gE p m c cX10_share 6 s args RX10 D [(cI, .int), (cZ, .boolean)] A := E
  have hx := E.1.1
  have hb := E.1.2.1
  have hl : lv_has ls 6 [(0, .ref (ad 23)), (1, .int p1), (2, .int p2)] := hl
  have L20 : ∀ (n : Nat) (x3 : Int32) (x4 : Int32) (f_thrown : Int32) (H : Heap) (locs : List Loc) (ls : Array Slot), wp_X10_share_h20 f_chips f_gates f_page f_second f_source p1 p2 Q  n x3 x4 f_thrown → gW D s A (wM ad cI cZ f_thrown f_text f_textSize f_place f_chips f_gates f_kind f_source f_second f_clock f_readChips f_readPins f_readGates f_readKind f_readLies f_readSource f_readSecond f_readClock f_page f_trial f_book f_doings f_kept f_isKept f_seen f_seenBehind f_seenGate f_seenWorth f_seenWas f_seed f_worth f_known f_hand f_goes f_takes f_crossed f_last f_lastNow f_states X) H locs → lv_has ls 6 [(0, .ref (ad 23)), (1, .int p1), (2, .int p2), (3, .int x3), (4, .int x4)] → W p l e ({ frames := 2, cells := 0, slots := 0, locals := 47 } : Room) s m args below meth c H locs 0 0 Z (F0 m 20 ls []) := by
    intro n
    induction n with
    | zero => intro x3 x4 f_thrown H locs ls h; exact False.elim h
    | succ n20 ih20 =>
      intro x3 x4 f_thrown H locs ls h hw hl
      have h : wp_X10_share_b20 f_chips f_gates f_page f_second f_source p1 p2 Q (wp_X10_share_h20 f_chips f_gates f_page f_second f_source p1 p2 Q  n20) x3 x4 f_thrown := h
      have J88 : ∀ (x4 : Int32) (s0 : Int32) (s1 : Int32) (f_thrown : Int32) (H : Heap) (locs : List Loc) (ls : Array Slot), wp_X10_share_b88 f_chips f_gates f_page f_second f_source p1 p2 Q (wp_X10_share_h20 f_chips f_gates f_page f_second f_source p1 p2 Q  n20) x4 s0 s1 f_thrown → gW D s A (wM ad cI cZ f_thrown f_text f_textSize f_place f_chips f_gates f_kind f_source f_second f_clock f_readChips f_readPins f_readGates f_readKind f_readLies f_readSource f_readSecond f_readClock f_page f_trial f_book f_doings f_kept f_isKept f_seen f_seenBehind f_seenGate f_seenWorth f_seenWas f_seed f_worth f_known f_hand f_goes f_takes f_crossed f_last f_lastNow f_states X) H locs → lv_has ls 6 [(0, .ref (ad 23)), (1, .int p1), (2, .int p2), (4, .int x4)] → W p l e ({ frames := 2, cells := 0, slots := 0, locals := 47 } : Room) s m args below meth c H locs 0 0 Z (F0 m 88 ls [.int s1, .int s0]) := by
        intro x4 s0 s1 f_thrown H locs ls h hw hl
        unfold wp_X10_share_b88 at h
        refine lv_iadd hx hb dX10_share_88 ?_
        refine lv_topi (fun v1 ev1 => ?_)
        have h := h v1 ev1
        refine lv_istore_n (lv' := [(3, .int v1), (0, .ref (ad 23)), (1, .int p1), (2, .int p2), (4, .int x4)]) hx hb dX10_share_89 rfl hl (by decide) rfl (fun ls hl => ?_)
        obtain ⟨v2, ev2⟩ : ∃ y : Int32, y = x4 + 1 := ⟨_, rfl⟩
        have h := h v2 ev2
        refine lv_iinc (v := v2) (lv' := [(4, .int v2), (3, .int v1), (0, .ref (ad 23)), (1, .int p1), (2, .int p2)]) hx hb dX10_share_90 hl (k := 4) rfl (by rw [ev2]; rfl) (by decide) rfl (fun ls hl => ?_)
        refine lv_goto (tgt := 20) hx hb dX10_share_93 (by decide) ?_
        exact ih20 v1 v2 f_thrown _ _ _ h hw (lv_sub hl [2, 3, 4, 1, 0] rfl)
      unfold wp_X10_share_b20 at h
      refine lv_iload hx hb dX10_share_20 (lv_at hl 4 rfl) ?_
      refine lv_iconst (v := 1) hx hb dX10_share_22 (by decide) ?_
      refine lv_aload_n hx hb dX10_share_23 rfl (lv_at hl 0 rfl) ?_
      refine gM_X10_13_main E hw dX10_share_24 ?_
      refine lv_ishl hx hb dX10_share_27 ?_
      refine lv_icmp_ge (tgt := 96) hx hb dX10_share_28 (by decide) (fun c3 => ?_) (fun c3 => ?_)
      · have h := h.1 c3
        refine lv_iload_n hx hb dX10_share_96 rfl (lv_at hl 3 rfl) ?_
        refine lv_aload_n hx hb dX10_share_97 rfl (lv_at hl 0 rfl) ?_
        refine gM_X10_13_main E hw dX10_share_98 ?_
        refine g_aI E hw (g_rS E hw (c_X10_factorial h _) ym_X10_factorial k_798 ⟨rfl, rfl⟩ ⟨Nat.le_of_ble_eq_true rfl, Nat.le_of_ble_eq_true rfl⟩ rfl hl.1 rfl (Nat.le_of_ble_eq_true rfl) ⟨Nat.zero_le _, Nat.zero_le _⟩ dX10_share_101) (fun r4 u H locs hq hw => ?_)
        obtain ⟨hu, h⟩ := hq
        rw [hu] at hw
        refine lv_iload_n hx hb dX10_share_104 rfl (lv_at hl 2 rfl) ?_
        refine g_aI E hw (g_rS E hw (c_X10_fraction h _) ym_X10_fraction k_804 ⟨rfl, rfl⟩ ⟨Nat.le_of_ble_eq_true rfl, Nat.le_of_ble_eq_true rfl⟩ rfl hl.1 rfl (Nat.le_of_ble_eq_true rfl) ⟨Nat.zero_le _, Nat.zero_le _⟩ dX10_share_105) (fun r5 u H locs hq hw => ?_)
        obtain ⟨hu, h⟩ := hq
        rw [hu] at hw
        exact hret _ _ _ _ _ _ ⟨_, rfl, h⟩ hw dX10_share_108
      · have h := h.2 c3
        refine lv_iload hx hb dX10_share_31 (lv_at hl 4 rfl) ?_
        refine g_aI E hw (g_rS E hw (c_X10_ones h _) ym_X10_ones k_795 ⟨rfl, rfl⟩ ⟨Nat.le_of_ble_eq_true rfl, Nat.le_of_ble_eq_true rfl⟩ rfl hl.1 rfl (Nat.le_of_ble_eq_true rfl) ⟨Nat.zero_le _, Nat.zero_le _⟩ dX10_share_33) (fun r6 u H locs hq hw => ?_)
        obtain ⟨hu, h⟩ := hq
        rw [hu] at hw
        refine lv_istore (lv' := [(5, .int r6), (0, .ref (ad 23)), (1, .int p1), (2, .int p2), (3, .int x3), (4, .int x4)]) hx hb dX10_share_36 hl (by decide) rfl (fun ls hl => ?_)
        refine lv_iload_n hx hb dX10_share_38 rfl (lv_at hl 4 rfl) ?_
        refine lv_iload hx hb dX10_share_39 (lv_at hl 5 rfl) ?_
        refine lv_iload_n hx hb dX10_share_41 rfl (lv_at hl 2 rfl) ?_
        refine g_aI E hw (g_rS E hw (c_X10_has h _) ym_X10_has k_680 ⟨rfl, rfl⟩ ⟨Nat.le_of_ble_eq_true rfl, Nat.le_of_ble_eq_true rfl⟩ rfl hl.1 rfl (Nat.le_of_ble_eq_true rfl) ⟨Nat.zero_le _, Nat.zero_le _⟩ dX10_share_42) (fun r7 u H locs hq hw => ?_)
        obtain ⟨hu, h⟩ := hq
        rw [hu] at hw
        refine lv_if_eq (tgt := 52) hx hb dX10_share_45 (by decide) (fun c8 => ?_) (fun c8 => ?_)
        · have h := h.1 c8
          refine lv_iload hx hb dX10_share_52 (lv_at hl 0 rfl) ?_
          refine g_aI E hw (g_rS E hw (c_X10_factorial h _) ym_X10_factorial k_798 ⟨rfl, rfl⟩ ⟨Nat.le_of_ble_eq_true rfl, Nat.le_of_ble_eq_true rfl⟩ rfl hl.1 rfl (Nat.le_of_ble_eq_true rfl) ⟨Nat.zero_le _, Nat.zero_le _⟩ dX10_share_54) (fun r9 u H locs hq hw => ?_)
          obtain ⟨hu, h⟩ := hq
          rw [hu] at hw
          refine lv_aload_n hx hb dX10_share_57 rfl (lv_at hl 1 rfl) ?_
          refine gM_X10_13_main E hw dX10_share_58 ?_
          refine lv_iconst (v := 1) hx hb dX10_share_61 (by decide) ?_
          refine lv_isub hx hb dX10_share_62 ?_
          refine lv_iload hx hb dX10_share_63 (lv_at hl 0 rfl) ?_
          refine lv_isub hx hb dX10_share_65 ?_
          refine g_aI E hw (g_rS E hw (c_X10_factorial h _) ym_X10_factorial k_798 ⟨rfl, rfl⟩ ⟨Nat.le_of_ble_eq_true rfl, Nat.le_of_ble_eq_true rfl⟩ rfl hl.1 rfl (Nat.le_of_ble_eq_true rfl) ⟨Nat.zero_le _, Nat.zero_le _⟩ dX10_share_66) (fun r10 u H locs hq hw => ?_)
          obtain ⟨hu, h⟩ := hq
          rw [hu] at hw
          refine lv_imul hx hb dX10_share_69 ?_
          refine lv_aload_n hx hb dX10_share_70 rfl (lv_at hl 1 rfl) ?_
          refine lv_iload hx hb dX10_share_71 (lv_at hl 5 rfl) ?_
          refine lv_iconst (v := 1) hx hb dX10_share_73 (by decide) ?_
          refine lv_iload_n hx hb dX10_share_74 rfl (lv_at hl 2 rfl) ?_
          refine lv_ishl hx hb dX10_share_75 ?_
          refine lv_ior hx hb dX10_share_76 ?_
          refine g_aI E hw (g_rV E hw (c_X10_thereBy h _) ym_X10_thereBy k_801 ⟨rfl, rfl⟩ ⟨Nat.le_of_ble_eq_true rfl, Nat.le_of_ble_eq_true rfl⟩ 23 rfl rfl rfl rfl hl.1 rfl (Nat.le_of_ble_eq_true rfl) ⟨Nat.zero_le _, Nat.zero_le _⟩ dX10_share_77) (fun r11 u H locs hq hw => ?_)
          obtain ⟨hu, h⟩ := hq
          rw [hu] at hw
          refine lv_aload_n hx hb dX10_share_80 rfl (lv_at hl 1 rfl) ?_
          refine lv_iload hx hb dX10_share_81 (lv_at hl 5 rfl) ?_
          refine g_aI E hw (g_rV E hw (c_X10_thereBy h _) ym_X10_thereBy k_801 ⟨rfl, rfl⟩ ⟨Nat.le_of_ble_eq_true rfl, Nat.le_of_ble_eq_true rfl⟩ 23 rfl rfl rfl rfl hl.1 rfl (Nat.le_of_ble_eq_true rfl) ⟨Nat.zero_le _, Nat.zero_le _⟩ dX10_share_83) (fun r12 u H locs hq hw => ?_)
          obtain ⟨hu, h⟩ := hq
          rw [hu] at hw
          refine lv_isub hx hb dX10_share_86 ?_
          refine lv_imul hx hb dX10_share_87 ?_
          exact J88 x4 x3 (((r9 * r10) * (r11 - r12))) f_thrown _ _ _ h hw (lv_sub hl [1, 2, 3, 5] rfl)
        · have h := h.2 c8
          refine lv_iconst (v := 0) hx hb dX10_share_48 (by decide) ?_
          refine lv_goto (tgt := 88) hx hb dX10_share_49 (by decide) ?_
          exact J88 x4 x3 (0 : Int32) f_thrown _ _ _ h hw (lv_sub hl [1, 2, 3, 5] rfl)
  unfold wp_X10_share at h
  refine lv_aload_n hx hb dX10_share_0 rfl (lv_at hl 0 rfl) ?_
  refine lv_iconst (v := 0) hx hb dX10_share_1 (by decide) ?_
  refine pM_X10_84_main E hw dX10_share_2 (fun H locs hw => ?_)
  refine lv_aload_n hx hb dX10_share_5 rfl (lv_at hl 0 rfl) ?_
  refine lv_iload_n hx hb dX10_share_6 rfl (lv_at hl 1 rfl) ?_
  refine g_aI E hw (g_rV E hw (c_X10_noChip h _) ym_X10_noChip k_708 ⟨rfl, rfl⟩ ⟨Nat.le_of_ble_eq_true rfl, Nat.le_of_ble_eq_true rfl⟩ 23 rfl rfl rfl rfl hl.1 rfl (Nat.le_of_ble_eq_true rfl) ⟨Nat.zero_le _, Nat.zero_le _⟩ dX10_share_7) (fun r13 u H locs hq hw => ?_)
  obtain ⟨hu, h⟩ := hq
  rw [hu] at hw
  refine lv_if_eq (tgt := 15) hx hb dX10_share_10 (by decide) (fun c14 => ?_) (fun c14 => ?_)
  · have h := h.1 c14
    refine lv_iconst (v := 0) hx hb dX10_share_15 (by decide) ?_
    refine lv_istore_n (lv' := [(3, .int (0 : Int32)), (0, .ref (ad 23)), (1, .int p1), (2, .int p2)]) hx hb dX10_share_16 rfl hl (by decide) rfl (fun ls hl => ?_)
    refine lv_iconst (v := 0) hx hb dX10_share_17 (by decide) ?_
    refine lv_istore (lv' := [(4, .int (0 : Int32)), (3, .int (0 : Int32)), (0, .ref (ad 23)), (1, .int p1), (2, .int p2)]) hx hb dX10_share_18 hl (by decide) rfl (fun ls hl => ?_)
    obtain ⟨n, h⟩ := h
    exact L20 n (0 : Int32) (0 : Int32) (0 : Int32) _ _ _ h hw (lv_sub hl [2, 3, 4, 1, 0] rfl)
  · have h := h.2 c14
    refine lv_iconst (v := -1) hx hb dX10_share_13 (by decide) ?_
    exact hret _ _ _ _ _ _ ⟨_, rfl, h⟩ hw dX10_share_14
set_option maxRecDepth 100000 in
set_option maxHeartbeats 4000000 in
theorem c_X10_fails {l : Launch} {D : va_G} {cI cZ : ClassId} {ad : Nat → Nat} {f_thrown : Int32} {f_text : Nat → Int32} {f_textSize : Int32} {f_place : Int32} {f_chips : Int32} {f_gates : Int32} {f_kind : Nat → Int32} {f_source : Nat → Int32} {f_second : Nat → Int32} {f_clock : Nat → Int32} {f_readChips : Int32} {f_readPins : Int32} {f_readGates : Int32} {f_readKind : Nat → Int32} {f_readLies : Nat → Int32} {f_readSource : Nat → Int32} {f_readSecond : Nat → Int32} {f_readClock : Nat → Int32} {f_page : Nat → Int32} {f_trial : Nat → Int32} {f_book : Nat → Int32} {f_doings : Int32} {f_kept : Nat → Int32} {f_isKept : Nat → Int32} {f_seen : Int32} {f_seenBehind : Nat → Int32} {f_seenGate : Nat → Int32} {f_seenWorth : Nat → Int32} {f_seenWas : Nat → Int32} {f_seed : Int64} {f_worth : Nat → Int32} {f_known : Int32} {f_hand : Nat → Int32} {f_goes : Nat → Int32} {f_takes : Int32} {f_crossed : Int32} {f_last : Int32} {f_lastNow : Int32} {f_states : Nat → Int32} {X : va_W} {p1 : Int32} {p2 : Int32} {p3 : Int32} {p4 : Int32} {p5 : Int32} {Q : Int32 → Int32 → (Nat → Int32) → (Nat → Int32) → Int32 → Int32 → Int32 → Int32 → Prop} (h : wp_X10_fails f_chips f_crossed f_gates f_goes f_hand f_kind f_last f_lastNow f_page f_second f_source f_takes f_thrown p1 p2 p3 p4 p5 Q) : CtI l yX10_fails cX10_fails 9 (some .int) ({ frames := 3, cells := 0, slots := 0, locals := 82 } : Room) D [(cI, .int), (cZ, .boolean)] [.ref (ad 23), .int p1, .int p2, .int p3, .int p4, .int p5] (wM ad cI cZ f_thrown f_text f_textSize f_place f_chips f_gates f_kind f_source f_second f_clock f_readChips f_readPins f_readGates f_readKind f_readLies f_readSource f_readSecond f_readClock f_page f_trial f_book f_doings f_kept f_isKept f_seen f_seenBehind f_seenGate f_seenWorth f_seenWas f_seed f_worth f_known f_hand f_goes f_takes f_crossed f_last f_lastNow f_states X) (fun r u => ∃ w0 w1 w2 w3 w4 w5 w6, u = (wM ad cI cZ w6 f_text f_textSize f_place f_chips f_gates f_kind f_source f_second f_clock f_readChips f_readPins f_readGates f_readKind f_readLies f_readSource f_readSecond f_readClock f_page f_trial f_book f_doings f_kept f_isKept f_seen f_seenBehind f_seenGate f_seenWorth f_seenWas f_seed f_worth f_known w2 w1 w5 w0 w3 w4 f_states X) ∧ Q r w0 w1 w2 w3 w4 w5 w6) := by
  refine CtI.of (by decide) rfl (Nat.le_of_ble_eq_true rfl) ?_
  intro p e s m args below meth c A Z E hret ls hl hw
  have E : gE p m c cX10_fails 9 s args RX10 D [(cI, .int), (cZ, .boolean)] A := E
  have hx := E.1.1
  have hb := E.1.2.1
  have hl : lv_has ls 9 [(0, .ref (ad 23)), (1, .int p1), (2, .int p2), (3, .int p3), (4, .int p4), (5, .int p5)] := hl
  have L57 : ∀ (n : Nat) (x6 : Int32) (x7 : Int32) (f_crossed : Int32) (f_goes : Nat → Int32) (f_hand : Nat → Int32) (f_last : Int32) (f_lastNow : Int32) (f_takes : Int32) (f_thrown : Int32) (H : Heap) (locs : List Loc) (ls : Array Slot), wp_X10_fails_h57 f_chips f_gates f_kind f_page f_second f_source p1 p2 p3 p4 p5 Q  n x6 x7 f_crossed f_goes f_hand f_last f_lastNow f_takes f_thrown → gW D s A (wM ad cI cZ f_thrown f_text f_textSize f_place f_chips f_gates f_kind f_source f_second f_clock f_readChips f_readPins f_readGates f_readKind f_readLies f_readSource f_readSecond f_readClock f_page f_trial f_book f_doings f_kept f_isKept f_seen f_seenBehind f_seenGate f_seenWorth f_seenWas f_seed f_worth f_known f_hand f_goes f_takes f_crossed f_last f_lastNow f_states X) H locs → lv_has ls 9 [(0, .ref (ad 23)), (1, .int p1), (2, .int p2), (3, .int p3), (4, .int p4), (5, .int p5), (6, .int x6), (7, .int x7)] → W p l e ({ frames := 3, cells := 0, slots := 0, locals := 82 } : Room) s m args below meth c H locs 0 0 Z (F0 m 57 ls []) := by
    intro n
    induction n with
    | zero => intro x6 x7 f_crossed f_goes f_hand f_last f_lastNow f_takes f_thrown H locs ls h; exact False.elim h
    | succ n57 ih57 =>
      intro x6 x7 f_crossed f_goes f_hand f_last f_lastNow f_takes f_thrown H locs ls h hw hl
      have h : wp_X10_fails_b57 f_chips f_gates f_kind f_page f_second f_source p1 p2 p3 p4 p5 Q (wp_X10_fails_h57 f_chips f_gates f_kind f_page f_second f_source p1 p2 p3 p4 p5 Q  n57) x6 x7 f_crossed f_goes f_hand f_last f_lastNow f_takes f_thrown := h
      have J140 : ∀ (x7 : Int32) (s0 : Int32) (s1 : Int32) (f_crossed : Int32) (f_goes : Nat → Int32) (f_hand : Nat → Int32) (f_last : Int32) (f_lastNow : Int32) (f_takes : Int32) (f_thrown : Int32) (H : Heap) (locs : List Loc) (ls : Array Slot), wp_X10_fails_b140 f_chips f_gates f_kind f_page f_second f_source p1 p2 p3 p4 p5 Q (wp_X10_fails_h57 f_chips f_gates f_kind f_page f_second f_source p1 p2 p3 p4 p5 Q  n57) x7 s0 s1 f_crossed f_goes f_hand f_last f_lastNow f_takes f_thrown → gW D s A (wM ad cI cZ f_thrown f_text f_textSize f_place f_chips f_gates f_kind f_source f_second f_clock f_readChips f_readPins f_readGates f_readKind f_readLies f_readSource f_readSecond f_readClock f_page f_trial f_book f_doings f_kept f_isKept f_seen f_seenBehind f_seenGate f_seenWorth f_seenWas f_seed f_worth f_known f_hand f_goes f_takes f_crossed f_last f_lastNow f_states X) H locs → lv_has ls 9 [(0, .ref (ad 23)), (1, .int p1), (2, .int p2), (3, .int p3), (4, .int p4), (5, .int p5), (7, .int x7)] → W p l e ({ frames := 3, cells := 0, slots := 0, locals := 82 } : Room) s m args below meth c H locs 0 0 Z (F0 m 140 ls [.int s1, .int s0]) := by
        intro x7 s0 s1 f_crossed f_goes f_hand f_last f_lastNow f_takes f_thrown H locs ls h hw hl
        unfold wp_X10_fails_b140 at h
        refine lv_iadd hx hb dX10_fails_140 ?_
        refine lv_topi (fun v1 ev1 => ?_)
        have h := h v1 ev1
        refine lv_istore (lv' := [(6, .int v1), (0, .ref (ad 23)), (1, .int p1), (2, .int p2), (3, .int p3), (4, .int p4), (5, .int p5), (7, .int x7)]) hx hb dX10_fails_141 hl (by decide) rfl (fun ls hl => ?_)
        obtain ⟨v2, ev2⟩ : ∃ y : Int32, y = x7 + 1 := ⟨_, rfl⟩
        have h := h v2 ev2
        refine lv_iinc (v := v2) (lv' := [(7, .int v2), (6, .int v1), (0, .ref (ad 23)), (1, .int p1), (2, .int p2), (3, .int p3), (4, .int p4), (5, .int p5)]) hx hb dX10_fails_143 hl (k := 7) rfl (by rw [ev2]; rfl) (by decide) rfl (fun ls hl => ?_)
        refine lv_goto (tgt := 57) hx hb dX10_fails_146 (by decide) ?_
        exact ih57 v1 v2 f_crossed f_goes f_hand f_last f_lastNow f_takes f_thrown _ _ _ h hw (lv_sub hl [2, 3, 4, 5, 6, 7, 1, 0] rfl)
      have J139 : ∀ (x7 : Int32) (s0 : Int32) (f_crossed : Int32) (f_goes : Nat → Int32) (f_hand : Nat → Int32) (f_last : Int32) (f_lastNow : Int32) (f_takes : Int32) (f_thrown : Int32) (H : Heap) (locs : List Loc) (ls : Array Slot), wp_X10_fails_b139 f_chips f_gates f_kind f_page f_second f_source p1 p2 p3 p4 p5 Q (wp_X10_fails_h57 f_chips f_gates f_kind f_page f_second f_source p1 p2 p3 p4 p5 Q  n57) x7 s0 f_crossed f_goes f_hand f_last f_lastNow f_takes f_thrown → gW D s A (wM ad cI cZ f_thrown f_text f_textSize f_place f_chips f_gates f_kind f_source f_second f_clock f_readChips f_readPins f_readGates f_readKind f_readLies f_readSource f_readSecond f_readClock f_page f_trial f_book f_doings f_kept f_isKept f_seen f_seenBehind f_seenGate f_seenWorth f_seenWas f_seed f_worth f_known f_hand f_goes f_takes f_crossed f_last f_lastNow f_states X) H locs → lv_has ls 9 [(0, .ref (ad 23)), (1, .int p1), (2, .int p2), (3, .int p3), (4, .int p4), (5, .int p5), (7, .int x7)] → W p l e ({ frames := 3, cells := 0, slots := 0, locals := 82 } : Room) s m args below meth c H locs 0 0 Z (F0 m 139 ls [.int s0]) := by
        intro x7 s0 f_crossed f_goes f_hand f_last f_lastNow f_takes f_thrown H locs ls h hw hl
        unfold wp_X10_fails_b139 at h
        refine lv_iconst (v := 0) hx hb dX10_fails_139 (by decide) ?_
        exact J140 x7 s0 (0 : Int32) f_crossed f_goes f_hand f_last f_lastNow f_takes f_thrown _ _ _ h hw (lv_sub hl [0, 1, 2, 3, 4, 5, 6] rfl)
      unfold wp_X10_fails_b57 at h
      refine lv_iload hx hb dX10_fails_57 (lv_at hl 7 rfl) ?_
      refine lv_iconst (v := 1) hx hb dX10_fails_59 (by decide) ?_
      refine lv_iload_n hx hb dX10_fails_60 rfl (lv_at hl 3 rfl) ?_
      refine lv_ishl hx hb dX10_fails_61 ?_
      refine lv_icmp_ge (tgt := 149) hx hb dX10_fails_62 (by decide) (fun c3 => ?_) (fun c3 => ?_)
      · have h := h.1 c3
        refine lv_iload hx hb dX10_fails_149 (lv_at hl 6 rfl) ?_
        refine lv_bipush (v := 10) hx hb dX10_fails_151 (by decide) ?_
        refine lv_iload_n hx hb dX10_fails_153 rfl (lv_at hl 3 rfl) ?_
        refine g_aI E hw (g_rS E hw (c_X10_power h _) ym_X10_power k_816 ⟨rfl, rfl⟩ ⟨Nat.le_of_ble_eq_true rfl, Nat.le_of_ble_eq_true rfl⟩ rfl hl.1 rfl (Nat.le_of_ble_eq_true rfl) ⟨Nat.zero_le _, Nat.zero_le _⟩ dX10_fails_154) (fun r4 u H locs hq hw => ?_)
        obtain ⟨hu, h⟩ := hq
        rw [hu] at hw
        refine lv_iload hx hb dX10_fails_157 (lv_at hl 5 rfl) ?_
        refine g_aI E hw (g_rS E hw (c_X10_fraction h _) ym_X10_fraction k_804 ⟨rfl, rfl⟩ ⟨Nat.le_of_ble_eq_true rfl, Nat.le_of_ble_eq_true rfl⟩ rfl hl.1 rfl (Nat.le_of_ble_eq_true rfl) ⟨Nat.zero_le _, Nat.zero_le _⟩ dX10_fails_159) (fun r5 u H locs hq hw => ?_)
        obtain ⟨hu, h⟩ := hq
        rw [hu] at hw
        exact hret _ _ _ _ _ _ ⟨_, _, _, _, _, _, _, rfl, h⟩ hw dX10_fails_162
      · have h := h.2 c3
        refine lv_aload_n hx hb dX10_fails_65 rfl (lv_at hl 0 rfl) ?_
        refine lv_aload_n hx hb dX10_fails_66 rfl (lv_at hl 0 rfl) ?_
        refine gM_X10_44_main E hw dX10_fails_67 ?_
        refine lv_aload_n hx hb dX10_fails_70 rfl (lv_at hl 0 rfl) ?_
        refine gM_X10_44_main E hw dX10_fails_71 ?_
        refine lv_bipush (v := 20) hx hb dX10_fails_74 (by decide) ?_
        refine lM_page E hw h.1 dX10_fails_76 ?_
        have h := h.2
        refine lv_iload hx hb dX10_fails_77 (lv_at hl 7 rfl) ?_
        refine lv_iload_n hx hb dX10_fails_79 rfl (lv_at hl 3 rfl) ?_
        refine g_aV E hw (g_rV E hw (c_X10_laySchedule_page h _) ym_X10_laySchedule k_738 ⟨rfl, rfl⟩ ⟨Nat.le_of_ble_eq_true rfl, Nat.le_of_ble_eq_true rfl⟩ 23 rfl rfl rfl rfl hl.1 rfl (Nat.le_of_ble_eq_true rfl) ⟨Nat.zero_le _, Nat.zero_le _⟩ dX10_fails_80) (fun u H locs hq hw => ?_)
        obtain ⟨y7, y8, y9, y10, y11, y12, hu, h⟩ := hq
        rw [hu] at hw
        refine lv_aload_n hx hb dX10_fails_83 rfl (lv_at hl 0 rfl) ?_
        refine gM_X10_75_main E hw dX10_fails_84 ?_
        refine lv_iconst (v := 4) hx hb dX10_fails_87 (by decide) ?_
        refine lv_iload_n hx hb dX10_fails_88 rfl (lv_at hl 1 rfl) ?_
        refine lv_imul hx hb dX10_fails_89 ?_
        refine lv_iload_n hx hb dX10_fails_90 rfl (lv_at hl 2 rfl) ?_
        refine lv_iadd hx hb dX10_fails_91 ?_
        refine lM_hand E hw h.1 dX10_fails_92 ?_
        have h := h.2
        refine lv_topi (fun v13 ev13 => ?_)
        have h := h v13 ev13
        refine lv_istore (lv' := [(8, .int v13), (0, .ref (ad 23)), (1, .int p1), (2, .int p2), (3, .int p3), (4, .int p4), (5, .int p5), (6, .int x6), (7, .int x7)]) hx hb dX10_fails_93 hl (by decide) rfl (fun ls hl => ?_)
        refine lv_iload hx hb dX10_fails_95 (lv_at hl 7 rfl) ?_
        refine lv_iload hx hb dX10_fails_97 (lv_at hl 0 rfl) ?_
        refine lv_bipush (v := -9) hx hb dX10_fails_99 (by decide) ?_
        refine lv_icmp_eq (tgt := 139) hx hb dX10_fails_101 (by decide) (fun c14 => ?_) (fun c14 => ?_)
        · have h := h.1 c14
          exact J139 x7 x6 y7 y8 y9 y10 y11 y12 f_thrown _ _ _ h hw (lv_sub hl [1, 2, 3, 4, 5, 6, 8] rfl)
        · have h := h.2 c14
          refine lv_iload hx hb dX10_fails_104 (lv_at hl 0 rfl) ?_
          refine lv_iload_n hx hb dX10_fails_106 rfl (lv_at hl 4 rfl) ?_
          refine lv_icmp_gt (tgt := 139) hx hb dX10_fails_107 (by decide) (fun c15 => ?_) (fun c15 => ?_)
          · have h := h.1 c15
            exact J139 x7 x6 y7 y8 y9 y10 y11 y12 f_thrown _ _ _ h hw (lv_sub hl [1, 2, 3, 4, 5, 6, 8] rfl)
          · have h := h.2 c15
            refine lv_iload hx hb dX10_fails_110 (lv_at hl 5 rfl) ?_
            refine lv_iload hx hb dX10_fails_112 (lv_at hl 8 rfl) ?_
            refine g_aI E hw (g_rS E hw (c_X10_ones h _) ym_X10_ones k_795 ⟨rfl, rfl⟩ ⟨Nat.le_of_ble_eq_true rfl, Nat.le_of_ble_eq_true rfl⟩ rfl hl.1 rfl (Nat.le_of_ble_eq_true rfl) ⟨Nat.zero_le _, Nat.zero_le _⟩ dX10_fails_114) (fun r16 u H locs hq hw => ?_)
            obtain ⟨hu, h⟩ := hq
            rw [hu] at hw
            refine g_aI E hw (g_rS E hw (c_X10_power h _) ym_X10_power k_816 ⟨rfl, rfl⟩ ⟨Nat.le_of_ble_eq_true rfl, Nat.le_of_ble_eq_true rfl⟩ rfl hl.1 rfl (Nat.le_of_ble_eq_true rfl) ⟨Nat.zero_le _, Nat.zero_le _⟩ dX10_fails_117) (fun r17 u H locs hq hw => ?_)
            obtain ⟨hu, h⟩ := hq
            rw [hu] at hw
            refine lv_bipush (v := 10) hx hb dX10_fails_120 (by decide) ?_
            refine lv_iload hx hb dX10_fails_122 (lv_at hl 5 rfl) ?_
            refine lv_isub hx hb dX10_fails_124 ?_
            refine lv_iload_n hx hb dX10_fails_125 rfl (lv_at hl 4 rfl) ?_
            refine lv_iload hx hb dX10_fails_126 (lv_at hl 8 rfl) ?_
            refine g_aI E hw (g_rS E hw (c_X10_ones h _) ym_X10_ones k_795 ⟨rfl, rfl⟩ ⟨Nat.le_of_ble_eq_true rfl, Nat.le_of_ble_eq_true rfl⟩ rfl hl.1 rfl (Nat.le_of_ble_eq_true rfl) ⟨Nat.zero_le _, Nat.zero_le _⟩ dX10_fails_128) (fun r18 u H locs hq hw => ?_)
            obtain ⟨hu, h⟩ := hq
            rw [hu] at hw
            refine lv_isub hx hb dX10_fails_131 ?_
            refine g_aI E hw (g_rS E hw (c_X10_power h _) ym_X10_power k_816 ⟨rfl, rfl⟩ ⟨Nat.le_of_ble_eq_true rfl, Nat.le_of_ble_eq_true rfl⟩ rfl hl.1 rfl (Nat.le_of_ble_eq_true rfl) ⟨Nat.zero_le _, Nat.zero_le _⟩ dX10_fails_132) (fun r19 u H locs hq hw => ?_)
            obtain ⟨hu, h⟩ := hq
            rw [hu] at hw
            refine lv_imul hx hb dX10_fails_135 ?_
            refine lv_goto (tgt := 140) hx hb dX10_fails_136 (by decide) ?_
            exact J140 x7 x6 ((r17 * r19)) y7 y8 y9 y10 y11 y12 f_thrown _ _ _ h hw (lv_sub hl [1, 2, 3, 4, 5, 6, 8] rfl)
  unfold wp_X10_fails at h
  refine lv_aload_n hx hb dX10_fails_0 rfl (lv_at hl 0 rfl) ?_
  refine lv_iconst (v := 0) hx hb dX10_fails_1 (by decide) ?_
  refine pM_X10_84_main E hw dX10_fails_2 (fun H locs hw => ?_)
  refine lv_aload_n hx hb dX10_fails_5 rfl (lv_at hl 0 rfl) ?_
  refine lv_iload_n hx hb dX10_fails_6 rfl (lv_at hl 1 rfl) ?_
  refine g_aI E hw (g_rV E hw (c_X10_noGate h _) ym_X10_noGate k_668 ⟨rfl, rfl⟩ ⟨Nat.le_of_ble_eq_true rfl, Nat.le_of_ble_eq_true rfl⟩ 23 rfl rfl rfl rfl hl.1 rfl (Nat.le_of_ble_eq_true rfl) ⟨Nat.zero_le _, Nat.zero_le _⟩ dX10_fails_7) (fun r20 u H locs hq hw => ?_)
  obtain ⟨hu, h⟩ := hq
  rw [hu] at hw
  refine lv_if_ne (tgt := 21) hx hb dX10_fails_10 (by decide) (fun c21 => ?_) (fun c21 => ?_)
  · have h := h.1 c21
    refine lv_iconst (v := -1) hx hb dX10_fails_21 (by decide) ?_
    exact hret _ _ _ _ _ _ ⟨_, _, _, _, _, _, _, rfl, h⟩ hw dX10_fails_22
  · have h := h.2 c21
    refine lv_aload_n hx hb dX10_fails_13 rfl (lv_at hl 0 rfl) ?_
    refine lv_iload_n hx hb dX10_fails_14 rfl (lv_at hl 2 rfl) ?_
    refine g_aI E hw (g_rV E hw (c_X10_noChip h _) ym_X10_noChip k_708 ⟨rfl, rfl⟩ ⟨Nat.le_of_ble_eq_true rfl, Nat.le_of_ble_eq_true rfl⟩ 23 rfl rfl rfl rfl hl.1 rfl (Nat.le_of_ble_eq_true rfl) ⟨Nat.zero_le _, Nat.zero_le _⟩ dX10_fails_15) (fun r22 u H locs hq hw => ?_)
    obtain ⟨hu, h⟩ := hq
    rw [hu] at hw
    refine lv_if_eq (tgt := 23) hx hb dX10_fails_18 (by decide) (fun c23 => ?_) (fun c23 => ?_)
    · have h := h.1 c23
      refine lv_iload_n hx hb dX10_fails_23 rfl (lv_at hl 3 rfl) ?_
      refine lv_i2l hx hb dX10_fails_24 rfl ?_
      refine lv_lconst (v := 0) hx hb dX10_fails_25 (by decide) ?_
      refine lv_ldc2 (v := 8) hx hb E.1.2.2.2.1 (E.1.2.2.2.2 _ k_814) dX10_fails_26 ?_
      refine g_aI E hw (g_rS E hw (c_X10_in h _) ym_X10_in k_632 ⟨rfl, rfl⟩ ⟨Nat.le_of_ble_eq_true rfl, Nat.le_of_ble_eq_true rfl⟩ rfl hl.1 rfl (Nat.le_of_ble_eq_true rfl) ⟨Nat.zero_le _, Nat.zero_le _⟩ dX10_fails_29) (fun r24 u H locs hq hw => ?_)
      obtain ⟨hu, h⟩ := hq
      rw [hu] at hw
      refine lv_if_eq (tgt := 48) hx hb dX10_fails_32 (by decide) (fun c25 => ?_) (fun c25 => ?_)
      · have h := h.1 c25
        refine lv_bipush (v := -2) hx hb dX10_fails_48 (by decide) ?_
        exact hret _ _ _ _ _ _ ⟨_, _, _, _, _, _, _, rfl, h⟩ hw dX10_fails_50
      · have h := h.2 c25
        refine lv_iload hx hb dX10_fails_35 (lv_at hl 4 rfl) ?_
        refine lv_i2l hx hb dX10_fails_37 rfl ?_
        refine lv_lconst (v := 0) hx hb dX10_fails_38 (by decide) ?_
        refine lv_ldc2 (v := 10) hx hb E.1.2.2.2.1 (E.1.2.2.2.2 _ k_815) dX10_fails_39 ?_
        refine g_aI E hw (g_rS E hw (c_X10_in h _) ym_X10_in k_632 ⟨rfl, rfl⟩ ⟨Nat.le_of_ble_eq_true rfl, Nat.le_of_ble_eq_true rfl⟩ rfl hl.1 rfl (Nat.le_of_ble_eq_true rfl) ⟨Nat.zero_le _, Nat.zero_le _⟩ dX10_fails_42) (fun r26 u H locs hq hw => ?_)
        obtain ⟨hu, h⟩ := hq
        rw [hu] at hw
        refine lv_if_ne (tgt := 51) hx hb dX10_fails_45 (by decide) (fun c27 => ?_) (fun c27 => ?_)
        · have h := h.1 c27
          refine lv_iconst (v := 0) hx hb dX10_fails_51 (by decide) ?_
          refine lv_istore (lv' := [(6, .int (0 : Int32)), (0, .ref (ad 23)), (1, .int p1), (2, .int p2), (3, .int p3), (4, .int p4), (5, .int p5)]) hx hb dX10_fails_52 hl (by decide) rfl (fun ls hl => ?_)
          refine lv_iconst (v := 0) hx hb dX10_fails_54 (by decide) ?_
          refine lv_istore (lv' := [(7, .int (0 : Int32)), (6, .int (0 : Int32)), (0, .ref (ad 23)), (1, .int p1), (2, .int p2), (3, .int p3), (4, .int p4), (5, .int p5)]) hx hb dX10_fails_55 hl (by decide) rfl (fun ls hl => ?_)
          obtain ⟨n, h⟩ := h
          exact L57 n (0 : Int32) (0 : Int32) f_crossed f_goes f_hand f_last f_lastNow f_takes (0 : Int32) _ _ _ h hw (lv_sub hl [2, 3, 4, 5, 6, 7, 1, 0] rfl)
        · have h := h.2 c27
          refine lv_bipush (v := -2) hx hb dX10_fails_48 (by decide) ?_
          exact hret _ _ _ _ _ _ ⟨_, _, _, _, _, _, _, rfl, h⟩ hw dX10_fails_50
    · have h := h.2 c23
      refine lv_iconst (v := -1) hx hb dX10_fails_21 (by decide) ?_
      exact hret _ _ _ _ _ _ ⟨_, _, _, _, _, _, _, rfl, h⟩ hw dX10_fails_22
set_option maxRecDepth 100000 in
set_option maxHeartbeats 4000000 in
theorem c_X10_seed {l : Launch} {D : va_G} {cI cZ : ClassId} {ad : Nat → Nat} {f_thrown : Int32} {f_text : Nat → Int32} {f_textSize : Int32} {f_place : Int32} {f_chips : Int32} {f_gates : Int32} {f_kind : Nat → Int32} {f_source : Nat → Int32} {f_second : Nat → Int32} {f_clock : Nat → Int32} {f_readChips : Int32} {f_readPins : Int32} {f_readGates : Int32} {f_readKind : Nat → Int32} {f_readLies : Nat → Int32} {f_readSource : Nat → Int32} {f_readSecond : Nat → Int32} {f_readClock : Nat → Int32} {f_page : Nat → Int32} {f_trial : Nat → Int32} {f_book : Nat → Int32} {f_doings : Int32} {f_kept : Nat → Int32} {f_isKept : Nat → Int32} {f_seen : Int32} {f_seenBehind : Nat → Int32} {f_seenGate : Nat → Int32} {f_seenWorth : Nat → Int32} {f_seenWas : Nat → Int32} {f_seed : Int64} {f_worth : Nat → Int32} {f_known : Int32} {f_hand : Nat → Int32} {f_goes : Nat → Int32} {f_takes : Int32} {f_crossed : Int32} {f_last : Int32} {f_lastNow : Int32} {f_states : Nat → Int32} {X : va_W} {p1 : Int64} {Q : Int64 → Int64 → Int32 → Prop} (h : wp_X10_seed f_seed f_thrown p1 Q) : CtL l yX10_seed cX10_seed 5 (some .long) ({ frames := 0, cells := 0, slots := 0, locals := 0 } : Room) D [(cI, .int), (cZ, .boolean)] [.ref (ad 23), .long p1] (wM ad cI cZ f_thrown f_text f_textSize f_place f_chips f_gates f_kind f_source f_second f_clock f_readChips f_readPins f_readGates f_readKind f_readLies f_readSource f_readSecond f_readClock f_page f_trial f_book f_doings f_kept f_isKept f_seen f_seenBehind f_seenGate f_seenWorth f_seenWas f_seed f_worth f_known f_hand f_goes f_takes f_crossed f_last f_lastNow f_states X) (fun r u => ∃ w0 w1, u = (wM ad cI cZ w1 f_text f_textSize f_place f_chips f_gates f_kind f_source f_second f_clock f_readChips f_readPins f_readGates f_readKind f_readLies f_readSource f_readSecond f_readClock f_page f_trial f_book f_doings f_kept f_isKept f_seen f_seenBehind f_seenGate f_seenWorth f_seenWas w0 f_worth f_known f_hand f_goes f_takes f_crossed f_last f_lastNow f_states X) ∧ Q r w0 w1) := by
  refine CtL.of (by decide) rfl (Nat.le_of_ble_eq_true rfl) ?_
  intro p e s m args below meth c A Z E hret ls hl hw
  have E : gE p m c cX10_seed 5 s args RX10 D [(cI, .int), (cZ, .boolean)] A := E
  have hx := E.1.1
  have hb := E.1.2.1
  have hl : lv_has ls 5 [(0, .ref (ad 23)), (1, .long p1)] := hl
  unfold wp_X10_seed at h
  refine lv_aload_n hx hb dX10_seed_0 rfl (lv_at hl 0 rfl) ?_
  refine lv_iconst (v := 0) hx hb dX10_seed_1 (by decide) ?_
  refine pM_X10_84_main E hw dX10_seed_2 (fun H locs hw => ?_)
  refine lv_aload_n hx hb dX10_seed_5 rfl (lv_at hl 0 rfl) ?_
  refine gM_X10_260_main E hw dX10_seed_6 ?_
  refine lv_lstore_n (lv' := [(3, .long f_seed), (0, .ref (ad 23)), (1, .long p1)]) hx hb dX10_seed_9 rfl hl (by decide) rfl (fun ls hl => ?_)
  refine lv_aload_n hx hb dX10_seed_10 rfl (lv_at hl 1 rfl) ?_
  refine lv_lload_n hx hb dX10_seed_11 rfl (lv_at hl 2 rfl) ?_
  refine pM_X10_260_main E hw dX10_seed_12 (fun H locs hw => ?_)
  refine lv_lload_n hx hb dX10_seed_15 rfl (lv_at hl 0 rfl) ?_
  exact hret _ _ _ _ _ _ ⟨_, _, rfl, h⟩ hw dX10_seed_16
set_option maxRecDepth 100000 in
set_option maxHeartbeats 4000000 in
theorem c_X10_drawn {l : Launch} {D : va_G} {cI cZ : ClassId} {ad : Nat → Nat} {f_thrown : Int32} {f_text : Nat → Int32} {f_textSize : Int32} {f_place : Int32} {f_chips : Int32} {f_gates : Int32} {f_kind : Nat → Int32} {f_source : Nat → Int32} {f_second : Nat → Int32} {f_clock : Nat → Int32} {f_readChips : Int32} {f_readPins : Int32} {f_readGates : Int32} {f_readKind : Nat → Int32} {f_readLies : Nat → Int32} {f_readSource : Nat → Int32} {f_readSecond : Nat → Int32} {f_readClock : Nat → Int32} {f_page : Nat → Int32} {f_trial : Nat → Int32} {f_book : Nat → Int32} {f_doings : Int32} {f_kept : Nat → Int32} {f_isKept : Nat → Int32} {f_seen : Int32} {f_seenBehind : Nat → Int32} {f_seenGate : Nat → Int32} {f_seenWorth : Nat → Int32} {f_seenWas : Nat → Int32} {f_seed : Int64} {f_worth : Nat → Int32} {f_known : Int32} {f_hand : Nat → Int32} {f_goes : Nat → Int32} {f_takes : Int32} {f_crossed : Int32} {f_last : Int32} {f_lastNow : Int32} {f_states : Nat → Int32} {X : va_W} {p1 : Int32} {Q : Int32 → Int32 → Int64 → Int32 → (Nat → Int32) → (Nat → Int32) → Prop} (h : wp_X10_drawn f_clock f_gates f_kind f_known f_page f_second f_seed f_source f_thrown f_trial f_worth p1 Q) : CtI l yX10_drawn cX10_drawn 7 (some .int) ({ frames := 3, cells := 0, slots := 0, locals := 70 } : Room) D [(cI, .int), (cZ, .boolean)] [.ref (ad 23), .int p1] (wM ad cI cZ f_thrown f_text f_textSize f_place f_chips f_gates f_kind f_source f_second f_clock f_readChips f_readPins f_readGates f_readKind f_readLies f_readSource f_readSecond f_readClock f_page f_trial f_book f_doings f_kept f_isKept f_seen f_seenBehind f_seenGate f_seenWorth f_seenWas f_seed f_worth f_known f_hand f_goes f_takes f_crossed f_last f_lastNow f_states X) (fun r u => ∃ w0 w1 w2 w3 w4, u = (wM ad cI cZ w2 f_text f_textSize f_place f_chips f_gates f_kind f_source f_second f_clock f_readChips f_readPins f_readGates f_readKind f_readLies f_readSource f_readSecond f_readClock f_page w3 f_book f_doings f_kept f_isKept f_seen f_seenBehind f_seenGate f_seenWorth f_seenWas w1 w4 w0 f_hand f_goes f_takes f_crossed f_last f_lastNow f_states X) ∧ Q r w0 w1 w2 w3 w4) := by
  refine CtI.of (by decide) rfl (Nat.le_of_ble_eq_true rfl) ?_
  intro p e s m args below meth c A Z E hret ls hl hw
  have E : gE p m c cX10_drawn 7 s args RX10 D [(cI, .int), (cZ, .boolean)] A := E
  have hx := E.1.1
  have hb := E.1.2.1
  have hl : lv_has ls 7 [(0, .ref (ad 23)), (1, .int p1)] := hl
  have L28 : ∀ (n : Nat) (x2 : Int32) (x3 : Int32) (f_known : Int32) (f_seed : Int64) (f_thrown : Int32) (f_trial : Nat → Int32) (f_worth : Nat → Int32) (H : Heap) (locs : List Loc) (ls : Array Slot), wp_X10_drawn_h28 f_clock f_gates f_kind f_page f_second f_source p1 Q  n x2 x3 f_known f_seed f_thrown f_trial f_worth → gW D s A (wM ad cI cZ f_thrown f_text f_textSize f_place f_chips f_gates f_kind f_source f_second f_clock f_readChips f_readPins f_readGates f_readKind f_readLies f_readSource f_readSecond f_readClock f_page f_trial f_book f_doings f_kept f_isKept f_seen f_seenBehind f_seenGate f_seenWorth f_seenWas f_seed f_worth f_known f_hand f_goes f_takes f_crossed f_last f_lastNow f_states X) H locs → lv_has ls 7 [(0, .ref (ad 23)), (1, .int p1), (2, .int x2), (3, .int x3)] → W p l e ({ frames := 3, cells := 0, slots := 0, locals := 70 } : Room) s m args below meth c H locs 0 0 Z (F0 m 28 ls []) := by
    intro n
    induction n with
    | zero => intro x2 x3 f_known f_seed f_thrown f_trial f_worth H locs ls h; exact False.elim h
    | succ n28 ih28 =>
      intro x2 x3 f_known f_seed f_thrown f_trial f_worth H locs ls h hw hl
      have h : wp_X10_drawn_b28 f_clock f_gates f_kind f_page f_second f_source p1 Q (wp_X10_drawn_h28 f_clock f_gates f_kind f_page f_second f_source p1 Q  n28) x2 x3 f_known f_seed f_thrown f_trial f_worth := h
      have L120 : ∀ (n : Nat) (x2 : Int32) (x3 : Int32) (x6 : Int32) (f_known : Int32) (f_seed : Int64) (f_thrown : Int32) (f_trial : Nat → Int32) (f_worth : Nat → Int32) (H : Heap) (locs : List Loc) (ls : Array Slot), wp_X10_drawn_h120 f_clock f_gates f_kind f_page f_second f_source p1 Q (wp_X10_drawn_h28 f_clock f_gates f_kind f_page f_second f_source p1 Q  n28) n x2 x3 x6 f_known f_seed f_thrown f_trial f_worth → gW D s A (wM ad cI cZ f_thrown f_text f_textSize f_place f_chips f_gates f_kind f_source f_second f_clock f_readChips f_readPins f_readGates f_readKind f_readLies f_readSource f_readSecond f_readClock f_page f_trial f_book f_doings f_kept f_isKept f_seen f_seenBehind f_seenGate f_seenWorth f_seenWas f_seed f_worth f_known f_hand f_goes f_takes f_crossed f_last f_lastNow f_states X) H locs → lv_has ls 7 [(0, .ref (ad 23)), (1, .int p1), (2, .int x2), (3, .int x3), (6, .int x6)] → W p l e ({ frames := 3, cells := 0, slots := 0, locals := 70 } : Room) s m args below meth c H locs 0 0 Z (F0 m 120 ls []) := by
        intro n
        induction n with
        | zero => intro x2 x3 x6 f_known f_seed f_thrown f_trial f_worth H locs ls h; exact False.elim h
        | succ n120 ih120 =>
          intro x2 x3 x6 f_known f_seed f_thrown f_trial f_worth H locs ls h hw hl
          have h : wp_X10_drawn_b120 f_clock f_gates f_kind f_page f_second f_source p1 Q (wp_X10_drawn_h28 f_clock f_gates f_kind f_page f_second f_source p1 Q  n28) (wp_X10_drawn_h120 f_clock f_gates f_kind f_page f_second f_source p1 Q (wp_X10_drawn_h28 f_clock f_gates f_kind f_page f_second f_source p1 Q  n28) n120) x2 x3 x6 f_known f_seed f_thrown f_trial f_worth := h
          have J157 : ∀ (x3 : Int32) (x6 : Int32) (s0 : Int32) (s1 : Int32) (f_known : Int32) (f_seed : Int64) (f_thrown : Int32) (f_trial : Nat → Int32) (f_worth : Nat → Int32) (H : Heap) (locs : List Loc) (ls : Array Slot), wp_X10_drawn_b157 f_clock f_gates f_kind f_page f_second f_source p1 Q (wp_X10_drawn_h28 f_clock f_gates f_kind f_page f_second f_source p1 Q  n28) (wp_X10_drawn_h120 f_clock f_gates f_kind f_page f_second f_source p1 Q (wp_X10_drawn_h28 f_clock f_gates f_kind f_page f_second f_source p1 Q  n28) n120) x3 x6 s0 s1 f_known f_seed f_thrown f_trial f_worth → gW D s A (wM ad cI cZ f_thrown f_text f_textSize f_place f_chips f_gates f_kind f_source f_second f_clock f_readChips f_readPins f_readGates f_readKind f_readLies f_readSource f_readSecond f_readClock f_page f_trial f_book f_doings f_kept f_isKept f_seen f_seenBehind f_seenGate f_seenWorth f_seenWas f_seed f_worth f_known f_hand f_goes f_takes f_crossed f_last f_lastNow f_states X) H locs → lv_has ls 7 [(0, .ref (ad 23)), (1, .int p1), (3, .int x3), (6, .int x6)] → W p l e ({ frames := 3, cells := 0, slots := 0, locals := 70 } : Room) s m args below meth c H locs 0 0 Z (F0 m 157 ls [.int s1, .int s0]) := by
            intro x3 x6 s0 s1 f_known f_seed f_thrown f_trial f_worth H locs ls h hw hl
            unfold wp_X10_drawn_b157 at h
            refine lv_iadd hx hb dX10_drawn_157 ?_
            refine lv_topi (fun v1 ev1 => ?_)
            have h := h v1 ev1
            refine lv_istore_n (lv' := [(2, .int v1), (0, .ref (ad 23)), (1, .int p1), (3, .int x3), (6, .int x6)]) hx hb dX10_drawn_158 rfl hl (by decide) rfl (fun ls hl => ?_)
            obtain ⟨v2, ev2⟩ : ∃ y : Int32, y = x6 + 1 := ⟨_, rfl⟩
            have h := h v2 ev2
            refine lv_iinc (v := v2) (lv' := [(6, .int v2), (2, .int v1), (0, .ref (ad 23)), (1, .int p1), (3, .int x3)]) hx hb dX10_drawn_159 hl (k := 4) rfl (by rw [ev2]; rfl) (by decide) rfl (fun ls hl => ?_)
            refine lv_goto (tgt := 120) hx hb dX10_drawn_162 (by decide) ?_
            exact ih120 v1 x3 v2 f_known f_seed f_thrown f_trial f_worth _ _ _ h hw (lv_sub hl [2, 3, 1, 4, 0] rfl)
          have J156 : ∀ (x3 : Int32) (x6 : Int32) (s0 : Int32) (f_known : Int32) (f_seed : Int64) (f_thrown : Int32) (f_trial : Nat → Int32) (f_worth : Nat → Int32) (H : Heap) (locs : List Loc) (ls : Array Slot), wp_X10_drawn_b156 f_clock f_gates f_kind f_page f_second f_source p1 Q (wp_X10_drawn_h28 f_clock f_gates f_kind f_page f_second f_source p1 Q  n28) (wp_X10_drawn_h120 f_clock f_gates f_kind f_page f_second f_source p1 Q (wp_X10_drawn_h28 f_clock f_gates f_kind f_page f_second f_source p1 Q  n28) n120) x3 x6 s0 f_known f_seed f_thrown f_trial f_worth → gW D s A (wM ad cI cZ f_thrown f_text f_textSize f_place f_chips f_gates f_kind f_source f_second f_clock f_readChips f_readPins f_readGates f_readKind f_readLies f_readSource f_readSecond f_readClock f_page f_trial f_book f_doings f_kept f_isKept f_seen f_seenBehind f_seenGate f_seenWorth f_seenWas f_seed f_worth f_known f_hand f_goes f_takes f_crossed f_last f_lastNow f_states X) H locs → lv_has ls 7 [(0, .ref (ad 23)), (1, .int p1), (3, .int x3), (6, .int x6)] → W p l e ({ frames := 3, cells := 0, slots := 0, locals := 70 } : Room) s m args below meth c H locs 0 0 Z (F0 m 156 ls [.int s0]) := by
            intro x3 x6 s0 f_known f_seed f_thrown f_trial f_worth H locs ls h hw hl
            unfold wp_X10_drawn_b156 at h
            refine lv_iconst (v := 0) hx hb dX10_drawn_156 (by decide) ?_
            exact J157 x3 x6 s0 (0 : Int32) f_known f_seed f_thrown f_trial f_worth _ _ _ h hw (lv_sub hl [0, 1, 2, 3] rfl)
          unfold wp_X10_drawn_b120 at h
          refine lv_iload hx hb dX10_drawn_120 (lv_at hl 4 rfl) ?_
          refine lv_aload_n hx hb dX10_drawn_122 rfl (lv_at hl 0 rfl) ?_
          refine gM_X10_87_main E hw dX10_drawn_123 ?_
          refine lv_icmp_ge (tgt := 165) hx hb dX10_drawn_126 (by decide) (fun c3 => ?_) (fun c3 => ?_)
          · have h := h.1 c3
            obtain ⟨v4, ev4⟩ : ∃ y : Int32, y = x3 + 1 := ⟨_, rfl⟩
            have h := h v4 ev4
            refine lv_iinc (v := v4) (lv' := [(3, .int v4), (0, .ref (ad 23)), (1, .int p1), (2, .int x2), (6, .int x6)]) hx hb dX10_drawn_165 hl (k := 3) rfl (by rw [ev4]; rfl) (by decide) rfl (fun ls hl => ?_)
            refine lv_goto (tgt := 28) hx hb dX10_drawn_168 (by decide) ?_
            exact ih28 x2 v4 f_known f_seed f_thrown f_trial f_worth _ _ _ h hw (lv_sub hl [1, 2, 3, 0] rfl)
          · have h := h.2 c3
            refine lv_iload_n hx hb dX10_drawn_129 rfl (lv_at hl 2 rfl) ?_
            refine lv_aload_n hx hb dX10_drawn_130 rfl (lv_at hl 0 rfl) ?_
            refine gM_X10_17_main E hw dX10_drawn_131 ?_
            refine lv_iload hx hb dX10_drawn_134 (lv_at hl 4 rfl) ?_
            refine lM_kind E hw h.1 dX10_drawn_136 ?_
            have h := h.2
            refine lv_iconst (v := 5) hx hb dX10_drawn_137 (by decide) ?_
            refine lv_icmp_ne (tgt := 156) hx hb dX10_drawn_138 (by decide) (fun c5 => ?_) (fun c5 => ?_)
            · have h := h.1 c5
              exact J156 x3 x6 x2 f_known f_seed f_thrown f_trial f_worth _ _ _ h hw (lv_sub hl [0, 1, 3, 4] rfl)
            · have h := h.2 c5
              refine lv_aload_n hx hb dX10_drawn_141 rfl (lv_at hl 0 rfl) ?_
              refine gM_X10_47_main E hw dX10_drawn_142 ?_
              refine lv_iload hx hb dX10_drawn_145 (lv_at hl 4 rfl) ?_
              refine lM_trial E hw h.1 dX10_drawn_147 ?_
              have h := h.2
              refine lv_iconst (v := 1) hx hb dX10_drawn_148 (by decide) ?_
              refine lv_icmp_ne (tgt := 156) hx hb dX10_drawn_149 (by decide) (fun c6 => ?_) (fun c6 => ?_)
              · have h := h.1 c6
                exact J156 x3 x6 x2 f_known f_seed f_thrown f_trial f_worth _ _ _ h hw (lv_sub hl [0, 1, 3, 4] rfl)
              · have h := h.2 c6
                refine lv_iconst (v := 1) hx hb dX10_drawn_152 (by decide) ?_
                refine lv_goto (tgt := 157) hx hb dX10_drawn_153 (by decide) ?_
                exact J157 x3 x6 x2 (1 : Int32) f_known f_seed f_thrown f_trial f_worth _ _ _ h hw (lv_sub hl [0, 1, 3, 4] rfl)
      have L65 : ∀ (n : Nat) (x2 : Int32) (x3 : Int32) (x4 : Int32) (x5 : Int32) (x6 : Int32) (f_known : Int32) (f_seed : Int64) (f_thrown : Int32) (f_trial : Nat → Int32) (f_worth : Nat → Int32) (H : Heap) (locs : List Loc) (ls : Array Slot), wp_X10_drawn_h65 f_clock f_gates f_kind f_page f_second f_source p1 Q (wp_X10_drawn_h28 f_clock f_gates f_kind f_page f_second f_source p1 Q  n28) n x2 x3 x4 x5 x6 f_known f_seed f_thrown f_trial f_worth → gW D s A (wM ad cI cZ f_thrown f_text f_textSize f_place f_chips f_gates f_kind f_source f_second f_clock f_readChips f_readPins f_readGates f_readKind f_readLies f_readSource f_readSecond f_readClock f_page f_trial f_book f_doings f_kept f_isKept f_seen f_seenBehind f_seenGate f_seenWorth f_seenWas f_seed f_worth f_known f_hand f_goes f_takes f_crossed f_last f_lastNow f_states X) H locs → lv_has ls 7 [(0, .ref (ad 23)), (1, .int p1), (2, .int x2), (3, .int x3), (4, .int x4), (5, .int x5), (6, .int x6)] → W p l e ({ frames := 3, cells := 0, slots := 0, locals := 70 } : Room) s m args below meth c H locs 0 0 Z (F0 m 65 ls []) := by
        intro n
        induction n with
        | zero => intro x2 x3 x4 x5 x6 f_known f_seed f_thrown f_trial f_worth H locs ls h; exact False.elim h
        | succ n65 ih65 =>
          intro x2 x3 x4 x5 x6 f_known f_seed f_thrown f_trial f_worth H locs ls h hw hl
          have h : wp_X10_drawn_b65 f_clock f_gates f_kind f_page f_second f_source p1 Q (wp_X10_drawn_h28 f_clock f_gates f_kind f_page f_second f_source p1 Q  n28) (wp_X10_drawn_h65 f_clock f_gates f_kind f_page f_second f_source p1 Q (wp_X10_drawn_h28 f_clock f_gates f_kind f_page f_second f_source p1 Q  n28) n65) x2 x3 x4 x5 x6 f_known f_seed f_thrown f_trial f_worth := h
          have J101 : ∀ (x2 : Int32) (x3 : Int32) (x4 : Int32) (x5 : Int32) (x6 : Int32) (f_known : Int32) (f_seed : Int64) (f_thrown : Int32) (f_trial : Nat → Int32) (f_worth : Nat → Int32) (H : Heap) (locs : List Loc) (ls : Array Slot), wp_X10_drawn_b101 f_clock f_gates f_kind f_page f_second f_source p1 Q (wp_X10_drawn_h28 f_clock f_gates f_kind f_page f_second f_source p1 Q  n28) (wp_X10_drawn_h65 f_clock f_gates f_kind f_page f_second f_source p1 Q (wp_X10_drawn_h28 f_clock f_gates f_kind f_page f_second f_source p1 Q  n28) n65) x2 x3 x4 x5 x6 f_known f_seed f_thrown f_trial f_worth → gW D s A (wM ad cI cZ f_thrown f_text f_textSize f_place f_chips f_gates f_kind f_source f_second f_clock f_readChips f_readPins f_readGates f_readKind f_readLies f_readSource f_readSecond f_readClock f_page f_trial f_book f_doings f_kept f_isKept f_seen f_seenBehind f_seenGate f_seenWorth f_seenWas f_seed f_worth f_known f_hand f_goes f_takes f_crossed f_last f_lastNow f_states X) H locs → lv_has ls 7 [(0, .ref (ad 23)), (1, .int p1), (2, .int x2), (3, .int x3), (4, .int x4), (5, .int x5), (6, .int x6)] → W p l e ({ frames := 3, cells := 0, slots := 0, locals := 70 } : Room) s m args below meth c H locs 0 0 Z (F0 m 101 ls []) := by
            intro x2 x3 x4 x5 x6 f_known f_seed f_thrown f_trial f_worth H locs ls h hw hl
            unfold wp_X10_drawn_b101 at h
            obtain ⟨v7, ev7⟩ : ∃ y : Int32, y = x6 + 1 := ⟨_, rfl⟩
            have h := h v7 ev7
            refine lv_iinc (v := v7) (lv' := [(6, .int v7), (0, .ref (ad 23)), (1, .int p1), (2, .int x2), (3, .int x3), (4, .int x4), (5, .int x5)]) hx hb dX10_drawn_101 hl (k := 6) rfl (by rw [ev7]; rfl) (by decide) rfl (fun ls hl => ?_)
            refine lv_goto (tgt := 65) hx hb dX10_drawn_104 (by decide) ?_
            exact ih65 x2 x3 x4 x5 v7 f_known f_seed f_thrown f_trial f_worth _ _ _ h hw (lv_sub hl [1, 2, 3, 4, 5, 6, 0] rfl)
          unfold wp_X10_drawn_b65 at h
          refine lv_iload hx hb dX10_drawn_65 (lv_at hl 6 rfl) ?_
          refine lv_aload_n hx hb dX10_drawn_67 rfl (lv_at hl 0 rfl) ?_
          refine gM_X10_87_main E hw dX10_drawn_68 ?_
          refine lv_icmp_ge (tgt := 107) hx hb dX10_drawn_71 (by decide) (fun c8 => ?_) (fun c8 => ?_)
          · have h := h.1 c8
            refine lv_aload_n hx hb dX10_drawn_107 rfl (lv_at hl 0 rfl) ?_
            refine lv_aload_n hx hb dX10_drawn_108 rfl (lv_at hl 0 rfl) ?_
            refine gM_X10_47_main E hw dX10_drawn_109 ?_
            refine lv_bipush (v := -9) hx hb dX10_drawn_112 (by decide) ?_
            refine g_aV E hw (g_rV E hw (c_X10_stepOn_trial h _) ym_X10_stepOn k_697 ⟨rfl, rfl⟩ ⟨Nat.le_of_ble_eq_true rfl, Nat.le_of_ble_eq_true rfl⟩ 23 rfl rfl rfl rfl hl.1 rfl (Nat.le_of_ble_eq_true rfl) ⟨Nat.zero_le _, Nat.zero_le _⟩ dX10_drawn_114) (fun u H locs hq hw => ?_)
            obtain ⟨y10, y11, y12, hu, h⟩ := hq
            rw [hu] at hw
            refine lv_iconst (v := 0) hx hb dX10_drawn_117 (by decide) ?_
            refine lv_istore (lv' := [(6, .int (0 : Int32)), (0, .ref (ad 23)), (1, .int p1), (2, .int x2), (3, .int x3), (4, .int x4), (5, .int x5)]) hx hb dX10_drawn_118 hl (by decide) rfl (fun ls hl => ?_)
            obtain ⟨n, h⟩ := h
            exact L120 n x2 x3 (0 : Int32) y10 f_seed f_thrown y12 y11 _ _ _ h hw (lv_sub hl [1, 2, 3, 4, 0] rfl)
          · have h := h.2 c8
            refine lv_aload_n hx hb dX10_drawn_74 rfl (lv_at hl 0 rfl) ?_
            refine gM_X10_17_main E hw dX10_drawn_75 ?_
            refine lv_iload hx hb dX10_drawn_78 (lv_at hl 6 rfl) ?_
            refine lM_kind E hw h.1 dX10_drawn_80 ?_
            have h := h.2
            refine lv_if_ne (tgt := 101) hx hb dX10_drawn_81 (by decide) (fun c13 => ?_) (fun c13 => ?_)
            · have h := h.1 c13
              exact J101 x2 x3 x4 x5 x6 f_known f_seed f_thrown f_trial f_worth _ _ _ h hw (lv_sub hl [0, 1, 2, 3, 4, 5, 6] rfl)
            · have h := h.2 c13
              refine lv_aload_n hx hb dX10_drawn_84 rfl (lv_at hl 0 rfl) ?_
              refine gM_X10_47_main E hw dX10_drawn_85 ?_
              refine lv_iload hx hb dX10_drawn_88 (lv_at hl 6 rfl) ?_
              refine lv_iload hx hb dX10_drawn_90 (lv_at hl 4 rfl) ?_
              refine lv_iload hx hb dX10_drawn_92 (lv_at hl 5 rfl) ?_
              refine lv_ishr hx hb dX10_drawn_94 ?_
              refine lv_iconst (v := 1) hx hb dX10_drawn_95 (by decide) ?_
              refine lv_iand hx hb dX10_drawn_96 ?_
              refine lv_topi (fun v14 ev14 => ?_)
              have h := h v14 ev14
              refine sM_trial E hw h.1 dX10_drawn_97 (fun y15 ey15 H locs hw => ?_)
              have h := h.2 y15 ey15
              obtain ⟨v16, ev16⟩ : ∃ y : Int32, y = x5 + 1 := ⟨_, rfl⟩
              have h := h v16 ev16
              refine lv_iinc (v := v16) (lv' := [(5, .int v16), (0, .ref (ad 23)), (1, .int p1), (2, .int x2), (3, .int x3), (4, .int x4), (6, .int x6)]) hx hb dX10_drawn_98 hl (k := 5) rfl (by rw [ev16]; rfl) (by decide) rfl (fun ls hl => ?_)
              exact J101 x2 x3 x4 v16 x6 f_known f_seed f_thrown y15 f_worth _ _ _ h hw (lv_sub hl [1, 2, 3, 4, 5, 0, 6] rfl)
      unfold wp_X10_drawn_b28 at h
      refine lv_iload_n hx hb dX10_drawn_28 rfl (lv_at hl 3 rfl) ?_
      refine lv_iload_n hx hb dX10_drawn_29 rfl (lv_at hl 1 rfl) ?_
      refine lv_icmp_ge (tgt := 171) hx hb dX10_drawn_30 (by decide) (fun c17 => ?_) (fun c17 => ?_)
      · have h := h.1 c17
        refine lv_iload_n hx hb dX10_drawn_171 rfl (lv_at hl 2 rfl) ?_
        exact hret _ _ _ _ _ _ ⟨_, _, _, _, _, rfl, h⟩ hw dX10_drawn_172
      · have h := h.2 c17
        refine lv_aload_n hx hb dX10_drawn_33 rfl (lv_at hl 0 rfl) ?_
        refine lv_aload_n hx hb dX10_drawn_34 rfl (lv_at hl 0 rfl) ?_
        refine gM_X10_260_main E hw dX10_drawn_35 ?_
        refine lv_ldc2 (v := 6364136223846793005) hx hb E.1.2.2.2.1 (E.1.2.2.2.2 _ k_828) dX10_drawn_38 ?_
        refine lv_lmul hx hb dX10_drawn_41 ?_
        refine lv_ldc2 (v := 1442695040888963407) hx hb E.1.2.2.2.1 (E.1.2.2.2.2 _ k_829) dX10_drawn_42 ?_
        refine lv_ladd hx hb dX10_drawn_45 ?_
        refine lv_topl (fun v18 ev18 => ?_)
        have h := h v18 ev18
        refine pM_X10_260_main E hw dX10_drawn_46 (fun H locs hw => ?_)
        refine lv_aload_n hx hb dX10_drawn_49 rfl (lv_at hl 0 rfl) ?_
        refine gM_X10_260_main E hw dX10_drawn_50 ?_
        refine lv_bipush (v := 33) hx hb dX10_drawn_53 (by decide) ?_
        refine lv_lushr hx hb dX10_drawn_55 rfl ?_
        refine lv_l2i hx hb dX10_drawn_56 rfl ?_
        refine lv_topi (fun v19 ev19 => ?_)
        have h := h v19 ev19
        refine lv_istore (lv' := [(4, .int v19), (0, .ref (ad 23)), (1, .int p1), (2, .int x2), (3, .int x3)]) hx hb dX10_drawn_57 hl (by decide) rfl (fun ls hl => ?_)
        refine lv_iconst (v := 0) hx hb dX10_drawn_59 (by decide) ?_
        refine lv_istore (lv' := [(5, .int (0 : Int32)), (4, .int v19), (0, .ref (ad 23)), (1, .int p1), (2, .int x2), (3, .int x3)]) hx hb dX10_drawn_60 hl (by decide) rfl (fun ls hl => ?_)
        refine lv_iconst (v := 0) hx hb dX10_drawn_62 (by decide) ?_
        refine lv_istore (lv' := [(6, .int (0 : Int32)), (5, .int (0 : Int32)), (4, .int v19), (0, .ref (ad 23)), (1, .int p1), (2, .int x2), (3, .int x3)]) hx hb dX10_drawn_63 hl (by decide) rfl (fun ls hl => ?_)
        obtain ⟨n, h⟩ := h
        exact L65 n x2 x3 v19 (0 : Int32) (0 : Int32) f_known v18 f_thrown f_trial f_worth _ _ _ h hw (lv_sub hl [3, 4, 5, 6, 2, 1, 0] rfl)
  unfold wp_X10_drawn at h
  refine lv_aload_n hx hb dX10_drawn_0 rfl (lv_at hl 0 rfl) ?_
  refine lv_iconst (v := 0) hx hb dX10_drawn_1 (by decide) ?_
  refine pM_X10_84_main E hw dX10_drawn_2 (fun H locs hw => ?_)
  refine lv_iload_n hx hb dX10_drawn_5 rfl (lv_at hl 1 rfl) ?_
  refine lv_i2l hx hb dX10_drawn_6 rfl ?_
  refine lv_lconst (v := 1) hx hb dX10_drawn_7 (by decide) ?_
  refine lv_ldc2 (v := 20) hx hb E.1.2.2.2.1 (E.1.2.2.2.2 _ k_827) dX10_drawn_8 ?_
  refine g_aI E hw (g_rS E hw (c_X10_in h _) ym_X10_in k_632 ⟨rfl, rfl⟩ ⟨Nat.le_of_ble_eq_true rfl, Nat.le_of_ble_eq_true rfl⟩ rfl hl.1 rfl (Nat.le_of_ble_eq_true rfl) ⟨Nat.zero_le _, Nat.zero_le _⟩ dX10_drawn_11) (fun r20 u H locs hq hw => ?_)
  obtain ⟨hu, h⟩ := hq
  rw [hu] at hw
  refine lv_if_ne (tgt := 20) hx hb dX10_drawn_14 (by decide) (fun c21 => ?_) (fun c21 => ?_)
  · have h := h.1 c21
    refine lv_aload_n hx hb dX10_drawn_20 rfl (lv_at hl 0 rfl) ?_
    refine g_aV E hw (g_rV E hw (c_X10_layTrial h _) ym_X10_layTrial k_724 ⟨rfl, rfl⟩ ⟨Nat.le_of_ble_eq_true rfl, Nat.le_of_ble_eq_true rfl⟩ 23 rfl rfl rfl rfl hl.1 rfl (Nat.le_of_ble_eq_true rfl) ⟨Nat.zero_le _, Nat.zero_le _⟩ dX10_drawn_21) (fun u H locs hq hw => ?_)
    obtain ⟨y23, hu, h⟩ := hq
    rw [hu] at hw
    refine lv_iconst (v := 0) hx hb dX10_drawn_24 (by decide) ?_
    refine lv_istore_n (lv' := [(2, .int (0 : Int32)), (0, .ref (ad 23)), (1, .int p1)]) hx hb dX10_drawn_25 rfl hl (by decide) rfl (fun ls hl => ?_)
    refine lv_iconst (v := 0) hx hb dX10_drawn_26 (by decide) ?_
    refine lv_istore_n (lv' := [(3, .int (0 : Int32)), (2, .int (0 : Int32)), (0, .ref (ad 23)), (1, .int p1)]) hx hb dX10_drawn_27 rfl hl (by decide) rfl (fun ls hl => ?_)
    obtain ⟨n, h⟩ := h
    exact L28 n (0 : Int32) (0 : Int32) f_known f_seed (0 : Int32) y23 f_worth _ _ _ h hw (lv_sub hl [2, 3, 1, 0] rfl)
  · have h := h.2 c21
    refine lv_bipush (v := -2) hx hb dX10_drawn_17 (by decide) ?_
    exact hret _ _ _ _ _ _ ⟨_, _, _, _, _, rfl, h⟩ hw dX10_drawn_19
set_option maxRecDepth 100000 in
set_option maxHeartbeats 4000000 in
theorem c_X10_keep {l : Launch} {D : va_G} {cI cZ : ClassId} {ad : Nat → Nat} {f_thrown : Int32} {f_text : Nat → Int32} {f_textSize : Int32} {f_place : Int32} {f_chips : Int32} {f_gates : Int32} {f_kind : Nat → Int32} {f_source : Nat → Int32} {f_second : Nat → Int32} {f_clock : Nat → Int32} {f_readChips : Int32} {f_readPins : Int32} {f_readGates : Int32} {f_readKind : Nat → Int32} {f_readLies : Nat → Int32} {f_readSource : Nat → Int32} {f_readSecond : Nat → Int32} {f_readClock : Nat → Int32} {f_page : Nat → Int32} {f_trial : Nat → Int32} {f_book : Nat → Int32} {f_doings : Int32} {f_kept : Nat → Int32} {f_isKept : Nat → Int32} {f_seen : Int32} {f_seenBehind : Nat → Int32} {f_seenGate : Nat → Int32} {f_seenWorth : Nat → Int32} {f_seenWas : Nat → Int32} {f_seed : Int64} {f_worth : Nat → Int32} {f_known : Int32} {f_hand : Nat → Int32} {f_goes : Nat → Int32} {f_takes : Int32} {f_crossed : Int32} {f_last : Int32} {f_lastNow : Int32} {f_states : Nat → Int32} {X : va_W} {p1 : Int32} {Q : Int32 → (Nat → Int32) → (Nat → Int32) → Int32 → Prop} (h : wp_X10_keep f_isKept f_kept f_page f_thrown p1 Q) : CtI l yX10_keep cX10_keep 3 (some .int) ({ frames := 1, cells := 0, slots := 0, locals := 25 } : Room) D [(cI, .int), (cZ, .boolean)] [.ref (ad 23), .int p1] (wM ad cI cZ f_thrown f_text f_textSize f_place f_chips f_gates f_kind f_source f_second f_clock f_readChips f_readPins f_readGates f_readKind f_readLies f_readSource f_readSecond f_readClock f_page f_trial f_book f_doings f_kept f_isKept f_seen f_seenBehind f_seenGate f_seenWorth f_seenWas f_seed f_worth f_known f_hand f_goes f_takes f_crossed f_last f_lastNow f_states X) (fun r u => ∃ w0 w1 w2, u = (wM ad cI cZ w2 f_text f_textSize f_place f_chips f_gates f_kind f_source f_second f_clock f_readChips f_readPins f_readGates f_readKind f_readLies f_readSource f_readSecond f_readClock f_page f_trial f_book f_doings w1 w0 f_seen f_seenBehind f_seenGate f_seenWorth f_seenWas f_seed f_worth f_known f_hand f_goes f_takes f_crossed f_last f_lastNow f_states X) ∧ Q r w0 w1 w2) := by
  refine CtI.of (by decide) rfl (Nat.le_of_ble_eq_true rfl) ?_
  intro p e s m args below meth c A Z E hret ls hl hw
  have E : gE p m c cX10_keep 3 s args RX10 D [(cI, .int), (cZ, .boolean)] A := E
  have hx := E.1.1
  have hb := E.1.2.1
  have hl : lv_has ls 3 [(0, .ref (ad 23)), (1, .int p1)] := hl
  have L26 : ∀ (n : Nat) (x2 : Int32) (f_isKept : Nat → Int32) (f_kept : Nat → Int32) (f_thrown : Int32) (H : Heap) (locs : List Loc) (ls : Array Slot), wp_X10_keep_h26 f_page p1 Q  n x2 f_isKept f_kept f_thrown → gW D s A (wM ad cI cZ f_thrown f_text f_textSize f_place f_chips f_gates f_kind f_source f_second f_clock f_readChips f_readPins f_readGates f_readKind f_readLies f_readSource f_readSecond f_readClock f_page f_trial f_book f_doings f_kept f_isKept f_seen f_seenBehind f_seenGate f_seenWorth f_seenWas f_seed f_worth f_known f_hand f_goes f_takes f_crossed f_last f_lastNow f_states X) H locs → lv_has ls 3 [(0, .ref (ad 23)), (1, .int p1), (2, .int x2)] → W p l e ({ frames := 1, cells := 0, slots := 0, locals := 25 } : Room) s m args below meth c H locs 0 0 Z (F0 m 26 ls []) := by
    intro n
    induction n with
    | zero => intro x2 f_isKept f_kept f_thrown H locs ls h; exact False.elim h
    | succ n26 ih26 =>
      intro x2 f_isKept f_kept f_thrown H locs ls h hw hl
      have h : wp_X10_keep_b26 f_page p1 Q (wp_X10_keep_h26 f_page p1 Q  n26) x2 f_isKept f_kept f_thrown := h
      unfold wp_X10_keep_b26 at h
      refine lv_iload_n hx hb dX10_keep_26 rfl (lv_at hl 2 rfl) ?_
      refine lv_bipush (v := 22) hx hb dX10_keep_27 (by decide) ?_
      refine lv_icmp_ge (tgt := 55) hx hb dX10_keep_29 (by decide) (fun c1 => ?_) (fun c1 => ?_)
      · have h := h.1 c1
        refine lv_aload_n hx hb dX10_keep_55 rfl (lv_at hl 0 rfl) ?_
        refine gM_X10_44_main E hw dX10_keep_56 ?_
        refine lv_bipush (v := 21) hx hb dX10_keep_59 (by decide) ?_
        refine lM_page E hw h.1 dX10_keep_61 ?_
        have h := h.2
        exact hret _ _ _ _ _ _ ⟨_, _, _, rfl, h⟩ hw dX10_keep_62
      · have h := h.2 c1
        refine lv_aload_n hx hb dX10_keep_32 rfl (lv_at hl 0 rfl) ?_
        refine gM_X10_53_main E hw dX10_keep_33 ?_
        refine lv_bipush (v := 22) hx hb dX10_keep_36 (by decide) ?_
        refine lv_iload_n hx hb dX10_keep_38 rfl (lv_at hl 1 rfl) ?_
        refine lv_imul hx hb dX10_keep_39 ?_
        refine lv_iload_n hx hb dX10_keep_40 rfl (lv_at hl 2 rfl) ?_
        refine lv_iadd hx hb dX10_keep_41 ?_
        refine lv_aload_n hx hb dX10_keep_42 rfl (lv_at hl 0 rfl) ?_
        refine gM_X10_44_main E hw dX10_keep_43 ?_
        refine lv_iload_n hx hb dX10_keep_46 rfl (lv_at hl 2 rfl) ?_
        refine lM_page E hw h.1 dX10_keep_47 ?_
        have h := h.2
        refine lv_topi (fun v2 ev2 => ?_)
        have h := h v2 ev2
        refine sM_kept E hw h.1 dX10_keep_48 (fun y3 ey3 H locs hw => ?_)
        have h := h.2 y3 ey3
        obtain ⟨v4, ev4⟩ : ∃ y : Int32, y = x2 + 1 := ⟨_, rfl⟩
        have h := h v4 ev4
        refine lv_iinc (v := v4) (lv' := [(2, .int v4), (0, .ref (ad 23)), (1, .int p1)]) hx hb dX10_keep_49 hl (k := 2) rfl (by rw [ev4]; rfl) (by decide) rfl (fun ls hl => ?_)
        refine lv_goto (tgt := 26) hx hb dX10_keep_52 (by decide) ?_
        exact ih26 v4 f_isKept y3 f_thrown _ _ _ h hw (lv_sub hl [1, 2, 0] rfl)
  unfold wp_X10_keep at h
  refine lv_aload_n hx hb dX10_keep_0 rfl (lv_at hl 0 rfl) ?_
  refine lv_iconst (v := 0) hx hb dX10_keep_1 (by decide) ?_
  refine pM_X10_84_main E hw dX10_keep_2 (fun H locs hw => ?_)
  refine lv_iload_n hx hb dX10_keep_5 rfl (lv_at hl 1 rfl) ?_
  refine lv_i2l hx hb dX10_keep_6 rfl ?_
  refine lv_lconst (v := 0) hx hb dX10_keep_7 (by decide) ?_
  refine lv_lconst (v := 1) hx hb dX10_keep_8 (by decide) ?_
  refine g_aI E hw (g_rS E hw (c_X10_in h _) ym_X10_in k_632 ⟨rfl, rfl⟩ ⟨Nat.le_of_ble_eq_true rfl, Nat.le_of_ble_eq_true rfl⟩ rfl hl.1 rfl (Nat.le_of_ble_eq_true rfl) ⟨Nat.zero_le _, Nat.zero_le _⟩ dX10_keep_9) (fun r5 u H locs hq hw => ?_)
  obtain ⟨hu, h⟩ := hq
  rw [hu] at hw
  refine lv_if_ne (tgt := 17) hx hb dX10_keep_12 (by decide) (fun c6 => ?_) (fun c6 => ?_)
  · have h := h.1 c6
    refine lv_aload_n hx hb dX10_keep_17 rfl (lv_at hl 0 rfl) ?_
    refine gM_X10_56_main E hw dX10_keep_18 ?_
    refine lv_iload_n hx hb dX10_keep_21 rfl (lv_at hl 1 rfl) ?_
    refine lv_iconst (v := 1) hx hb dX10_keep_22 (by decide) ?_
    refine sM_isKept E hw (Or.inr rfl) h.1 dX10_keep_23 (fun y7 ey7 H locs hw => ?_)
    have h := h.2 y7 ey7
    refine lv_iconst (v := 0) hx hb dX10_keep_24 (by decide) ?_
    refine lv_istore_n (lv' := [(2, .int (0 : Int32)), (0, .ref (ad 23)), (1, .int p1)]) hx hb dX10_keep_25 rfl hl (by decide) rfl (fun ls hl => ?_)
    obtain ⟨n, h⟩ := h
    exact L26 n (0 : Int32) y7 f_kept (0 : Int32) _ _ _ h hw (lv_sub hl [1, 2, 0] rfl)
  · have h := h.2 c6
    refine lv_iconst (v := -1) hx hb dX10_keep_15 (by decide) ?_
    exact hret _ _ _ _ _ _ ⟨_, _, _, rfl, h⟩ hw dX10_keep_16
set_option maxRecDepth 100000 in
set_option maxHeartbeats 4000000 in
theorem c_X10_again {l : Launch} {D : va_G} {cI cZ : ClassId} {ad : Nat → Nat} {f_thrown : Int32} {f_text : Nat → Int32} {f_textSize : Int32} {f_place : Int32} {f_chips : Int32} {f_gates : Int32} {f_kind : Nat → Int32} {f_source : Nat → Int32} {f_second : Nat → Int32} {f_clock : Nat → Int32} {f_readChips : Int32} {f_readPins : Int32} {f_readGates : Int32} {f_readKind : Nat → Int32} {f_readLies : Nat → Int32} {f_readSource : Nat → Int32} {f_readSecond : Nat → Int32} {f_readClock : Nat → Int32} {f_page : Nat → Int32} {f_trial : Nat → Int32} {f_book : Nat → Int32} {f_doings : Int32} {f_kept : Nat → Int32} {f_isKept : Nat → Int32} {f_seen : Int32} {f_seenBehind : Nat → Int32} {f_seenGate : Nat → Int32} {f_seenWorth : Nat → Int32} {f_seenWas : Nat → Int32} {f_seed : Int64} {f_worth : Nat → Int32} {f_known : Int32} {f_hand : Nat → Int32} {f_goes : Nat → Int32} {f_takes : Int32} {f_crossed : Int32} {f_last : Int32} {f_lastNow : Int32} {f_states : Nat → Int32} {X : va_W} {p1 : Int32} {Q : Int32 → Int32 → (Nat → Int32) → Int32 → Prop} (h : wp_X10_again f_doings f_isKept f_kept f_page f_thrown p1 Q) : CtI l yX10_again cX10_again 3 (some .int) ({ frames := 1, cells := 0, slots := 0, locals := 25 } : Room) D [(cI, .int), (cZ, .boolean)] [.ref (ad 23), .int p1] (wM ad cI cZ f_thrown f_text f_textSize f_place f_chips f_gates f_kind f_source f_second f_clock f_readChips f_readPins f_readGates f_readKind f_readLies f_readSource f_readSecond f_readClock f_page f_trial f_book f_doings f_kept f_isKept f_seen f_seenBehind f_seenGate f_seenWorth f_seenWas f_seed f_worth f_known f_hand f_goes f_takes f_crossed f_last f_lastNow f_states X) (fun r u => ∃ w0 w1 w2, u = (wM ad cI cZ w2 f_text f_textSize f_place f_chips f_gates f_kind f_source f_second f_clock f_readChips f_readPins f_readGates f_readKind f_readLies f_readSource f_readSecond f_readClock w1 f_trial f_book w0 f_kept f_isKept f_seen f_seenBehind f_seenGate f_seenWorth f_seenWas f_seed f_worth f_known f_hand f_goes f_takes f_crossed f_last f_lastNow f_states X) ∧ Q r w0 w1 w2) := by
  refine CtI.of (by decide) rfl (Nat.le_of_ble_eq_true rfl) ?_
  intro p e s m args below meth c A Z E hret ls hl hw
  have E : gE p m c cX10_again 3 s args RX10 D [(cI, .int), (cZ, .boolean)] A := E
  have hx := E.1.1
  have hb := E.1.2.1
  have hl : lv_has ls 3 [(0, .ref (ad 23)), (1, .int p1)] := hl
  have L31 : ∀ (n : Nat) (x2 : Int32) (f_doings : Int32) (f_page : Nat → Int32) (f_thrown : Int32) (H : Heap) (locs : List Loc) (ls : Array Slot), wp_X10_again_h31 f_isKept f_kept p1 Q  n x2 f_doings f_page f_thrown → gW D s A (wM ad cI cZ f_thrown f_text f_textSize f_place f_chips f_gates f_kind f_source f_second f_clock f_readChips f_readPins f_readGates f_readKind f_readLies f_readSource f_readSecond f_readClock f_page f_trial f_book f_doings f_kept f_isKept f_seen f_seenBehind f_seenGate f_seenWorth f_seenWas f_seed f_worth f_known f_hand f_goes f_takes f_crossed f_last f_lastNow f_states X) H locs → lv_has ls 3 [(0, .ref (ad 23)), (1, .int p1), (2, .int x2)] → W p l e ({ frames := 1, cells := 0, slots := 0, locals := 25 } : Room) s m args below meth c H locs 0 0 Z (F0 m 31 ls []) := by
    intro n
    induction n with
    | zero => intro x2 f_doings f_page f_thrown H locs ls h; exact False.elim h
    | succ n31 ih31 =>
      intro x2 f_doings f_page f_thrown H locs ls h hw hl
      have h : wp_X10_again_b31 f_isKept f_kept p1 Q (wp_X10_again_h31 f_isKept f_kept p1 Q  n31) x2 f_doings f_page f_thrown := h
      unfold wp_X10_again_b31 at h
      refine lv_iload_n hx hb dX10_again_31 rfl (lv_at hl 2 rfl) ?_
      refine lv_bipush (v := 22) hx hb dX10_again_32 (by decide) ?_
      refine lv_icmp_ge (tgt := 60) hx hb dX10_again_34 (by decide) (fun c1 => ?_) (fun c1 => ?_)
      · have h := h.1 c1
        refine lv_aload_n hx hb dX10_again_60 rfl (lv_at hl 0 rfl) ?_
        refine lv_iconst (v := 0) hx hb dX10_again_61 (by decide) ?_
        refine pM_X10_134_main E hw dX10_again_62 (fun H locs hw => ?_)
        refine lv_aload_n hx hb dX10_again_65 rfl (lv_at hl 0 rfl) ?_
        refine gM_X10_44_main E hw dX10_again_66 ?_
        refine lv_bipush (v := 21) hx hb dX10_again_69 (by decide) ?_
        refine lM_page E hw h.1 dX10_again_71 ?_
        have h := h.2
        exact hret _ _ _ _ _ _ ⟨_, _, _, rfl, h⟩ hw dX10_again_72
      · have h := h.2 c1
        refine lv_aload_n hx hb dX10_again_37 rfl (lv_at hl 0 rfl) ?_
        refine gM_X10_44_main E hw dX10_again_38 ?_
        refine lv_iload_n hx hb dX10_again_41 rfl (lv_at hl 2 rfl) ?_
        refine lv_aload_n hx hb dX10_again_42 rfl (lv_at hl 0 rfl) ?_
        refine gM_X10_53_main E hw dX10_again_43 ?_
        refine lv_bipush (v := 22) hx hb dX10_again_46 (by decide) ?_
        refine lv_iload_n hx hb dX10_again_48 rfl (lv_at hl 1 rfl) ?_
        refine lv_imul hx hb dX10_again_49 ?_
        refine lv_iload_n hx hb dX10_again_50 rfl (lv_at hl 2 rfl) ?_
        refine lv_iadd hx hb dX10_again_51 ?_
        refine lM_kept E hw h.1 dX10_again_52 ?_
        have h := h.2
        refine lv_topi (fun v2 ev2 => ?_)
        have h := h v2 ev2
        refine sM_page E hw h.1 dX10_again_53 (fun y3 ey3 H locs hw => ?_)
        have h := h.2 y3 ey3
        obtain ⟨v4, ev4⟩ : ∃ y : Int32, y = x2 + 1 := ⟨_, rfl⟩
        have h := h v4 ev4
        refine lv_iinc (v := v4) (lv' := [(2, .int v4), (0, .ref (ad 23)), (1, .int p1)]) hx hb dX10_again_54 hl (k := 2) rfl (by rw [ev4]; rfl) (by decide) rfl (fun ls hl => ?_)
        refine lv_goto (tgt := 31) hx hb dX10_again_57 (by decide) ?_
        exact ih31 v4 f_doings y3 f_thrown _ _ _ h hw (lv_sub hl [1, 2, 0] rfl)
  unfold wp_X10_again at h
  refine lv_aload_n hx hb dX10_again_0 rfl (lv_at hl 0 rfl) ?_
  refine lv_iconst (v := 0) hx hb dX10_again_1 (by decide) ?_
  refine pM_X10_84_main E hw dX10_again_2 (fun H locs hw => ?_)
  refine lv_iload_n hx hb dX10_again_5 rfl (lv_at hl 1 rfl) ?_
  refine lv_i2l hx hb dX10_again_6 rfl ?_
  refine lv_lconst (v := 0) hx hb dX10_again_7 (by decide) ?_
  refine lv_lconst (v := 1) hx hb dX10_again_8 (by decide) ?_
  refine g_aI E hw (g_rS E hw (c_X10_in h _) ym_X10_in k_632 ⟨rfl, rfl⟩ ⟨Nat.le_of_ble_eq_true rfl, Nat.le_of_ble_eq_true rfl⟩ rfl hl.1 rfl (Nat.le_of_ble_eq_true rfl) ⟨Nat.zero_le _, Nat.zero_le _⟩ dX10_again_9) (fun r5 u H locs hq hw => ?_)
  obtain ⟨hu, h⟩ := hq
  rw [hu] at hw
  refine lv_if_ne (tgt := 17) hx hb dX10_again_12 (by decide) (fun c6 => ?_) (fun c6 => ?_)
  · have h := h.1 c6
    refine lv_aload_n hx hb dX10_again_17 rfl (lv_at hl 0 rfl) ?_
    refine gM_X10_56_main E hw dX10_again_18 ?_
    refine lv_iload_n hx hb dX10_again_21 rfl (lv_at hl 1 rfl) ?_
    refine lM_isKept E hw h.1 dX10_again_22 ?_
    have h := h.2
    refine lv_if_ne (tgt := 29) hx hb dX10_again_23 (by decide) (fun c7 => ?_) (fun c7 => ?_)
    · have h := h.1 c7
      refine lv_iconst (v := 0) hx hb dX10_again_29 (by decide) ?_
      refine lv_istore_n (lv' := [(2, .int (0 : Int32)), (0, .ref (ad 23)), (1, .int p1)]) hx hb dX10_again_30 rfl hl (by decide) rfl (fun ls hl => ?_)
      obtain ⟨n, h⟩ := h
      exact L31 n (0 : Int32) f_doings f_page (0 : Int32) _ _ _ h hw (lv_sub hl [1, 2, 0] rfl)
    · have h := h.2 c7
      refine lv_bipush (v := -3) hx hb dX10_again_26 (by decide) ?_
      exact hret _ _ _ _ _ _ ⟨_, _, _, rfl, h⟩ hw dX10_again_28
  · have h := h.2 c6
    refine lv_iconst (v := -1) hx hb dX10_again_15 (by decide) ?_
    exact hret _ _ _ _ _ _ ⟨_, _, _, rfl, h⟩ hw dX10_again_16
set_option maxRecDepth 100000 in
set_option maxHeartbeats 4000000 in
theorem c_X10_ofKind {l : Launch} {D : va_G} {cI cZ : ClassId} {ad : Nat → Nat} {f_thrown : Int32} {f_text : Nat → Int32} {f_textSize : Int32} {f_place : Int32} {f_chips : Int32} {f_gates : Int32} {f_kind : Nat → Int32} {f_source : Nat → Int32} {f_second : Nat → Int32} {f_clock : Nat → Int32} {f_readChips : Int32} {f_readPins : Int32} {f_readGates : Int32} {f_readKind : Nat → Int32} {f_readLies : Nat → Int32} {f_readSource : Nat → Int32} {f_readSecond : Nat → Int32} {f_readClock : Nat → Int32} {f_page : Nat → Int32} {f_trial : Nat → Int32} {f_book : Nat → Int32} {f_doings : Int32} {f_kept : Nat → Int32} {f_isKept : Nat → Int32} {f_seen : Int32} {f_seenBehind : Nat → Int32} {f_seenGate : Nat → Int32} {f_seenWorth : Nat → Int32} {f_seenWas : Nat → Int32} {f_seed : Int64} {f_worth : Nat → Int32} {f_known : Int32} {f_hand : Nat → Int32} {f_goes : Nat → Int32} {f_takes : Int32} {f_crossed : Int32} {f_last : Int32} {f_lastNow : Int32} {f_states : Nat → Int32} {X : va_W} {p1 : Int32} {Q : Int32 → Prop} (h : wp_X10_ofKind f_gates f_kind p1 Q) : CtI l yX10_ofKind cX10_ofKind 4 (some .int) ({ frames := 0, cells := 0, slots := 0, locals := 0 } : Room) D [(cI, .int), (cZ, .boolean)] [.ref (ad 23), .int p1] (wM ad cI cZ f_thrown f_text f_textSize f_place f_chips f_gates f_kind f_source f_second f_clock f_readChips f_readPins f_readGates f_readKind f_readLies f_readSource f_readSecond f_readClock f_page f_trial f_book f_doings f_kept f_isKept f_seen f_seenBehind f_seenGate f_seenWorth f_seenWas f_seed f_worth f_known f_hand f_goes f_takes f_crossed f_last f_lastNow f_states X) (fun r u => u = (wM ad cI cZ f_thrown f_text f_textSize f_place f_chips f_gates f_kind f_source f_second f_clock f_readChips f_readPins f_readGates f_readKind f_readLies f_readSource f_readSecond f_readClock f_page f_trial f_book f_doings f_kept f_isKept f_seen f_seenBehind f_seenGate f_seenWorth f_seenWas f_seed f_worth f_known f_hand f_goes f_takes f_crossed f_last f_lastNow f_states X) ∧ Q r) := by
  refine CtI.of (by decide) rfl (Nat.le_of_ble_eq_true rfl) ?_
  intro p e s m args below meth c A Z E hret ls hl hw
  have E : gE p m c cX10_ofKind 4 s args RX10 D [(cI, .int), (cZ, .boolean)] A := E
  have hx := E.1.1
  have hb := E.1.2.1
  have hl : lv_has ls 4 [(0, .ref (ad 23)), (1, .int p1)] := hl
  have L4 : ∀ (n : Nat) (x2 : Int32) (x3 : Int32) (H : Heap) (locs : List Loc) (ls : Array Slot), wp_X10_ofKind_h4 f_gates f_kind p1 Q  n x2 x3 → gW D s A (wM ad cI cZ f_thrown f_text f_textSize f_place f_chips f_gates f_kind f_source f_second f_clock f_readChips f_readPins f_readGates f_readKind f_readLies f_readSource f_readSecond f_readClock f_page f_trial f_book f_doings f_kept f_isKept f_seen f_seenBehind f_seenGate f_seenWorth f_seenWas f_seed f_worth f_known f_hand f_goes f_takes f_crossed f_last f_lastNow f_states X) H locs → lv_has ls 4 [(0, .ref (ad 23)), (1, .int p1), (2, .int x2), (3, .int x3)] → W p l e ({ frames := 0, cells := 0, slots := 0, locals := 0 } : Room) s m args below meth c H locs 0 0 Z (F0 m 4 ls []) := by
    intro n
    induction n with
    | zero => intro x2 x3 H locs ls h; exact False.elim h
    | succ n4 ih4 =>
      intro x2 x3 H locs ls h hw hl
      have h : wp_X10_ofKind_b4 f_gates f_kind p1 Q (wp_X10_ofKind_h4 f_gates f_kind p1 Q  n4) x2 x3 := h
      have J30 : ∀ (x3 : Int32) (s0 : Int32) (s1 : Int32) (H : Heap) (locs : List Loc) (ls : Array Slot), wp_X10_ofKind_b30 f_gates f_kind p1 Q (wp_X10_ofKind_h4 f_gates f_kind p1 Q  n4) x3 s0 s1 → gW D s A (wM ad cI cZ f_thrown f_text f_textSize f_place f_chips f_gates f_kind f_source f_second f_clock f_readChips f_readPins f_readGates f_readKind f_readLies f_readSource f_readSecond f_readClock f_page f_trial f_book f_doings f_kept f_isKept f_seen f_seenBehind f_seenGate f_seenWorth f_seenWas f_seed f_worth f_known f_hand f_goes f_takes f_crossed f_last f_lastNow f_states X) H locs → lv_has ls 4 [(0, .ref (ad 23)), (1, .int p1), (3, .int x3)] → W p l e ({ frames := 0, cells := 0, slots := 0, locals := 0 } : Room) s m args below meth c H locs 0 0 Z (F0 m 30 ls [.int s1, .int s0]) := by
        intro x3 s0 s1 H locs ls h hw hl
        unfold wp_X10_ofKind_b30 at h
        refine lv_ior hx hb dX10_ofKind_30 ?_
        refine lv_topi (fun v1 ev1 => ?_)
        have h := h v1 ev1
        refine lv_istore_n (lv' := [(2, .int v1), (0, .ref (ad 23)), (1, .int p1), (3, .int x3)]) hx hb dX10_ofKind_31 rfl hl (by decide) rfl (fun ls hl => ?_)
        obtain ⟨v2, ev2⟩ : ∃ y : Int32, y = x3 + 1 := ⟨_, rfl⟩
        have h := h v2 ev2
        refine lv_iinc (v := v2) (lv' := [(3, .int v2), (2, .int v1), (0, .ref (ad 23)), (1, .int p1)]) hx hb dX10_ofKind_32 hl (k := 3) rfl (by rw [ev2]; rfl) (by decide) rfl (fun ls hl => ?_)
        refine lv_goto (tgt := 4) hx hb dX10_ofKind_35 (by decide) ?_
        exact ih4 v1 v2 _ _ _ h hw (lv_sub hl [2, 3, 1, 0] rfl)
      unfold wp_X10_ofKind_b4 at h
      refine lv_iload_n hx hb dX10_ofKind_4 rfl (lv_at hl 3 rfl) ?_
      refine lv_aload_n hx hb dX10_ofKind_5 rfl (lv_at hl 0 rfl) ?_
      refine gM_X10_87_main E hw dX10_ofKind_6 ?_
      refine lv_icmp_ge (tgt := 38) hx hb dX10_ofKind_9 (by decide) (fun c3 => ?_) (fun c3 => ?_)
      · have h := h.1 c3
        refine lv_iload_n hx hb dX10_ofKind_38 rfl (lv_at hl 2 rfl) ?_
        exact hret _ _ _ _ _ _ ⟨rfl, h⟩ hw dX10_ofKind_39
      · have h := h.2 c3
        refine lv_iload_n hx hb dX10_ofKind_12 rfl (lv_at hl 2 rfl) ?_
        refine lv_aload_n hx hb dX10_ofKind_13 rfl (lv_at hl 0 rfl) ?_
        refine gM_X10_17_main E hw dX10_ofKind_14 ?_
        refine lv_iload_n hx hb dX10_ofKind_17 rfl (lv_at hl 3 rfl) ?_
        refine lM_kind E hw h.1 dX10_ofKind_18 ?_
        have h := h.2
        refine lv_iload_n hx hb dX10_ofKind_19 rfl (lv_at hl 1 rfl) ?_
        refine lv_icmp_ne (tgt := 29) hx hb dX10_ofKind_20 (by decide) (fun c4 => ?_) (fun c4 => ?_)
        · have h := h.1 c4
          refine lv_iconst (v := 0) hx hb dX10_ofKind_29 (by decide) ?_
          exact J30 x3 x2 (0 : Int32) _ _ _ h hw (lv_sub hl [0, 1, 3] rfl)
        · have h := h.2 c4
          refine lv_iconst (v := 1) hx hb dX10_ofKind_23 (by decide) ?_
          refine lv_iload_n hx hb dX10_ofKind_24 rfl (lv_at hl 3 rfl) ?_
          refine lv_ishl hx hb dX10_ofKind_25 ?_
          refine lv_goto (tgt := 30) hx hb dX10_ofKind_26 (by decide) ?_
          exact J30 x3 x2 (((1 : Int32) <<< (x3 &&& 31))) _ _ _ h hw (lv_sub hl [0, 1, 3] rfl)
  unfold wp_X10_ofKind at h
  refine lv_iconst (v := 0) hx hb dX10_ofKind_0 (by decide) ?_
  refine lv_istore_n (lv' := [(2, .int (0 : Int32)), (0, .ref (ad 23)), (1, .int p1)]) hx hb dX10_ofKind_1 rfl hl (by decide) rfl (fun ls hl => ?_)
  refine lv_iconst (v := 0) hx hb dX10_ofKind_2 (by decide) ?_
  refine lv_istore_n (lv' := [(3, .int (0 : Int32)), (2, .int (0 : Int32)), (0, .ref (ad 23)), (1, .int p1)]) hx hb dX10_ofKind_3 rfl hl (by decide) rfl (fun ls hl => ?_)
  obtain ⟨n, h⟩ := h
  exact L4 n (0 : Int32) (0 : Int32) _ _ _ h hw (lv_sub hl [2, 3, 1, 0] rfl)
set_option maxRecDepth 100000 in
set_option maxHeartbeats 4000000 in
theorem c_X10_worthSo {l : Launch} {D : va_G} {cI cZ : ClassId} {ad : Nat → Nat} {f_thrown : Int32} {f_text : Nat → Int32} {f_textSize : Int32} {f_place : Int32} {f_chips : Int32} {f_gates : Int32} {f_kind : Nat → Int32} {f_source : Nat → Int32} {f_second : Nat → Int32} {f_clock : Nat → Int32} {f_readChips : Int32} {f_readPins : Int32} {f_readGates : Int32} {f_readKind : Nat → Int32} {f_readLies : Nat → Int32} {f_readSource : Nat → Int32} {f_readSecond : Nat → Int32} {f_readClock : Nat → Int32} {f_page : Nat → Int32} {f_trial : Nat → Int32} {f_book : Nat → Int32} {f_doings : Int32} {f_kept : Nat → Int32} {f_isKept : Nat → Int32} {f_seen : Int32} {f_seenBehind : Nat → Int32} {f_seenGate : Nat → Int32} {f_seenWorth : Nat → Int32} {f_seenWas : Nat → Int32} {f_seed : Int64} {f_worth : Nat → Int32} {f_known : Int32} {f_hand : Nat → Int32} {f_goes : Nat → Int32} {f_takes : Int32} {f_crossed : Int32} {f_last : Int32} {f_lastNow : Int32} {f_states : Nat → Int32} {X : va_W} {p1 : Int32} {Q : Int32 → Int32 → (Nat → Int32) → Prop} (h : wp_X10_worthSo f_gates f_kind f_known f_page f_second f_source f_worth p1 Q) : CtI l yX10_worthSo cX10_worthSo 4 (some .int) ({ frames := 2, cells := 0, slots := 0, locals := 47 } : Room) D [(cI, .int), (cZ, .boolean)] [.ref (ad 23), .int p1] (wM ad cI cZ f_thrown f_text f_textSize f_place f_chips f_gates f_kind f_source f_second f_clock f_readChips f_readPins f_readGates f_readKind f_readLies f_readSource f_readSecond f_readClock f_page f_trial f_book f_doings f_kept f_isKept f_seen f_seenBehind f_seenGate f_seenWorth f_seenWas f_seed f_worth f_known f_hand f_goes f_takes f_crossed f_last f_lastNow f_states X) (fun r u => ∃ w0 w1, u = (wM ad cI cZ f_thrown f_text f_textSize f_place f_chips f_gates f_kind f_source f_second f_clock f_readChips f_readPins f_readGates f_readKind f_readLies f_readSource f_readSecond f_readClock f_page f_trial f_book f_doings f_kept f_isKept f_seen f_seenBehind f_seenGate f_seenWorth f_seenWas f_seed w1 w0 f_hand f_goes f_takes f_crossed f_last f_lastNow f_states X) ∧ Q r w0 w1) := by
  refine CtI.of (by decide) rfl (Nat.le_of_ble_eq_true rfl) ?_
  intro p e s m args below meth c A Z E hret ls hl hw
  have E : gE p m c cX10_worthSo 4 s args RX10 D [(cI, .int), (cZ, .boolean)] A := E
  have hx := E.1.1
  have hb := E.1.2.1
  have hl : lv_has ls 4 [(0, .ref (ad 23)), (1, .int p1)] := hl
  have L14 : ∀ (n : Nat) (x2 : Int32) (x3 : Int32) (f_known : Int32) (f_worth : Nat → Int32) (H : Heap) (locs : List Loc) (ls : Array Slot), wp_X10_worthSo_h14 f_gates f_kind f_page f_second f_source p1 Q  n x2 x3 f_known f_worth → gW D s A (wM ad cI cZ f_thrown f_text f_textSize f_place f_chips f_gates f_kind f_source f_second f_clock f_readChips f_readPins f_readGates f_readKind f_readLies f_readSource f_readSecond f_readClock f_page f_trial f_book f_doings f_kept f_isKept f_seen f_seenBehind f_seenGate f_seenWorth f_seenWas f_seed f_worth f_known f_hand f_goes f_takes f_crossed f_last f_lastNow f_states X) H locs → lv_has ls 4 [(0, .ref (ad 23)), (1, .int p1), (2, .int x2), (3, .int x3)] → W p l e ({ frames := 2, cells := 0, slots := 0, locals := 47 } : Room) s m args below meth c H locs 0 0 Z (F0 m 14 ls []) := by
    intro n
    induction n with
    | zero => intro x2 x3 f_known f_worth H locs ls h; exact False.elim h
    | succ n14 ih14 =>
      intro x2 x3 f_known f_worth H locs ls h hw hl
      have h : wp_X10_worthSo_b14 f_gates f_kind f_page f_second f_source p1 Q (wp_X10_worthSo_h14 f_gates f_kind f_page f_second f_source p1 Q  n14) x2 x3 f_known f_worth := h
      have J40 : ∀ (x3 : Int32) (s0 : Int32) (s1 : Int32) (f_known : Int32) (f_worth : Nat → Int32) (H : Heap) (locs : List Loc) (ls : Array Slot), wp_X10_worthSo_b40 f_gates f_kind f_page f_second f_source p1 Q (wp_X10_worthSo_h14 f_gates f_kind f_page f_second f_source p1 Q  n14) x3 s0 s1 f_known f_worth → gW D s A (wM ad cI cZ f_thrown f_text f_textSize f_place f_chips f_gates f_kind f_source f_second f_clock f_readChips f_readPins f_readGates f_readKind f_readLies f_readSource f_readSecond f_readClock f_page f_trial f_book f_doings f_kept f_isKept f_seen f_seenBehind f_seenGate f_seenWorth f_seenWas f_seed f_worth f_known f_hand f_goes f_takes f_crossed f_last f_lastNow f_states X) H locs → lv_has ls 4 [(0, .ref (ad 23)), (1, .int p1), (3, .int x3)] → W p l e ({ frames := 2, cells := 0, slots := 0, locals := 47 } : Room) s m args below meth c H locs 0 0 Z (F0 m 40 ls [.int s1, .int s0]) := by
        intro x3 s0 s1 f_known f_worth H locs ls h hw hl
        unfold wp_X10_worthSo_b40 at h
        refine lv_ior hx hb dX10_worthSo_40 ?_
        refine lv_topi (fun v1 ev1 => ?_)
        have h := h v1 ev1
        refine lv_istore_n (lv' := [(2, .int v1), (0, .ref (ad 23)), (1, .int p1), (3, .int x3)]) hx hb dX10_worthSo_41 rfl hl (by decide) rfl (fun ls hl => ?_)
        obtain ⟨v2, ev2⟩ : ∃ y : Int32, y = x3 + 1 := ⟨_, rfl⟩
        have h := h v2 ev2
        refine lv_iinc (v := v2) (lv' := [(3, .int v2), (2, .int v1), (0, .ref (ad 23)), (1, .int p1)]) hx hb dX10_worthSo_42 hl (k := 3) rfl (by rw [ev2]; rfl) (by decide) rfl (fun ls hl => ?_)
        refine lv_goto (tgt := 14) hx hb dX10_worthSo_45 (by decide) ?_
        exact ih14 v1 v2 f_known f_worth _ _ _ h hw (lv_sub hl [2, 3, 1, 0] rfl)
      unfold wp_X10_worthSo_b14 at h
      refine lv_iload_n hx hb dX10_worthSo_14 rfl (lv_at hl 3 rfl) ?_
      refine lv_aload_n hx hb dX10_worthSo_15 rfl (lv_at hl 0 rfl) ?_
      refine gM_X10_87_main E hw dX10_worthSo_16 ?_
      refine lv_icmp_ge (tgt := 48) hx hb dX10_worthSo_19 (by decide) (fun c3 => ?_) (fun c3 => ?_)
      · have h := h.1 c3
        refine lv_iload_n hx hb dX10_worthSo_48 rfl (lv_at hl 2 rfl) ?_
        exact hret _ _ _ _ _ _ ⟨_, _, rfl, h⟩ hw dX10_worthSo_49
      · have h := h.2 c3
        refine lv_iload_n hx hb dX10_worthSo_22 rfl (lv_at hl 2 rfl) ?_
        refine lv_aload_n hx hb dX10_worthSo_23 rfl (lv_at hl 0 rfl) ?_
        refine gM_X10_72_main E hw dX10_worthSo_24 ?_
        refine lv_iload_n hx hb dX10_worthSo_27 rfl (lv_at hl 3 rfl) ?_
        refine lM_worth E hw h.1 dX10_worthSo_28 ?_
        have h := h.2
        refine lv_iload_n hx hb dX10_worthSo_29 rfl (lv_at hl 1 rfl) ?_
        refine lv_icmp_ne (tgt := 39) hx hb dX10_worthSo_30 (by decide) (fun c4 => ?_) (fun c4 => ?_)
        · have h := h.1 c4
          refine lv_iconst (v := 0) hx hb dX10_worthSo_39 (by decide) ?_
          exact J40 x3 x2 (0 : Int32) f_known f_worth _ _ _ h hw (lv_sub hl [0, 1, 3] rfl)
        · have h := h.2 c4
          refine lv_iconst (v := 1) hx hb dX10_worthSo_33 (by decide) ?_
          refine lv_iload_n hx hb dX10_worthSo_34 rfl (lv_at hl 3 rfl) ?_
          refine lv_ishl hx hb dX10_worthSo_35 ?_
          refine lv_goto (tgt := 40) hx hb dX10_worthSo_36 (by decide) ?_
          exact J40 x3 x2 (((1 : Int32) <<< (x3 &&& 31))) f_known f_worth _ _ _ h hw (lv_sub hl [0, 1, 3] rfl)
  unfold wp_X10_worthSo at h
  refine lv_aload_n hx hb dX10_worthSo_0 rfl (lv_at hl 0 rfl) ?_
  refine lv_aload_n hx hb dX10_worthSo_1 rfl (lv_at hl 0 rfl) ?_
  refine gM_X10_44_main E hw dX10_worthSo_2 ?_
  refine lv_bipush (v := -9) hx hb dX10_worthSo_5 (by decide) ?_
  refine g_aV E hw (g_rV E hw (c_X10_layWorth_page h _) ym_X10_layWorth k_674 ⟨rfl, rfl⟩ ⟨Nat.le_of_ble_eq_true rfl, Nat.le_of_ble_eq_true rfl⟩ 23 rfl rfl rfl rfl hl.1 rfl (Nat.le_of_ble_eq_true rfl) ⟨Nat.zero_le _, Nat.zero_le _⟩ dX10_worthSo_7) (fun u H locs hq hw => ?_)
  obtain ⟨y6, y7, hu, h⟩ := hq
  rw [hu] at hw
  refine lv_iconst (v := 0) hx hb dX10_worthSo_10 (by decide) ?_
  refine lv_istore_n (lv' := [(2, .int (0 : Int32)), (0, .ref (ad 23)), (1, .int p1)]) hx hb dX10_worthSo_11 rfl hl (by decide) rfl (fun ls hl => ?_)
  refine lv_iconst (v := 0) hx hb dX10_worthSo_12 (by decide) ?_
  refine lv_istore_n (lv' := [(3, .int (0 : Int32)), (2, .int (0 : Int32)), (0, .ref (ad 23)), (1, .int p1)]) hx hb dX10_worthSo_13 rfl hl (by decide) rfl (fun ls hl => ?_)
  obtain ⟨n, h⟩ := h
  exact L14 n (0 : Int32) (0 : Int32) y6 y7 _ _ _ h hw (lv_sub hl [2, 3, 1, 0] rfl)
set_option maxRecDepth 100000 in
set_option maxHeartbeats 4000000 in
theorem c_X10_count {l : Launch} {D : va_G} {cI cZ : ClassId} {ad : Nat → Nat} {f_thrown : Int32} {f_text : Nat → Int32} {f_textSize : Int32} {f_place : Int32} {f_chips : Int32} {f_gates : Int32} {f_kind : Nat → Int32} {f_source : Nat → Int32} {f_second : Nat → Int32} {f_clock : Nat → Int32} {f_readChips : Int32} {f_readPins : Int32} {f_readGates : Int32} {f_readKind : Nat → Int32} {f_readLies : Nat → Int32} {f_readSource : Nat → Int32} {f_readSecond : Nat → Int32} {f_readClock : Nat → Int32} {f_page : Nat → Int32} {f_trial : Nat → Int32} {f_book : Nat → Int32} {f_doings : Int32} {f_kept : Nat → Int32} {f_isKept : Nat → Int32} {f_seen : Int32} {f_seenBehind : Nat → Int32} {f_seenGate : Nat → Int32} {f_seenWorth : Nat → Int32} {f_seenWas : Nat → Int32} {f_seed : Int64} {f_worth : Nat → Int32} {f_known : Int32} {f_hand : Nat → Int32} {f_goes : Nat → Int32} {f_takes : Int32} {f_crossed : Int32} {f_last : Int32} {f_lastNow : Int32} {f_states : Nat → Int32} {X : va_W} {p1 : Int32} {Q : Int32 → Int32 → Int32 → (Nat → Int32) → Prop} (h : wp_X10_count f_chips f_doings f_gates f_kind f_known f_page f_second f_seen f_source f_textSize f_thrown f_worth p1 Q) : CtI l yX10_count cX10_count 2 (some .int) ({ frames := 3, cells := 0, slots := 0, locals := 70 } : Room) D [(cI, .int), (cZ, .boolean)] [.ref (ad 23), .int p1] (wM ad cI cZ f_thrown f_text f_textSize f_place f_chips f_gates f_kind f_source f_second f_clock f_readChips f_readPins f_readGates f_readKind f_readLies f_readSource f_readSecond f_readClock f_page f_trial f_book f_doings f_kept f_isKept f_seen f_seenBehind f_seenGate f_seenWorth f_seenWas f_seed f_worth f_known f_hand f_goes f_takes f_crossed f_last f_lastNow f_states X) (fun r u => ∃ w0 w1 w2, u = (wM ad cI cZ w1 f_text f_textSize f_place f_chips f_gates f_kind f_source f_second f_clock f_readChips f_readPins f_readGates f_readKind f_readLies f_readSource f_readSecond f_readClock f_page f_trial f_book f_doings f_kept f_isKept f_seen f_seenBehind f_seenGate f_seenWorth f_seenWas f_seed w2 w0 f_hand f_goes f_takes f_crossed f_last f_lastNow f_states X) ∧ Q r w0 w1 w2) := by
  refine CtI.of (by decide) rfl (Nat.le_of_ble_eq_true rfl) ?_
  intro p e s m args below meth c A Z E hret ls hl hw
  have E : gE p m c cX10_count 2 s args RX10 D [(cI, .int), (cZ, .boolean)] A := E
  have hx := E.1.1
  have hb := E.1.2.1
  have hl : lv_has ls 2 [(0, .ref (ad 23)), (1, .int p1)] := hl
  unfold wp_X10_count at h
  refine lv_aload_n hx hb dX10_count_0 rfl (lv_at hl 0 rfl) ?_
  refine lv_iconst (v := 0) hx hb dX10_count_1 (by decide) ?_
  refine pM_X10_84_main E hw dX10_count_2 (fun H locs hw => ?_)
  refine lv_iload_n hx hb dX10_count_5 rfl (lv_at hl 1 rfl) ?_
  by_cases c1 : p1 = 0
  · have h := h.1 c1
    refine lv_tableIn (tgt := 64) (off := 58) hx hb dX10_count_6 (by rw [c1]; decide) (by rw [c1]; decide) (by rw [c1]; rfl) (by decide) ?_
    refine lv_aload_n hx hb dX10_count_64 rfl (lv_at hl 0 rfl) ?_
    refine gM_X10_96_main E hw dX10_count_65 ?_
    exact hret _ _ _ _ _ _ ⟨_, _, _, rfl, h⟩ hw dX10_count_68
  · have h := h.2 c1
    by_cases c2 : p1 = 1
    · have h := h.1 c2
      refine lv_tableIn (tgt := 69) (off := 63) hx hb dX10_count_6 (by rw [c2]; decide) (by rw [c2]; decide) (by rw [c2]; rfl) (by decide) ?_
      refine lv_aload_n hx hb dX10_count_69 rfl (lv_at hl 0 rfl) ?_
      refine gM_X10_13_main E hw dX10_count_70 ?_
      exact hret _ _ _ _ _ _ ⟨_, _, _, rfl, h⟩ hw dX10_count_73
    · have h := h.2 c2
      by_cases c3 : p1 = 2
      · have h := h.1 c3
        refine lv_tableIn (tgt := 74) (off := 68) hx hb dX10_count_6 (by rw [c3]; decide) (by rw [c3]; decide) (by rw [c3]; rfl) (by decide) ?_
        refine lv_aload_n hx hb dX10_count_74 rfl (lv_at hl 0 rfl) ?_
        refine gM_X10_87_main E hw dX10_count_75 ?_
        exact hret _ _ _ _ _ _ ⟨_, _, _, rfl, h⟩ hw dX10_count_78
      · have h := h.2 c3
        by_cases c4 : p1 = 3
        · have h := h.1 c4
          refine lv_tableIn (tgt := 79) (off := 73) hx hb dX10_count_6 (by rw [c4]; decide) (by rw [c4]; decide) (by rw [c4]; rfl) (by decide) ?_
          refine lv_aload_n hx hb dX10_count_79 rfl (lv_at hl 0 rfl) ?_
          refine gM_X10_44_main E hw dX10_count_80 ?_
          refine lv_bipush (v := 20) hx hb dX10_count_83 (by decide) ?_
          refine lM_page E hw h.1 dX10_count_85 ?_
          have h := h.2
          exact hret _ _ _ _ _ _ ⟨_, _, _, rfl, h⟩ hw dX10_count_86
        · have h := h.2 c4
          by_cases c5 : p1 = 4
          · have h := h.1 c5
            refine lv_tableIn (tgt := 87) (off := 81) hx hb dX10_count_6 (by rw [c5]; decide) (by rw [c5]; decide) (by rw [c5]; rfl) (by decide) ?_
            refine lv_aload_n hx hb dX10_count_87 rfl (lv_at hl 0 rfl) ?_
            refine gM_X10_44_main E hw dX10_count_88 ?_
            refine lv_bipush (v := 21) hx hb dX10_count_91 (by decide) ?_
            refine lM_page E hw h.1 dX10_count_93 ?_
            have h := h.2
            exact hret _ _ _ _ _ _ ⟨_, _, _, rfl, h⟩ hw dX10_count_94
          · have h := h.2 c5
            by_cases c6 : p1 = 5
            · have h := h.1 c6
              refine lv_tableIn (tgt := 95) (off := 89) hx hb dX10_count_6 (by rw [c6]; decide) (by rw [c6]; decide) (by rw [c6]; rfl) (by decide) ?_
              refine lv_aload_n hx hb dX10_count_95 rfl (lv_at hl 0 rfl) ?_
              refine lv_iconst (v := 0) hx hb dX10_count_96 (by decide) ?_
              refine g_aI E hw (g_rV E hw (c_X10_ofKind h _) ym_X10_ofKind k_842 ⟨rfl, rfl⟩ ⟨Nat.le_of_ble_eq_true rfl, Nat.le_of_ble_eq_true rfl⟩ 23 rfl rfl rfl rfl hl.1 rfl (Nat.le_of_ble_eq_true rfl) ⟨Nat.zero_le _, Nat.zero_le _⟩ dX10_count_97) (fun r7 u H locs hq hw => ?_)
              obtain ⟨hu, h⟩ := hq
              rw [hu] at hw
              exact hret _ _ _ _ _ _ ⟨_, _, _, rfl, h⟩ hw dX10_count_100
            · have h := h.2 c6
              by_cases c8 : p1 = 6
              · have h := h.1 c8
                refine lv_tableIn (tgt := 101) (off := 95) hx hb dX10_count_6 (by rw [c8]; decide) (by rw [c8]; decide) (by rw [c8]; rfl) (by decide) ?_
                refine lv_aload_n hx hb dX10_count_101 rfl (lv_at hl 0 rfl) ?_
                refine lv_iconst (v := 5) hx hb dX10_count_102 (by decide) ?_
                refine g_aI E hw (g_rV E hw (c_X10_ofKind h _) ym_X10_ofKind k_842 ⟨rfl, rfl⟩ ⟨Nat.le_of_ble_eq_true rfl, Nat.le_of_ble_eq_true rfl⟩ 23 rfl rfl rfl rfl hl.1 rfl (Nat.le_of_ble_eq_true rfl) ⟨Nat.zero_le _, Nat.zero_le _⟩ dX10_count_103) (fun r9 u H locs hq hw => ?_)
                obtain ⟨hu, h⟩ := hq
                rw [hu] at hw
                exact hret _ _ _ _ _ _ ⟨_, _, _, rfl, h⟩ hw dX10_count_106
              · have h := h.2 c8
                by_cases c10 : p1 = 7
                · have h := h.1 c10
                  refine lv_tableIn (tgt := 107) (off := 101) hx hb dX10_count_6 (by rw [c10]; decide) (by rw [c10]; decide) (by rw [c10]; rfl) (by decide) ?_
                  refine lv_aload_n hx hb dX10_count_107 rfl (lv_at hl 0 rfl) ?_
                  refine lv_iconst (v := 1) hx hb dX10_count_108 (by decide) ?_
                  refine g_aI E hw (g_rV E hw (c_X10_worthSo h _) ym_X10_worthSo k_845 ⟨rfl, rfl⟩ ⟨Nat.le_of_ble_eq_true rfl, Nat.le_of_ble_eq_true rfl⟩ 23 rfl rfl rfl rfl hl.1 rfl (Nat.le_of_ble_eq_true rfl) ⟨Nat.zero_le _, Nat.zero_le _⟩ dX10_count_109) (fun r11 u H locs hq hw => ?_)
                  obtain ⟨y12, y13, hu, h⟩ := hq
                  rw [hu] at hw
                  exact hret _ _ _ _ _ _ ⟨_, _, _, rfl, h⟩ hw dX10_count_112
                · have h := h.2 c10
                  by_cases c14 : p1 = 8
                  · have h := h.1 c14
                    refine lv_tableIn (tgt := 113) (off := 107) hx hb dX10_count_6 (by rw [c14]; decide) (by rw [c14]; decide) (by rw [c14]; rfl) (by decide) ?_
                    refine lv_aload_n hx hb dX10_count_113 rfl (lv_at hl 0 rfl) ?_
                    refine lv_iconst (v := 2) hx hb dX10_count_114 (by decide) ?_
                    refine g_aI E hw (g_rV E hw (c_X10_worthSo h _) ym_X10_worthSo k_845 ⟨rfl, rfl⟩ ⟨Nat.le_of_ble_eq_true rfl, Nat.le_of_ble_eq_true rfl⟩ 23 rfl rfl rfl rfl hl.1 rfl (Nat.le_of_ble_eq_true rfl) ⟨Nat.zero_le _, Nat.zero_le _⟩ dX10_count_115) (fun r15 u H locs hq hw => ?_)
                    obtain ⟨y16, y17, hu, h⟩ := hq
                    rw [hu] at hw
                    exact hret _ _ _ _ _ _ ⟨_, _, _, rfl, h⟩ hw dX10_count_118
                  · have h := h.2 c14
                    by_cases c18 : p1 = 9
                    · have h := h.1 c18
                      refine lv_tableIn (tgt := 119) (off := 113) hx hb dX10_count_6 (by rw [c18]; decide) (by rw [c18]; decide) (by rw [c18]; rfl) (by decide) ?_
                      refine lv_aload_n hx hb dX10_count_119 rfl (lv_at hl 0 rfl) ?_
                      refine gM_X10_134_main E hw dX10_count_120 ?_
                      exact hret _ _ _ _ _ _ ⟨_, _, _, rfl, h⟩ hw dX10_count_123
                    · have h := h.2 c18
                      by_cases c19 : p1 = 10
                      · have h := h.1 c19
                        refine lv_tableIn (tgt := 124) (off := 118) hx hb dX10_count_6 (by rw [c19]; decide) (by rw [c19]; decide) (by rw [c19]; rfl) (by decide) ?_
                        refine lv_aload_n hx hb dX10_count_124 rfl (lv_at hl 0 rfl) ?_
                        refine gM_X10_231_main E hw dX10_count_125 ?_
                        exact hret _ _ _ _ _ _ ⟨_, _, _, rfl, h⟩ hw dX10_count_128
                      · have h := h.2 c19
                        have nc1 := lv_neT c1 (a := 0) rfl
                        have nc2 := lv_neT c2 (a := 1) rfl
                        have nc3 := lv_neT c3 (a := 2) rfl
                        have nc4 := lv_neT c4 (a := 3) rfl
                        have nc5 := lv_neT c5 (a := 4) rfl
                        have nc6 := lv_neT c6 (a := 5) rfl
                        have nc8 := lv_neT c8 (a := 6) rfl
                        have nc10 := lv_neT c10 (a := 7) rfl
                        have nc14 := lv_neT c14 (a := 8) rfl
                        have nc18 := lv_neT c18 (a := 9) rfl
                        have nc19 := lv_neT c19 (a := 10) rfl
                        refine lv_tableOut (tgt := 129) hx hb dX10_count_6 (by omega) (by decide) ?_
                        refine lv_bipush (v := -2) hx hb dX10_count_129 (by decide) ?_
                        exact hret _ _ _ _ _ _ ⟨_, _, _, rfl, h⟩ hw dX10_count_131
