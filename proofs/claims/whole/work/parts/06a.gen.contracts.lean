set_option maxRecDepth 100000 in
set_option maxHeartbeats 4000000 in
theorem c_X9_setCell {l : Launch} {D : va_G} {cI cZ : ClassId} {w0 : va_W} {q0 a n_a0 : Nat} {f_a0 : Nat → Int32} {p1 : Int32} {p2 : Int32} {Q : (Nat → Int32) → Prop} (he : w0[q0]? = some (a, .inl (cI, n_a0, .inl f_a0))) (h : wp_X9_setCell n_a0 f_a0 p1 p2 Q) : CtV l yX9_setCell cX9_setCell 3 none ({ frames := 0, cells := 0, slots := 0, locals := 0 } : Room) D [(cI, .int), (cZ, .boolean)] [.ref a, .int p1, .int p2] w0 (fun  u => ∃ w0_, u = (w0.set q0 (a, .inl (cI, n_a0, .inl w0_))) ∧ Q w0_) := by
  refine CtV.of (by decide) rfl (Nat.le_of_ble_eq_true rfl) ?_
  intro p e s m args below meth c A Z E hret ls hl hw
  have E : gE p m c cX9_setCell 3 s args RX9 D [(cI, .int), (cZ, .boolean)] A := E
  have hx := E.1.1
  have hb := E.1.2.1
  have hl : lv_has ls 3 [(0, .ref a), (1, .int p1), (2, .int p2)] := hl
  unfold wp_X9_setCell at h
  refine lv_iload_n hx hb dX9_setCell_0 rfl (lv_at hl 1 rfl) ?_
  refine lv_if_lt (tgt := 14) hx hb dX9_setCell_1 (by decide) (fun c1 => ?_) (fun c1 => ?_)
  · have h := h.1 c1
    exact hret _ _ _ _ _ ⟨_, (set_same he).symm, h⟩ hw dX9_setCell_14
  · have h := h.2 c1
    refine lv_iload_n hx hb dX9_setCell_4 rfl (lv_at hl 1 rfl) ?_
    refine lv_aload_n hx hb dX9_setCell_5 rfl (lv_at hl 0 rfl) ?_
    refine g_alen E hw q0 0 he rfl dX9_setCell_6 ?_
    refine lv_icmp_ge (tgt := 14) hx hb dX9_setCell_7 (by decide) (fun c2 => ?_) (fun c2 => ?_)
    · have h := h.1 c2
      exact hret _ _ _ _ _ ⟨_, (set_same he).symm, h⟩ hw dX9_setCell_14
    · have h := h.2 c2
      refine lv_aload_n hx hb dX9_setCell_10 rfl (lv_at hl 0 rfl) ?_
      refine lv_iload_n hx hb dX9_setCell_11 rfl (lv_at hl 1 rfl) ?_
      refine lv_iload_n hx hb dX9_setCell_12 rfl (lv_at hl 2 rfl) ?_
      refine g_iast E hw q0 0 he rfl h.1 _ rfl dX9_setCell_13 (fun H locs hw => ?_)
      obtain ⟨y3, ey3⟩ : ∃ z, z = upd f_a0 (p1).toNatClampNeg p2 := ⟨_, rfl⟩
      rw [← ey3] at hw
      have h := h.2 y3 ey3
      exact hret _ _ _ _ _ ⟨_, rfl, h⟩ hw dX9_setCell_14
set_option maxRecDepth 100000 in
set_option maxHeartbeats 4000000 in
theorem c_X9_cell {l : Launch} {D : va_G} {cI cZ : ClassId} {w0 : va_W} {q0 a n_a0 : Nat} {f_a0 : Nat → Int32} {p1 : Int32} {Q : Int32 → Prop} (he : w0[q0]? = some (a, .inl (cI, n_a0, .inl f_a0))) (h : wp_X9_cell n_a0 f_a0 p1 Q) : CtI l yX9_cell cX9_cell 2 (some .int) ({ frames := 0, cells := 0, slots := 0, locals := 0 } : Room) D [(cI, .int), (cZ, .boolean)] [.ref a, .int p1] w0 (fun r u => u = w0 ∧ Q r) := by
  refine CtI.of (by decide) rfl (Nat.le_of_ble_eq_true rfl) ?_
  intro p e s m args below meth c A Z E hret ls hl hw
  have E : gE p m c cX9_cell 2 s args RX9 D [(cI, .int), (cZ, .boolean)] A := E
  have hx := E.1.1
  have hb := E.1.2.1
  have hl : lv_has ls 2 [(0, .ref a), (1, .int p1)] := hl
  have J16 : ∀  (H : Heap) (locs : List Loc) (ls : Array Slot), wp_X9_cell_b16 n_a0 f_a0 p1 Q   → gW D s A w0 H locs → lv_has ls 2 [] → W p l e ({ frames := 0, cells := 0, slots := 0, locals := 0 } : Room) s m args below meth c H locs 0 0 Z (F0 m 16 ls []) := by
    intro  H locs ls h hw hl
    unfold wp_X9_cell_b16 at h
    refine lv_iconst (v := 0) hx hb dX9_cell_16 (by decide) ?_
    exact hret _ _ _ _ _ _ ⟨rfl, h⟩ hw dX9_cell_17
  unfold wp_X9_cell at h
  refine lv_iload_n hx hb dX9_cell_0 rfl (lv_at hl 1 rfl) ?_
  refine lv_if_lt (tgt := 16) hx hb dX9_cell_1 (by decide) (fun c1 => ?_) (fun c1 => ?_)
  · have h := h.1 c1
    exact J16  _ _ _ h hw (lv_sub hl [] rfl)
  · have h := h.2 c1
    refine lv_iload_n hx hb dX9_cell_4 rfl (lv_at hl 1 rfl) ?_
    refine lv_aload_n hx hb dX9_cell_5 rfl (lv_at hl 0 rfl) ?_
    refine g_alen E hw q0 0 he rfl dX9_cell_6 ?_
    refine lv_icmp_ge (tgt := 16) hx hb dX9_cell_7 (by decide) (fun c2 => ?_) (fun c2 => ?_)
    · have h := h.1 c2
      exact J16  _ _ _ h hw (lv_sub hl [] rfl)
    · have h := h.2 c2
      refine lv_aload_n hx hb dX9_cell_10 rfl (lv_at hl 0 rfl) ?_
      refine lv_iload_n hx hb dX9_cell_11 rfl (lv_at hl 1 rfl) ?_
      refine g_iald E hw q0 0 he rfl h.1 dX9_cell_12 ?_
      have h := h.2
      refine lv_goto (tgt := 17) hx hb dX9_cell_13 (by decide) ?_
      exact hret _ _ _ _ _ _ ⟨rfl, h⟩ hw dX9_cell_17
set_option maxRecDepth 100000 in
set_option maxHeartbeats 4000000 in
theorem c_X9_isPins {l : Launch} {D : va_G} {cI cZ : ClassId} {w0 : va_W} {p0 : Int32} {Q : Int32 → Prop} (h : wp_X9_isPins p0 Q) : CtI l yX9_isPins cX9_isPins 1 (some .boolean) ({ frames := 0, cells := 0, slots := 0, locals := 0 } : Room) D [(cI, .int), (cZ, .boolean)] [.int p0] w0 (fun r u => u = w0 ∧ Q r) := by
  refine CtI.ofZ (by decide) rfl (Nat.le_of_ble_eq_true rfl) ?_
  intro p e s m args below meth c A Z E hret ls hl hw
  have E : gE p m c cX9_isPins 1 s args RX9 D [(cI, .int), (cZ, .boolean)] A := E
  have hx := E.1.1
  have hb := E.1.2.1
  have hl : lv_has ls 1 [(0, .int p0)] := hl
  have J15 : ∀  (H : Heap) (locs : List Loc) (ls : Array Slot), wp_X9_isPins_b15 p0 Q   → gW D s A w0 H locs → lv_has ls 1 [] → W p l e ({ frames := 0, cells := 0, slots := 0, locals := 0 } : Room) s m args below meth c H locs 0 0 Z (F0 m 15 ls []) := by
    intro  H locs ls h hw hl
    unfold wp_X9_isPins_b15 at h
    refine lv_iconst (v := 0) hx hb dX9_isPins_15 (by decide) ?_
    exact hret _ _ _ _ _ _ (Or.inl rfl) ⟨rfl, h⟩ hw dX9_isPins_16
  unfold wp_X9_isPins at h
  refine lv_iload_n hx hb dX9_isPins_0 rfl (lv_at hl 0 rfl) ?_
  refine lv_iconst (v := 1) hx hb dX9_isPins_1 (by decide) ?_
  refine lv_icmp_lt (tgt := 15) hx hb dX9_isPins_2 (by decide) (fun c1 => ?_) (fun c1 => ?_)
  · have h := h.1 c1
    exact J15  _ _ _ h hw (lv_sub hl [] rfl)
  · have h := h.2 c1
    refine lv_iload_n hx hb dX9_isPins_5 rfl (lv_at hl 0 rfl) ?_
    refine lv_bipush (v := 9) hx hb dX9_isPins_6 (by decide) ?_
    refine lv_icmp_gt (tgt := 15) hx hb dX9_isPins_8 (by decide) (fun c2 => ?_) (fun c2 => ?_)
    · have h := h.1 c2
      exact J15  _ _ _ h hw (lv_sub hl [] rfl)
    · have h := h.2 c2
      refine lv_iconst (v := 1) hx hb dX9_isPins_11 (by decide) ?_
      refine lv_goto (tgt := 16) hx hb dX9_isPins_12 (by decide) ?_
      exact hret _ _ _ _ _ _ (Or.inr rfl) ⟨rfl, h⟩ hw dX9_isPins_16
set_option maxRecDepth 100000 in
set_option maxHeartbeats 4000000 in
theorem c_X3_kindOfLetter {l : Launch} {D : va_G} {cI cZ : ClassId} {w0 : va_W} {p0 : Int32} {Q : Int32 → Prop} (h : wp_X3_kindOfLetter p0 Q) : CtI l yX3_kindOfLetter cX3_kindOfLetter 1 (some .int) ({ frames := 0, cells := 0, slots := 0, locals := 0 } : Room) D [(cI, .int), (cZ, .boolean)] [.int p0] w0 (fun r u => u = w0 ∧ Q r) := by
  refine CtI.of (by decide) rfl (Nat.le_of_ble_eq_true rfl) ?_
  intro p e s m args below meth c A Z E hret ls hl hw
  have E : gE p m c cX3_kindOfLetter 1 s args RX3 D [(cI, .int), (cZ, .boolean)] A := E
  have hx := E.1.1
  have hb := E.1.2.1
  have hl : lv_has ls 1 [(0, .int p0)] := hl
  unfold wp_X3_kindOfLetter at h
  refine lv_iload_n hx hb dX3_kindOfLetter_0 rfl (lv_at hl 0 rfl) ?_
  by_cases c1 : p0 = 97
  · have h := h.1 c1
    refine lv_lookup (tgt := 64) (off := 63) hx hb dX3_kindOfLetter_1 (by decide) (by rw [c1]; decide) (by decide) ?_
    refine lv_iconst (v := 2) hx hb dX3_kindOfLetter_64 (by decide) ?_
    exact hret _ _ _ _ _ _ ⟨rfl, h⟩ hw dX3_kindOfLetter_65
  · have h := h.2 c1
    by_cases c2 : p0 = 105
    · have h := h.1 c2
      refine lv_lookup (tgt := 60) (off := 59) hx hb dX3_kindOfLetter_1 (by decide) (by rw [c2]; decide) (by decide) ?_
      refine lv_iconst (v := 0) hx hb dX3_kindOfLetter_60 (by decide) ?_
      exact hret _ _ _ _ _ _ ⟨rfl, h⟩ hw dX3_kindOfLetter_61
    · have h := h.2 c2
      by_cases c3 : p0 = 110
      · have h := h.1 c3
        refine lv_lookup (tgt := 62) (off := 61) hx hb dX3_kindOfLetter_1 (by decide) (by rw [c3]; decide) (by decide) ?_
        refine lv_iconst (v := 1) hx hb dX3_kindOfLetter_62 (by decide) ?_
        exact hret _ _ _ _ _ _ ⟨rfl, h⟩ hw dX3_kindOfLetter_63
      · have h := h.2 c3
        by_cases c4 : p0 = 111
        · have h := h.1 c4
          refine lv_lookup (tgt := 66) (off := 65) hx hb dX3_kindOfLetter_1 (by decide) (by rw [c4]; decide) (by decide) ?_
          refine lv_iconst (v := 3) hx hb dX3_kindOfLetter_66 (by decide) ?_
          exact hret _ _ _ _ _ _ ⟨rfl, h⟩ hw dX3_kindOfLetter_67
        · have h := h.2 c4
          by_cases c5 : p0 = 114
          · have h := h.1 c5
            refine lv_lookup (tgt := 70) (off := 69) hx hb dX3_kindOfLetter_1 (by decide) (by rw [c5]; decide) (by decide) ?_
            refine lv_iconst (v := 5) hx hb dX3_kindOfLetter_70 (by decide) ?_
            exact hret _ _ _ _ _ _ ⟨rfl, h⟩ hw dX3_kindOfLetter_71
          · have h := h.2 c5
            by_cases c6 : p0 = 120
            · have h := h.1 c6
              refine lv_lookup (tgt := 68) (off := 67) hx hb dX3_kindOfLetter_1 (by decide) (by rw [c6]; decide) (by decide) ?_
              refine lv_iconst (v := 4) hx hb dX3_kindOfLetter_68 (by decide) ?_
              exact hret _ _ _ _ _ _ ⟨rfl, h⟩ hw dX3_kindOfLetter_69
            · have h := h.2 c6
              refine lv_lookup (tgt := 72) (off := 71) hx hb dX3_kindOfLetter_1 (by decide) (by show Op.lookupswitch.offset [(97, 63), (105, 59), (110, 61), (111, 65), (114, 69), (120, 67)] 71 p0.toInt = 71; rw [lv_osw (a := 97) c1 rfl, lv_osw (a := 105) c2 rfl, lv_osw (a := 110) c3 rfl, lv_osw (a := 111) c4 rfl, lv_osw (a := 114) c5 rfl, lv_osw (a := 120) c6 rfl]; rfl) (by decide) ?_
              refine lv_bipush (v := -9) hx hb dX3_kindOfLetter_72 (by decide) ?_
              exact hret _ _ _ _ _ _ ⟨rfl, h⟩ hw dX3_kindOfLetter_74
set_option maxRecDepth 100000 in
set_option maxHeartbeats 4000000 in
theorem c_X3_behindFirst {l : Launch} {D : va_G} {cI cZ : ClassId} {w0 : va_W} {p0 : Int32} {Q : Int32 → Prop} (h : wp_X3_behindFirst p0 Q) : CtI l yX3_behindFirst cX3_behindFirst 1 (some .int) ({ frames := 0, cells := 0, slots := 0, locals := 0 } : Room) D [(cI, .int), (cZ, .boolean)] [.int p0] w0 (fun r u => u = w0 ∧ Q r) := by
  refine CtI.of (by decide) rfl (Nat.le_of_ble_eq_true rfl) ?_
  intro p e s m args below meth c A Z E hret ls hl hw
  have E : gE p m c cX3_behindFirst 1 s args RX3 D [(cI, .int), (cZ, .boolean)] A := E
  have hx := E.1.1
  have hb := E.1.2.1
  have hl : lv_has ls 1 [(0, .int p0)] := hl
  unfold wp_X3_behindFirst at h
  refine lv_iload_n hx hb dX3_behindFirst_0 rfl (lv_at hl 0 rfl) ?_
  refine lv_iconst (v := 1) hx hb dX3_behindFirst_1 (by decide) ?_
  refine lv_icmp_ne (tgt := 7) hx hb dX3_behindFirst_2 (by decide) (fun c1 => ?_) (fun c1 => ?_)
  · have h := h.1 c1
    refine lv_iload_n hx hb dX3_behindFirst_7 rfl (lv_at hl 0 rfl) ?_
    refine lv_iconst (v := 5) hx hb dX3_behindFirst_8 (by decide) ?_
    refine lv_icmp_ne (tgt := 17) hx hb dX3_behindFirst_9 (by decide) (fun c2 => ?_) (fun c2 => ?_)
    · have h := h.1 c2
      refine lv_bipush (v := 6) hx hb dX3_behindFirst_17 (by decide) ?_
      exact hret _ _ _ _ _ _ ⟨rfl, h⟩ hw dX3_behindFirst_19
    · have h := h.2 c2
      refine lv_bipush (v := 7) hx hb dX3_behindFirst_12 (by decide) ?_
      refine lv_goto (tgt := 19) hx hb dX3_behindFirst_14 (by decide) ?_
      exact hret _ _ _ _ _ _ ⟨rfl, h⟩ hw dX3_behindFirst_19
  · have h := h.2 c1
    refine lv_iconst (v := 3) hx hb dX3_behindFirst_5 (by decide) ?_
    exact hret _ _ _ _ _ _ ⟨rfl, h⟩ hw dX3_behindFirst_6
set_option maxRecDepth 100000 in
set_option maxHeartbeats 4000000 in
theorem c_X9_bit {l : Launch} {D : va_G} {cI cZ : ClassId} {w0 : va_W} {p0 : Int32} {Q : Int32 → Prop} (h : wp_X9_bit p0 Q) : CtI l yX9_bit cX9_bit 1 (some .int) ({ frames := 0, cells := 0, slots := 0, locals := 0 } : Room) D [(cI, .int), (cZ, .boolean)] [.int p0] w0 (fun r u => u = w0 ∧ Q r) := by
  refine CtI.of (by decide) rfl (Nat.le_of_ble_eq_true rfl) ?_
  intro p e s m args below meth c A Z E hret ls hl hw
  have E : gE p m c cX9_bit 1 s args RX9 D [(cI, .int), (cZ, .boolean)] A := E
  have hx := E.1.1
  have hb := E.1.2.1
  have hl : lv_has ls 1 [(0, .int p0)] := hl
  have J16 : ∀  (H : Heap) (locs : List Loc) (ls : Array Slot), wp_X9_bit_b16 p0 Q   → gW D s A w0 H locs → lv_has ls 1 [] → W p l e ({ frames := 0, cells := 0, slots := 0, locals := 0 } : Room) s m args below meth c H locs 0 0 Z (F0 m 16 ls []) := by
    intro  H locs ls h hw hl
    unfold wp_X9_bit_b16 at h
    refine lv_iconst (v := 0) hx hb dX9_bit_16 (by decide) ?_
    exact hret _ _ _ _ _ _ ⟨rfl, h⟩ hw dX9_bit_17
  unfold wp_X9_bit at h
  refine lv_iload_n hx hb dX9_bit_0 rfl (lv_at hl 0 rfl) ?_
  refine lv_if_lt (tgt := 16) hx hb dX9_bit_1 (by decide) (fun c1 => ?_) (fun c1 => ?_)
  · have h := h.1 c1
    exact J16  _ _ _ h hw (lv_sub hl [] rfl)
  · have h := h.2 c1
    refine lv_iload_n hx hb dX9_bit_4 rfl (lv_at hl 0 rfl) ?_
    refine lv_bipush (v := 10) hx hb dX9_bit_5 (by decide) ?_
    refine lv_icmp_ge (tgt := 16) hx hb dX9_bit_7 (by decide) (fun c2 => ?_) (fun c2 => ?_)
    · have h := h.1 c2
      exact J16  _ _ _ h hw (lv_sub hl [] rfl)
    · have h := h.2 c2
      refine lv_iconst (v := 1) hx hb dX9_bit_10 (by decide) ?_
      refine lv_iload_n hx hb dX9_bit_11 rfl (lv_at hl 0 rfl) ?_
      refine lv_ishl hx hb dX9_bit_12 ?_
      refine lv_goto (tgt := 17) hx hb dX9_bit_13 (by decide) ?_
      exact hret _ _ _ _ _ _ ⟨rfl, h⟩ hw dX9_bit_17
set_option maxRecDepth 100000 in
set_option maxHeartbeats 4000000 in
theorem c_X9_placed {l : Launch} {D : va_G} {cI cZ : ClassId} {w0 : va_W} {p0 : Int32} {p1 : Int32} {p2 : Int32} {Q : Int32 → Prop} (h : wp_X9_placed p0 p1 p2 Q) : CtI l yX9_placed cX9_placed 3 (some .int) ({ frames := 0, cells := 0, slots := 0, locals := 0 } : Room) D [(cI, .int), (cZ, .boolean)] [.int p0, .int p1, .int p2] w0 (fun r u => u = w0 ∧ Q r) := by
  refine CtI.of (by decide) rfl (Nat.le_of_ble_eq_true rfl) ?_
  intro p e s m args below meth c A Z E hret ls hl hw
  have E : gE p m c cX9_placed 3 s args RX9 D [(cI, .int), (cZ, .boolean)] A := E
  have hx := E.1.1
  have hb := E.1.2.1
  have hl : lv_has ls 3 [(0, .int p0), (1, .int p1), (2, .int p2)] := hl
  unfold wp_X9_placed at h
  refine lv_iload_n hx hb dX9_placed_0 rfl (lv_at hl 0 rfl) ?_
  refine lv_iconst (v := 3) hx hb dX9_placed_1 (by decide) ?_
  refine lv_iconst (v := 2) hx hb dX9_placed_2 (by decide) ?_
  refine lv_iload_n hx hb dX9_placed_3 rfl (lv_at hl 1 rfl) ?_
  refine lv_imul hx hb dX9_placed_4 ?_
  refine lv_ishl hx hb dX9_placed_5 ?_
  refine lv_iconst (v := -1) hx hb dX9_placed_6 (by decide) ?_
  refine lv_ixor hx hb dX9_placed_7 ?_
  refine lv_iand hx hb dX9_placed_8 ?_
  refine lv_iload_n hx hb dX9_placed_9 rfl (lv_at hl 2 rfl) ?_
  refine lv_iconst (v := 3) hx hb dX9_placed_10 (by decide) ?_
  refine lv_iand hx hb dX9_placed_11 ?_
  refine lv_iconst (v := 2) hx hb dX9_placed_12 (by decide) ?_
  refine lv_iload_n hx hb dX9_placed_13 rfl (lv_at hl 1 rfl) ?_
  refine lv_imul hx hb dX9_placed_14 ?_
  refine lv_ishl hx hb dX9_placed_15 ?_
  refine lv_ior hx hb dX9_placed_16 ?_
  exact hret _ _ _ _ _ _ ⟨rfl, h⟩ hw dX9_placed_17
set_option maxRecDepth 100000 in
set_option maxHeartbeats 4000000 in
theorem c_X9_chipIn {l : Launch} {D : va_G} {cI cZ : ClassId} {w0 : va_W} {p0 : Int32} {p1 : Int32} {Q : Int32 → Prop} (h : wp_X9_chipIn p0 p1 Q) : CtI l yX9_chipIn cX9_chipIn 2 (some .int) ({ frames := 0, cells := 0, slots := 0, locals := 0 } : Room) D [(cI, .int), (cZ, .boolean)] [.int p0, .int p1] w0 (fun r u => u = w0 ∧ Q r) := by
  refine CtI.of (by decide) rfl (Nat.le_of_ble_eq_true rfl) ?_
  intro p e s m args below meth c A Z E hret ls hl hw
  have E : gE p m c cX9_chipIn 2 s args RX9 D [(cI, .int), (cZ, .boolean)] A := E
  have hx := E.1.1
  have hb := E.1.2.1
  have hl : lv_has ls 2 [(0, .int p0), (1, .int p1)] := hl
  unfold wp_X9_chipIn at h
  refine lv_iload_n hx hb dX9_chipIn_0 rfl (lv_at hl 0 rfl) ?_
  refine lv_iconst (v := 2) hx hb dX9_chipIn_1 (by decide) ?_
  refine lv_iload_n hx hb dX9_chipIn_2 rfl (lv_at hl 1 rfl) ?_
  refine lv_imul hx hb dX9_chipIn_3 ?_
  refine lv_iushr hx hb dX9_chipIn_4 rfl ?_
  refine lv_iconst (v := 3) hx hb dX9_chipIn_5 (by decide) ?_
  refine lv_iand hx hb dX9_chipIn_6 ?_
  exact hret _ _ _ _ _ _ ⟨rfl, h⟩ hw dX9_chipIn_7
set_option maxRecDepth 100000 in
set_option maxHeartbeats 4000000 in
theorem c_X9_valueIn {l : Launch} {D : va_G} {cI cZ : ClassId} {w0 : va_W} {p0 : Int32} {p1 : Int32} {p2 : Int32} {Q : Int32 → Prop} (h : wp_X9_valueIn p0 p1 p2 Q) : CtI l yX9_valueIn cX9_valueIn 3 (some .int) ({ frames := 1, cells := 0, slots := 0, locals := 20 } : Room) D [(cI, .int), (cZ, .boolean)] [.int p0, .int p1, .int p2] w0 (fun r u => u = w0 ∧ Q r) := by
  refine CtI.of (by decide) rfl (Nat.le_of_ble_eq_true rfl) ?_
  intro p e s m args below meth c A Z E hret ls hl hw
  have E : gE p m c cX9_valueIn 3 s args RX9 D [(cI, .int), (cZ, .boolean)] A := E
  have hx := E.1.1
  have hb := E.1.2.1
  have hl : lv_has ls 3 [(0, .int p0), (1, .int p1), (2, .int p2)] := hl
  unfold wp_X9_valueIn at h
  refine lv_iload_n hx hb dX9_valueIn_0 rfl (lv_at hl 1 rfl) ?_
  refine lv_iload_n hx hb dX9_valueIn_1 rfl (lv_at hl 2 rfl) ?_
  refine g_aI E hw (g_rS E hw (c_X9_bit h _) ym_X9_bit k_313 ⟨rfl, rfl⟩ ⟨Nat.le_of_ble_eq_true rfl, Nat.le_of_ble_eq_true rfl⟩ rfl hl.1 rfl (Nat.le_of_ble_eq_true rfl) ⟨Nat.zero_le _, Nat.zero_le _⟩ dX9_valueIn_2) (fun r1 u H locs hq hw => ?_)
  obtain ⟨hu, h⟩ := hq
  rw [hu] at hw
  refine lv_iand hx hb dX9_valueIn_5 ?_
  refine lv_if_eq (tgt := 11) hx hb dX9_valueIn_6 (by decide) (fun c2 => ?_) (fun c2 => ?_)
  · have h := h.1 c2
    refine lv_iload_n hx hb dX9_valueIn_11 rfl (lv_at hl 0 rfl) ?_
    refine lv_iload_n hx hb dX9_valueIn_12 rfl (lv_at hl 2 rfl) ?_
    refine g_aI E hw (g_rS E hw (c_X9_bit h _) ym_X9_bit k_313 ⟨rfl, rfl⟩ ⟨Nat.le_of_ble_eq_true rfl, Nat.le_of_ble_eq_true rfl⟩ rfl hl.1 rfl (Nat.le_of_ble_eq_true rfl) ⟨Nat.zero_le _, Nat.zero_le _⟩ dX9_valueIn_13) (fun r3 u H locs hq hw => ?_)
    obtain ⟨hu, h⟩ := hq
    rw [hu] at hw
    refine lv_iand hx hb dX9_valueIn_16 ?_
    refine lv_if_eq (tgt := 24) hx hb dX9_valueIn_17 (by decide) (fun c4 => ?_) (fun c4 => ?_)
    · have h := h.1 c4
      refine lv_iconst (v := 0) hx hb dX9_valueIn_24 (by decide) ?_
      exact hret _ _ _ _ _ _ ⟨rfl, h⟩ hw dX9_valueIn_25
    · have h := h.2 c4
      refine lv_iconst (v := 1) hx hb dX9_valueIn_20 (by decide) ?_
      refine lv_goto (tgt := 25) hx hb dX9_valueIn_21 (by decide) ?_
      exact hret _ _ _ _ _ _ ⟨rfl, h⟩ hw dX9_valueIn_25
  · have h := h.2 c2
    refine lv_iconst (v := 2) hx hb dX9_valueIn_9 (by decide) ?_
    exact hret _ _ _ _ _ _ ⟨rfl, h⟩ hw dX9_valueIn_10
set_option maxRecDepth 100000 in
set_option maxHeartbeats 4000000 in
theorem c_X1_outcome {l : Launch} {D : va_G} {cI cZ : ClassId} {w0 : va_W} {p0 : Int32} {p1 : Int32} {p2 : Int32} {Q : Int32 → Prop} (h : wp_X1_outcome p0 p1 p2 Q) : CtI l yX1_outcome cX1_outcome 4 (some .int) ({ frames := 0, cells := 0, slots := 0, locals := 0 } : Room) D [(cI, .int), (cZ, .boolean)] [.int p0, .int p1, .int p2] w0 (fun r u => u = w0 ∧ Q r) := by
  refine CtI.of (by decide) rfl (Nat.le_of_ble_eq_true rfl) ?_
  intro p e s m args below meth c A Z E hret ls hl hw
  have E : gE p m c cX1_outcome 4 s args RX1 D [(cI, .int), (cZ, .boolean)] A := E
  have hx := E.1.1
  have hb := E.1.2.1
  have hl : lv_has ls 4 [(0, .int p0), (1, .int p1), (2, .int p2)] := hl
  have J69 : ∀  (H : Heap) (locs : List Loc) (ls : Array Slot), wp_X1_outcome_b69 p0 p1 p2 Q   → gW D s A w0 H locs → lv_has ls 4 [] → W p l e ({ frames := 0, cells := 0, slots := 0, locals := 0 } : Room) s m args below meth c H locs 0 0 Z (F0 m 69 ls []) := by
    intro  H locs ls h hw hl
    unfold wp_X1_outcome_b69 at h
    refine lv_iconst (v := 0) hx hb dX1_outcome_69 (by decide) ?_
    refine lv_goto (tgt := 82) hx hb dX1_outcome_70 (by decide) ?_
    exact hret _ _ _ _ _ _ ⟨rfl, h⟩ hw dX1_outcome_82
  have J93 : ∀  (H : Heap) (locs : List Loc) (ls : Array Slot), wp_X1_outcome_b93 p0 p1 p2 Q   → gW D s A w0 H locs → lv_has ls 4 [] → W p l e ({ frames := 0, cells := 0, slots := 0, locals := 0 } : Room) s m args below meth c H locs 0 0 Z (F0 m 93 ls []) := by
    intro  H locs ls h hw hl
    unfold wp_X1_outcome_b93 at h
    refine lv_iconst (v := 1) hx hb dX1_outcome_93 (by decide) ?_
    refine lv_goto (tgt := 106) hx hb dX1_outcome_94 (by decide) ?_
    exact hret _ _ _ _ _ _ ⟨rfl, h⟩ hw dX1_outcome_106
  have J15 : ∀ (s0 : Int32) (H : Heap) (locs : List Loc) (ls : Array Slot), wp_X1_outcome_b15 p0 p1 p2 Q  s0 → gW D s A w0 H locs → lv_has ls 4 [(0, .int p0), (1, .int p1), (2, .int p2)] → W p l e ({ frames := 0, cells := 0, slots := 0, locals := 0 } : Room) s m args below meth c H locs 0 0 Z (F0 m 15 ls [.int s0]) := by
    intro s0 H locs ls h hw hl
    unfold wp_X1_outcome_b15 at h
    refine lv_istore_n (lv' := [(3, .int s0), (0, .int p0), (1, .int p1), (2, .int p2)]) hx hb dX1_outcome_15 rfl hl (by decide) rfl (fun ls hl => ?_)
    refine lv_iload_n hx hb dX1_outcome_16 rfl (lv_at hl 1 rfl) ?_
    by_cases c1 : p0 = 1
    · have h := h.1 c1
      refine lv_tableIn (tgt := 48) (off := 31) hx hb dX1_outcome_17 (by rw [c1]; decide) (by rw [c1]; decide) (by rw [c1]; rfl) (by decide) ?_
      refine lv_iload_n hx hb dX1_outcome_48 rfl (lv_at hl 2 rfl) ?_
      refine lv_iconst (v := 2) hx hb dX1_outcome_49 (by decide) ?_
      refine lv_icmp_ne (tgt := 57) hx hb dX1_outcome_50 (by decide) (fun c2 => ?_) (fun c2 => ?_)
      · have h := h.1 c2
        refine lv_iconst (v := 1) hx hb dX1_outcome_57 (by decide) ?_
        refine lv_iload_n hx hb dX1_outcome_58 rfl (lv_at hl 2 rfl) ?_
        refine lv_isub hx hb dX1_outcome_59 ?_
        exact hret _ _ _ _ _ _ ⟨rfl, h⟩ hw dX1_outcome_60
      · have h := h.2 c2
        refine lv_iconst (v := 2) hx hb dX1_outcome_53 (by decide) ?_
        refine lv_goto (tgt := 60) hx hb dX1_outcome_54 (by decide) ?_
        exact hret _ _ _ _ _ _ ⟨rfl, h⟩ hw dX1_outcome_60
    · have h := h.2 c1
      by_cases c3 : p0 = 2
      · have h := h.1 c3
        refine lv_tableIn (tgt := 61) (off := 44) hx hb dX1_outcome_17 (by rw [c3]; decide) (by rw [c3]; decide) (by rw [c3]; rfl) (by decide) ?_
        refine lv_iload_n hx hb dX1_outcome_61 rfl (lv_at hl 2 rfl) ?_
        refine lv_if_eq (tgt := 69) hx hb dX1_outcome_62 (by decide) (fun c4 => ?_) (fun c4 => ?_)
        · have h := h.1 c4
          exact J69  _ _ _ h hw (lv_sub hl [] rfl)
        · have h := h.2 c4
          refine lv_iload_n hx hb dX1_outcome_65 rfl (lv_at hl 3 rfl) ?_
          refine lv_if_ne (tgt := 73) hx hb dX1_outcome_66 (by decide) (fun c5 => ?_) (fun c5 => ?_)
          · have h := h.1 c5
            refine lv_iload_n hx hb dX1_outcome_73 rfl (lv_at hl 0 rfl) ?_
            refine lv_if_eq (tgt := 81) hx hb dX1_outcome_74 (by decide) (fun c6 => ?_) (fun c6 => ?_)
            · have h := h.1 c6
              refine lv_iconst (v := 1) hx hb dX1_outcome_81 (by decide) ?_
              exact hret _ _ _ _ _ _ ⟨rfl, h⟩ hw dX1_outcome_82
            · have h := h.2 c6
              refine lv_iconst (v := 2) hx hb dX1_outcome_77 (by decide) ?_
              refine lv_goto (tgt := 82) hx hb dX1_outcome_78 (by decide) ?_
              exact hret _ _ _ _ _ _ ⟨rfl, h⟩ hw dX1_outcome_82
          · have h := h.2 c5
            exact J69  _ _ _ h hw (lv_sub hl [] rfl)
      · have h := h.2 c3
        by_cases c7 : p0 = 3
        · have h := h.1 c7
          refine lv_tableIn (tgt := 83) (off := 66) hx hb dX1_outcome_17 (by rw [c7]; decide) (by rw [c7]; decide) (by rw [c7]; rfl) (by decide) ?_
          refine lv_iload_n hx hb dX1_outcome_83 rfl (lv_at hl 2 rfl) ?_
          refine lv_iconst (v := 1) hx hb dX1_outcome_84 (by decide) ?_
          refine lv_icmp_eq (tgt := 93) hx hb dX1_outcome_85 (by decide) (fun c8 => ?_) (fun c8 => ?_)
          · have h := h.1 c8
            exact J93  _ _ _ h hw (lv_sub hl [] rfl)
          · have h := h.2 c8
            refine lv_iload_n hx hb dX1_outcome_88 rfl (lv_at hl 3 rfl) ?_
            refine lv_iconst (v := 1) hx hb dX1_outcome_89 (by decide) ?_
            refine lv_icmp_ne (tgt := 97) hx hb dX1_outcome_90 (by decide) (fun c9 => ?_) (fun c9 => ?_)
            · have h := h.1 c9
              refine lv_iload_n hx hb dX1_outcome_97 rfl (lv_at hl 0 rfl) ?_
              refine lv_if_eq (tgt := 105) hx hb dX1_outcome_98 (by decide) (fun c10 => ?_) (fun c10 => ?_)
              · have h := h.1 c10
                refine lv_iconst (v := 0) hx hb dX1_outcome_105 (by decide) ?_
                exact hret _ _ _ _ _ _ ⟨rfl, h⟩ hw dX1_outcome_106
              · have h := h.2 c10
                refine lv_iconst (v := 2) hx hb dX1_outcome_101 (by decide) ?_
                refine lv_goto (tgt := 106) hx hb dX1_outcome_102 (by decide) ?_
                exact hret _ _ _ _ _ _ ⟨rfl, h⟩ hw dX1_outcome_106
            · have h := h.2 c9
              exact J93  _ _ _ h hw (lv_sub hl [] rfl)
        · have h := h.2 c7
          by_cases c11 : p0 = 4
          · have h := h.1 c11
            refine lv_tableIn (tgt := 107) (off := 90) hx hb dX1_outcome_17 (by rw [c11]; decide) (by rw [c11]; decide) (by rw [c11]; rfl) (by decide) ?_
            refine lv_iload_n hx hb dX1_outcome_107 rfl (lv_at hl 0 rfl) ?_
            refine lv_if_eq (tgt := 115) hx hb dX1_outcome_108 (by decide) (fun c12 => ?_) (fun c12 => ?_)
            · have h := h.1 c12
              refine lv_iload_n hx hb dX1_outcome_115 rfl (lv_at hl 2 rfl) ?_
              refine lv_iload_n hx hb dX1_outcome_116 rfl (lv_at hl 3 rfl) ?_
              refine lv_ixor hx hb dX1_outcome_117 ?_
              exact hret _ _ _ _ _ _ ⟨rfl, h⟩ hw dX1_outcome_118
            · have h := h.2 c12
              refine lv_iconst (v := 2) hx hb dX1_outcome_111 (by decide) ?_
              refine lv_goto (tgt := 118) hx hb dX1_outcome_112 (by decide) ?_
              exact hret _ _ _ _ _ _ ⟨rfl, h⟩ hw dX1_outcome_118
          · have h := h.2 c11
            have nc1 := lv_neT c1 (a := 1) rfl
            have nc3 := lv_neT c3 (a := 2) rfl
            have nc7 := lv_neT c7 (a := 3) rfl
            have nc11 := lv_neT c11 (a := 4) rfl
            refine lv_tableOut (tgt := 119) hx hb dX1_outcome_17 (by omega) (by decide) ?_
            refine lv_iconst (v := 2) hx hb dX1_outcome_119 (by decide) ?_
            exact hret _ _ _ _ _ _ ⟨rfl, h⟩ hw dX1_outcome_120
  have J10 : ∀  (H : Heap) (locs : List Loc) (ls : Array Slot), wp_X1_outcome_b10 p0 p1 p2 Q   → gW D s A w0 H locs → lv_has ls 4 [(0, .int p0), (1, .int p1), (2, .int p2)] → W p l e ({ frames := 0, cells := 0, slots := 0, locals := 0 } : Room) s m args below meth c H locs 0 0 Z (F0 m 10 ls []) := by
    intro  H locs ls h hw hl
    unfold wp_X1_outcome_b10 at h
    refine lv_iconst (v := 1) hx hb dX1_outcome_10 (by decide) ?_
    refine lv_goto (tgt := 15) hx hb dX1_outcome_11 (by decide) ?_
    exact J15 (1 : Int32) _ _ _ h hw (lv_sub hl [0, 1, 2] rfl)
  unfold wp_X1_outcome at h
  refine lv_iload_n hx hb dX1_outcome_0 rfl (lv_at hl 1 rfl) ?_
  refine lv_iconst (v := 2) hx hb dX1_outcome_1 (by decide) ?_
  refine lv_icmp_eq (tgt := 10) hx hb dX1_outcome_2 (by decide) (fun c13 => ?_) (fun c13 => ?_)
  · have h := h.1 c13
    exact J10  _ _ _ h hw (lv_sub hl [0, 1, 2] rfl)
  · have h := h.2 c13
    refine lv_iload_n hx hb dX1_outcome_5 rfl (lv_at hl 2 rfl) ?_
    refine lv_iconst (v := 2) hx hb dX1_outcome_6 (by decide) ?_
    refine lv_icmp_ne (tgt := 14) hx hb dX1_outcome_7 (by decide) (fun c14 => ?_) (fun c14 => ?_)
    · have h := h.1 c14
      refine lv_iconst (v := 0) hx hb dX1_outcome_14 (by decide) ?_
      exact J15 (0 : Int32) _ _ _ h hw (lv_sub hl [0, 1, 2] rfl)
    · have h := h.2 c14
      exact J10  _ _ _ h hw (lv_sub hl [0, 1, 2] rfl)
set_option maxRecDepth 100000 in
set_option maxHeartbeats 4000000 in
theorem c_X9_isValue {l : Launch} {D : va_G} {cI cZ : ClassId} {w0 : va_W} {p0 : Int32} {Q : Int32 → Prop} (h : wp_X9_isValue p0 Q) : CtI l yX9_isValue cX9_isValue 1 (some .boolean) ({ frames := 0, cells := 0, slots := 0, locals := 0 } : Room) D [(cI, .int), (cZ, .boolean)] [.int p0] w0 (fun r u => u = w0 ∧ Q r) := by
  refine CtI.ofZ (by decide) rfl (Nat.le_of_ble_eq_true rfl) ?_
  intro p e s m args below meth c A Z E hret ls hl hw
  have E : gE p m c cX9_isValue 1 s args RX9 D [(cI, .int), (cZ, .boolean)] A := E
  have hx := E.1.1
  have hb := E.1.2.1
  have hl : lv_has ls 1 [(0, .int p0)] := hl
  have J13 : ∀  (H : Heap) (locs : List Loc) (ls : Array Slot), wp_X9_isValue_b13 p0 Q   → gW D s A w0 H locs → lv_has ls 1 [] → W p l e ({ frames := 0, cells := 0, slots := 0, locals := 0 } : Room) s m args below meth c H locs 0 0 Z (F0 m 13 ls []) := by
    intro  H locs ls h hw hl
    unfold wp_X9_isValue_b13 at h
    refine lv_iconst (v := 0) hx hb dX9_isValue_13 (by decide) ?_
    exact hret _ _ _ _ _ _ (Or.inl rfl) ⟨rfl, h⟩ hw dX9_isValue_14
  unfold wp_X9_isValue at h
  refine lv_iload_n hx hb dX9_isValue_0 rfl (lv_at hl 0 rfl) ?_
  refine lv_if_lt (tgt := 13) hx hb dX9_isValue_1 (by decide) (fun c1 => ?_) (fun c1 => ?_)
  · have h := h.1 c1
    exact J13  _ _ _ h hw (lv_sub hl [] rfl)
  · have h := h.2 c1
    refine lv_iload_n hx hb dX9_isValue_4 rfl (lv_at hl 0 rfl) ?_
    refine lv_iconst (v := 2) hx hb dX9_isValue_5 (by decide) ?_
    refine lv_icmp_gt (tgt := 13) hx hb dX9_isValue_6 (by decide) (fun c2 => ?_) (fun c2 => ?_)
    · have h := h.1 c2
      exact J13  _ _ _ h hw (lv_sub hl [] rfl)
    · have h := h.2 c2
      refine lv_iconst (v := 1) hx hb dX9_isValue_9 (by decide) ?_
      refine lv_goto (tgt := 14) hx hb dX9_isValue_10 (by decide) ?_
      exact hret _ _ _ _ _ _ (Or.inr rfl) ⟨rfl, h⟩ hw dX9_isValue_14
set_option maxRecDepth 100000 in
set_option maxHeartbeats 4000000 in
theorem c_X4_add {l : Launch} {D : va_G} {cI cZ : ClassId} {w0 : va_W} {q0 a n_a0 : Nat} {f_a0 : Nat → Int32} {p1 : Int32} {p2 : Int32} {Q : (Nat → Int32) → Prop} (he : w0[q0]? = some (a, .inl (cI, n_a0, .inl f_a0))) (h : wp_X4_add n_a0 f_a0 p1 p2 Q) : CtV l yX4_add cX4_add 3 none ({ frames := 1, cells := 0, slots := 0, locals := 22 } : Room) D [(cI, .int), (cZ, .boolean)] [.ref a, .int p1, .int p2] w0 (fun  u => ∃ w0_, u = (w0.set q0 (a, .inl (cI, n_a0, .inl w0_))) ∧ Q w0_) := by
  refine CtV.of (by decide) rfl (Nat.le_of_ble_eq_true rfl) ?_
  intro p e s m args below meth c A Z E hret ls hl hw
  have E : gE p m c cX4_add 3 s args RX4 D [(cI, .int), (cZ, .boolean)] A := E
  have hx := E.1.1
  have hb := E.1.2.1
  have hl : lv_has ls 3 [(0, .ref a), (1, .int p1), (2, .int p2)] := hl
  unfold wp_X4_add at h
  refine lv_aload_n hx hb dX4_add_0 rfl (lv_at hl 0 rfl) ?_
  refine lv_iload_n hx hb dX4_add_1 rfl (lv_at hl 1 rfl) ?_
  refine lv_aload_n hx hb dX4_add_2 rfl (lv_at hl 0 rfl) ?_
  refine lv_iload_n hx hb dX4_add_3 rfl (lv_at hl 1 rfl) ?_
  refine g_aI E hw (g_rSN E hw (c_X9_cell (q0 := q0) he h _) ym_X9_cell km_22 ⟨rfl, rfl⟩ ⟨Nat.le_of_ble_eq_true rfl, Nat.le_of_ble_eq_true rfl⟩ rfl hl.1 rfl (Nat.le_of_ble_eq_true rfl) ⟨Nat.zero_le _, Nat.zero_le _⟩ dX4_add_4) (fun r1 u H locs hq hw => ?_)
  obtain ⟨hu, h⟩ := hq
  rw [hu] at hw
  refine lv_iload_n hx hb dX4_add_7 rfl (lv_at hl 2 rfl) ?_
  refine g_aI E hw (g_rSN E hw (c_X9_bit h _) ym_X9_bit km_21 ⟨rfl, rfl⟩ ⟨Nat.le_of_ble_eq_true rfl, Nat.le_of_ble_eq_true rfl⟩ rfl hl.1 rfl (Nat.le_of_ble_eq_true rfl) ⟨Nat.zero_le _, Nat.zero_le _⟩ dX4_add_8) (fun r2 u H locs hq hw => ?_)
  obtain ⟨hu, h⟩ := hq
  rw [hu] at hw
  refine lv_ior hx hb dX4_add_11 ?_
  refine g_aV E hw (g_rSN E hw (c_X9_setCell (q0 := q0) he h _) ym_X9_setCell km_23 ⟨rfl, rfl⟩ ⟨Nat.le_of_ble_eq_true rfl, Nat.le_of_ble_eq_true rfl⟩ rfl hl.1 rfl (Nat.le_of_ble_eq_true rfl) ⟨Nat.zero_le _, Nat.zero_le _⟩ dX4_add_12) (fun u H locs hq hw => ?_)
  obtain ⟨y4, hu, h⟩ := hq
  rw [hu] at hw
  exact hret _ _ _ _ _ ⟨_, rfl, h⟩ hw dX4_add_15
set_option maxRecDepth 100000 in
set_option maxHeartbeats 4000000 in
theorem c_J6_bitCount_0f7a4 {l : Launch} {D : va_G} {cI cZ : ClassId} {w0 : va_W} {p0 : Int32} {Q : Int32 → Prop} (h : wp_J6_bitCount_0f7a4 p0 Q) : CtI l yJ6_bitCount_0f7a4 cJ6_bitCount_0f7a4 1 (some .int) ({ frames := 0, cells := 0, slots := 0, locals := 0 } : Room) D [(cI, .int), (cZ, .boolean)] [.int p0] w0 (fun r u => u = w0 ∧ Q r) := by
  refine CtI.of (by decide) rfl (Nat.le_of_ble_eq_true rfl) ?_
  intro p e s m args below meth c A Z E hret ls hl hw
  have E : gE p m c cJ6_bitCount_0f7a4 1 s args RJ6 D [(cI, .int), (cZ, .boolean)] A := E
  have hx := E.1.1
  have hb := E.1.2.1
  have hl : lv_has ls 1 [(0, .int p0)] := hl
  unfold wp_J6_bitCount_0f7a4 at h
  refine lv_iload_n hx hb dJ6_bitCount_0f7a4_0 rfl (lv_at hl 0 rfl) ?_
  refine lv_iload_n hx hb dJ6_bitCount_0f7a4_1 rfl (lv_at hl 0 rfl) ?_
  refine lv_iconst (v := 1) hx hb dJ6_bitCount_0f7a4_2 (by decide) ?_
  refine lv_iushr hx hb dJ6_bitCount_0f7a4_3 rfl ?_
  refine lv_ldcw (v := 1431655765) hx hb E.1.2.2.2.1 (E.1.2.2.2.2 _ k_447) dJ6_bitCount_0f7a4_4 ?_
  refine lv_iand hx hb dJ6_bitCount_0f7a4_7 ?_
  refine lv_isub hx hb dJ6_bitCount_0f7a4_8 ?_
  refine lv_topi (fun v1 ev1 => ?_)
  have h := h v1 ev1
  refine lv_istore_n (lv' := [(0, .int v1)]) hx hb dJ6_bitCount_0f7a4_9 rfl hl (by decide) rfl (fun ls hl => ?_)
  refine lv_iload_n hx hb dJ6_bitCount_0f7a4_10 rfl (lv_at hl 0 rfl) ?_
  refine lv_ldcw (v := 858993459) hx hb E.1.2.2.2.1 (E.1.2.2.2.2 _ k_448) dJ6_bitCount_0f7a4_11 ?_
  refine lv_iand hx hb dJ6_bitCount_0f7a4_14 ?_
  refine lv_iload_n hx hb dJ6_bitCount_0f7a4_15 rfl (lv_at hl 0 rfl) ?_
  refine lv_iconst (v := 2) hx hb dJ6_bitCount_0f7a4_16 (by decide) ?_
  refine lv_iushr hx hb dJ6_bitCount_0f7a4_17 rfl ?_
  refine lv_ldcw (v := 858993459) hx hb E.1.2.2.2.1 (E.1.2.2.2.2 _ k_448) dJ6_bitCount_0f7a4_18 ?_
  refine lv_iand hx hb dJ6_bitCount_0f7a4_21 ?_
  refine lv_iadd hx hb dJ6_bitCount_0f7a4_22 ?_
  refine lv_topi (fun v2 ev2 => ?_)
  have h := h v2 ev2
  refine lv_istore_n (lv' := [(0, .int v2)]) hx hb dJ6_bitCount_0f7a4_23 rfl hl (by decide) rfl (fun ls hl => ?_)
  refine lv_iload_n hx hb dJ6_bitCount_0f7a4_24 rfl (lv_at hl 0 rfl) ?_
  refine lv_iload_n hx hb dJ6_bitCount_0f7a4_25 rfl (lv_at hl 0 rfl) ?_
  refine lv_iconst (v := 4) hx hb dJ6_bitCount_0f7a4_26 (by decide) ?_
  refine lv_iushr hx hb dJ6_bitCount_0f7a4_27 rfl ?_
  refine lv_iadd hx hb dJ6_bitCount_0f7a4_28 ?_
  refine lv_ldcw (v := 252645135) hx hb E.1.2.2.2.1 (E.1.2.2.2.2 _ k_449) dJ6_bitCount_0f7a4_29 ?_
  refine lv_iand hx hb dJ6_bitCount_0f7a4_32 ?_
  refine lv_topi (fun v3 ev3 => ?_)
  have h := h v3 ev3
  refine lv_istore_n (lv' := [(0, .int v3)]) hx hb dJ6_bitCount_0f7a4_33 rfl hl (by decide) rfl (fun ls hl => ?_)
  refine lv_iload_n hx hb dJ6_bitCount_0f7a4_34 rfl (lv_at hl 0 rfl) ?_
  refine lv_iload_n hx hb dJ6_bitCount_0f7a4_35 rfl (lv_at hl 0 rfl) ?_
  refine lv_bipush (v := 8) hx hb dJ6_bitCount_0f7a4_36 (by decide) ?_
  refine lv_iushr hx hb dJ6_bitCount_0f7a4_38 rfl ?_
  refine lv_iadd hx hb dJ6_bitCount_0f7a4_39 ?_
  refine lv_topi (fun v4 ev4 => ?_)
  have h := h v4 ev4
  refine lv_istore_n (lv' := [(0, .int v4)]) hx hb dJ6_bitCount_0f7a4_40 rfl hl (by decide) rfl (fun ls hl => ?_)
  refine lv_iload_n hx hb dJ6_bitCount_0f7a4_41 rfl (lv_at hl 0 rfl) ?_
  refine lv_iload_n hx hb dJ6_bitCount_0f7a4_42 rfl (lv_at hl 0 rfl) ?_
  refine lv_bipush (v := 16) hx hb dJ6_bitCount_0f7a4_43 (by decide) ?_
  refine lv_iushr hx hb dJ6_bitCount_0f7a4_45 rfl ?_
  refine lv_iadd hx hb dJ6_bitCount_0f7a4_46 ?_
  refine lv_topi (fun v5 ev5 => ?_)
  have h := h v5 ev5
  refine lv_istore_n (lv' := [(0, .int v5)]) hx hb dJ6_bitCount_0f7a4_47 rfl hl (by decide) rfl (fun ls hl => ?_)
  refine lv_iload_n hx hb dJ6_bitCount_0f7a4_48 rfl (lv_at hl 0 rfl) ?_
  refine lv_bipush (v := 63) hx hb dJ6_bitCount_0f7a4_49 (by decide) ?_
  refine lv_iand hx hb dJ6_bitCount_0f7a4_51 ?_
  exact hret _ _ _ _ _ _ ⟨rfl, h⟩ hw dJ6_bitCount_0f7a4_52
set_option maxRecDepth 100000 in
set_option maxHeartbeats 4000000 in
theorem c_X9_lowestOf {l : Launch} {D : va_G} {cI cZ : ClassId} {w0 : va_W} {p0 : Int32} {p1 : Int32} {Q : Int32 → Prop} (h : wp_X9_lowestOf p0 p1 Q) : CtI l yX9_lowestOf cX9_lowestOf 4 (some .int) ({ frames := 0, cells := 0, slots := 0, locals := 0 } : Room) D [(cI, .int), (cZ, .boolean)] [.int p0, .int p1] w0 (fun r u => u = w0 ∧ Q r) := by
  refine CtI.of (by decide) rfl (Nat.le_of_ble_eq_true rfl) ?_
  intro p e s m args below meth c A Z E hret ls hl hw
  have E : gE p m c cX9_lowestOf 4 s args RX9 D [(cI, .int), (cZ, .boolean)] A := E
  have hx := E.1.1
  have hb := E.1.2.1
  have hl : lv_has ls 4 [(0, .int p0), (1, .int p1)] := hl
  have J25 : ∀ (x2 : Int32) (H : Heap) (locs : List Loc) (ls : Array Slot), wp_X9_lowestOf_b25 p0 p1 Q  x2 → gW D s A w0 H locs → lv_has ls 4 [(0, .int p0), (2, .int x2)] → W p l e ({ frames := 0, cells := 0, slots := 0, locals := 0 } : Room) s m args below meth c H locs 0 0 Z (F0 m 25 ls []) := by
    intro x2 H locs ls h hw hl
    unfold wp_X9_lowestOf_b25 at h
    refine lv_iload_n hx hb dX9_lowestOf_25 rfl (lv_at hl 0 rfl) ?_
    refine lv_iload_n hx hb dX9_lowestOf_26 rfl (lv_at hl 1 rfl) ?_
    refine lv_iconst (v := -1) hx hb dX9_lowestOf_27 (by decide) ?_
    refine lv_ixor hx hb dX9_lowestOf_28 ?_
    refine lv_iand hx hb dX9_lowestOf_29 ?_
    exact hret _ _ _ _ _ _ ⟨rfl, h⟩ hw dX9_lowestOf_30
  have L4 : ∀ (n : Nat) (x2 : Int32) (x3 : Int32) (H : Heap) (locs : List Loc) (ls : Array Slot), wp_X9_lowestOf_h4 p0 p1 Q  n x2 x3 → gW D s A w0 H locs → lv_has ls 4 [(0, .int p0), (1, .int p1), (2, .int x2), (3, .int x3)] → W p l e ({ frames := 0, cells := 0, slots := 0, locals := 0 } : Room) s m args below meth c H locs 0 0 Z (F0 m 4 ls []) := by
    intro n
    induction n with
    | zero => intro x2 x3 H locs ls h; exact False.elim h
    | succ n4 ih4 =>
      intro x2 x3 H locs ls h hw hl
      have h : wp_X9_lowestOf_b4 p0 p1 Q (wp_X9_lowestOf_h4 p0 p1 Q  n4) x2 x3 := h
      unfold wp_X9_lowestOf_b4 at h
      refine lv_iload_n hx hb dX9_lowestOf_4 rfl (lv_at hl 3 rfl) ?_
      refine lv_iload_n hx hb dX9_lowestOf_5 rfl (lv_at hl 1 rfl) ?_
      refine lv_icmp_ge (tgt := 25) hx hb dX9_lowestOf_6 (by decide) (fun c1 => ?_) (fun c1 => ?_)
      · have h := h.1 c1
        exact J25 x2 _ _ _ h hw (lv_sub hl [0, 2] rfl)
      · have h := h.2 c1
        refine lv_iload_n hx hb dX9_lowestOf_9 rfl (lv_at hl 2 rfl) ?_
        refine lv_if_eq (tgt := 25) hx hb dX9_lowestOf_10 (by decide) (fun c2 => ?_) (fun c2 => ?_)
        · have h := h.1 c2
          exact J25 x2 _ _ _ h hw (lv_sub hl [0, 2] rfl)
        · have h := h.2 c2
          refine lv_iload_n hx hb dX9_lowestOf_13 rfl (lv_at hl 2 rfl) ?_
          refine lv_iload_n hx hb dX9_lowestOf_14 rfl (lv_at hl 2 rfl) ?_
          refine lv_iconst (v := 1) hx hb dX9_lowestOf_15 (by decide) ?_
          refine lv_isub hx hb dX9_lowestOf_16 ?_
          refine lv_iand hx hb dX9_lowestOf_17 ?_
          refine lv_topi (fun v3 ev3 => ?_)
          have h := h v3 ev3
          refine lv_istore_n (lv' := [(2, .int v3), (0, .int p0), (1, .int p1), (3, .int x3)]) hx hb dX9_lowestOf_18 rfl hl (by decide) rfl (fun ls hl => ?_)
          obtain ⟨v4, ev4⟩ : ∃ y : Int32, y = x3 + 1 := ⟨_, rfl⟩
          have h := h v4 ev4
          refine lv_iinc (v := v4) (lv' := [(3, .int v4), (2, .int v3), (0, .int p0), (1, .int p1)]) hx hb dX9_lowestOf_19 hl (k := 3) rfl (by rw [ev4]; rfl) (by decide) rfl (fun ls hl => ?_)
          refine lv_goto (tgt := 4) hx hb dX9_lowestOf_22 (by decide) ?_
          exact ih4 v3 v4 _ _ _ h hw (lv_sub hl [2, 3, 1, 0] rfl)
  unfold wp_X9_lowestOf at h
  refine lv_iload_n hx hb dX9_lowestOf_0 rfl (lv_at hl 0 rfl) ?_
  refine lv_istore_n (lv' := [(2, .int p0), (0, .int p0), (1, .int p1)]) hx hb dX9_lowestOf_1 rfl hl (by decide) rfl (fun ls hl => ?_)
  refine lv_iconst (v := 0) hx hb dX9_lowestOf_2 (by decide) ?_
  refine lv_istore_n (lv' := [(3, .int (0 : Int32)), (2, .int p0), (0, .int p0), (1, .int p1)]) hx hb dX9_lowestOf_3 rfl hl (by decide) rfl (fun ls hl => ?_)
  obtain ⟨n, h⟩ := h
  exact L4 n p0 (0 : Int32) _ _ _ h hw (lv_sub hl [2, 3, 1, 0] rfl)
set_option maxRecDepth 100000 in
set_option maxHeartbeats 4000000 in
theorem c_X9_greatestOf {l : Launch} {D : va_G} {cI cZ : ClassId} {w0 : va_W} {p0 : Int32} {Q : Int32 → Prop} (h : wp_X9_greatestOf p0 Q) : CtI l yX9_greatestOf cX9_greatestOf 2 (some .int) ({ frames := 1, cells := 0, slots := 0, locals := 20 } : Room) D [(cI, .int), (cZ, .boolean)] [.int p0] w0 (fun r u => u = w0 ∧ Q r) := by
  refine CtI.of (by decide) rfl (Nat.le_of_ble_eq_true rfl) ?_
  intro p e s m args below meth c A Z E hret ls hl hw
  have E : gE p m c cX9_greatestOf 2 s args RX9 D [(cI, .int), (cZ, .boolean)] A := E
  have hx := E.1.1
  have hb := E.1.2.1
  have hl : lv_has ls 2 [(0, .int p0)] := hl
  have L3 : ∀ (n : Nat) (x1 : Int32) (H : Heap) (locs : List Loc) (ls : Array Slot), wp_X9_greatestOf_h3 p0 Q  n x1 → gW D s A w0 H locs → lv_has ls 2 [(0, .int p0), (1, .int x1)] → W p l e ({ frames := 1, cells := 0, slots := 0, locals := 20 } : Room) s m args below meth c H locs 0 0 Z (F0 m 3 ls []) := by
    intro n
    induction n with
    | zero => intro x1 H locs ls h; exact False.elim h
    | succ n3 ih3 =>
      intro x1 H locs ls h hw hl
      have h : wp_X9_greatestOf_b3 p0 Q (wp_X9_greatestOf_h3 p0 Q  n3) x1 := h
      unfold wp_X9_greatestOf_b3 at h
      refine lv_iload_n hx hb dX9_greatestOf_3 rfl (lv_at hl 1 rfl) ?_
      refine lv_if_lt (tgt := 24) hx hb dX9_greatestOf_4 (by decide) (fun c1 => ?_) (fun c1 => ?_)
      · have h := h.1 c1
        refine lv_bipush (v := -9) hx hb dX9_greatestOf_24 (by decide) ?_
        exact hret _ _ _ _ _ _ ⟨rfl, h⟩ hw dX9_greatestOf_26
      · have h := h.2 c1
        refine lv_iload_n hx hb dX9_greatestOf_7 rfl (lv_at hl 0 rfl) ?_
        refine lv_iload_n hx hb dX9_greatestOf_8 rfl (lv_at hl 1 rfl) ?_
        refine g_aI E hw (g_rS E hw (c_X9_bit h _) ym_X9_bit k_313 ⟨rfl, rfl⟩ ⟨Nat.le_of_ble_eq_true rfl, Nat.le_of_ble_eq_true rfl⟩ rfl hl.1 rfl (Nat.le_of_ble_eq_true rfl) ⟨Nat.zero_le _, Nat.zero_le _⟩ dX9_greatestOf_9) (fun r2 u H locs hq hw => ?_)
        obtain ⟨hu, h⟩ := hq
        rw [hu] at hw
        refine lv_iand hx hb dX9_greatestOf_12 ?_
        refine lv_if_eq (tgt := 18) hx hb dX9_greatestOf_13 (by decide) (fun c3 => ?_) (fun c3 => ?_)
        · have h := h.1 c3
          obtain ⟨v4, ev4⟩ : ∃ y : Int32, y = x1 + (-1) := ⟨_, rfl⟩
          have h := h v4 ev4
          refine lv_iinc (v := v4) (lv' := [(1, .int v4), (0, .int p0)]) hx hb dX9_greatestOf_18 hl (k := 1) rfl (by rw [ev4]; rfl) (by decide) rfl (fun ls hl => ?_)
          refine lv_goto (tgt := 3) hx hb dX9_greatestOf_21 (by decide) ?_
          exact ih3 v4 _ _ _ h hw (lv_sub hl [1, 0] rfl)
        · have h := h.2 c3
          refine lv_iload_n hx hb dX9_greatestOf_16 rfl (lv_at hl 1 rfl) ?_
          exact hret _ _ _ _ _ _ ⟨rfl, h⟩ hw dX9_greatestOf_17
  unfold wp_X9_greatestOf at h
  refine lv_bipush (v := 9) hx hb dX9_greatestOf_0 (by decide) ?_
  refine lv_istore_n (lv' := [(1, .int (9 : Int32)), (0, .int p0)]) hx hb dX9_greatestOf_2 rfl hl (by decide) rfl (fun ls hl => ?_)
  obtain ⟨n, h⟩ := h
  exact L3 n (9 : Int32) _ _ _ h hw (lv_sub hl [1, 0] rfl)
set_option maxRecDepth 100000 in
set_option maxHeartbeats 4000000 in
theorem c_X9_power {l : Launch} {D : va_G} {cI cZ : ClassId} {w0 : va_W} {p0 : Int32} {p1 : Int32} {Q : Int64 → Prop} (h : wp_X9_power p0 p1 Q) : CtL l yX9_power cX9_power 5 (some .long) ({ frames := 0, cells := 0, slots := 0, locals := 0 } : Room) D [(cI, .int), (cZ, .boolean)] [.int p0, .int p1] w0 (fun r u => u = w0 ∧ Q r) := by
  refine CtL.of (by decide) rfl (Nat.le_of_ble_eq_true rfl) ?_
  intro p e s m args below meth c A Z E hret ls hl hw
  have E : gE p m c cX9_power 5 s args RX9 D [(cI, .int), (cZ, .boolean)] A := E
  have hx := E.1.1
  have hb := E.1.2.1
  have hl : lv_has ls 5 [(0, .int p0), (1, .int p1)] := hl
  have L5 : ∀ (n : Nat) (x2 : Int64) (x4 : Int32) (H : Heap) (locs : List Loc) (ls : Array Slot), wp_X9_power_h5 p0 p1 Q  n x2 x4 → gW D s A w0 H locs → lv_has ls 5 [(0, .int p0), (1, .int p1), (2, .long x2), (4, .int x4)] → W p l e ({ frames := 0, cells := 0, slots := 0, locals := 0 } : Room) s m args below meth c H locs 0 0 Z (F0 m 5 ls []) := by
    intro n
    induction n with
    | zero => intro x2 x4 H locs ls h; exact False.elim h
    | succ n5 ih5 =>
      intro x2 x4 H locs ls h hw hl
      have h : wp_X9_power_b5 p0 p1 Q (wp_X9_power_h5 p0 p1 Q  n5) x2 x4 := h
      unfold wp_X9_power_b5 at h
      refine lv_iload hx hb dX9_power_5 (lv_at hl 3 rfl) ?_
      refine lv_iload_n hx hb dX9_power_7 rfl (lv_at hl 1 rfl) ?_
      refine lv_icmp_ge (tgt := 22) hx hb dX9_power_8 (by decide) (fun c1 => ?_) (fun c1 => ?_)
      · have h := h.1 c1
        refine lv_lload_n hx hb dX9_power_22 rfl (lv_at hl 2 rfl) ?_
        exact hret _ _ _ _ _ _ ⟨rfl, h⟩ hw dX9_power_23
      · have h := h.2 c1
        refine lv_lload_n hx hb dX9_power_11 rfl (lv_at hl 2 rfl) ?_
        refine lv_iload_n hx hb dX9_power_12 rfl (lv_at hl 0 rfl) ?_
        refine lv_i2l hx hb dX9_power_13 rfl ?_
        refine lv_lmul hx hb dX9_power_14 ?_
        refine lv_topl (fun v2 ev2 => ?_)
        have h := h v2 ev2
        refine lv_lstore_n (lv' := [(2, .long v2), (0, .int p0), (1, .int p1), (4, .int x4)]) hx hb dX9_power_15 rfl hl (by decide) rfl (fun ls hl => ?_)
        obtain ⟨v3, ev3⟩ : ∃ y : Int32, y = x4 + 1 := ⟨_, rfl⟩
        have h := h v3 ev3
        refine lv_iinc (v := v3) (lv' := [(4, .int v3), (2, .long v2), (0, .int p0), (1, .int p1)]) hx hb dX9_power_16 hl (k := 3) rfl (by rw [ev3]; rfl) (by decide) rfl (fun ls hl => ?_)
        refine lv_goto (tgt := 5) hx hb dX9_power_19 (by decide) ?_
        exact ih5 v2 v3 _ _ _ h hw (lv_sub hl [2, 3, 1, 0] rfl)
  unfold wp_X9_power at h
  refine lv_lconst (v := 1) hx hb dX9_power_0 (by decide) ?_
  refine lv_lstore_n (lv' := [(2, .long (1 : Int64)), (0, .int p0), (1, .int p1)]) hx hb dX9_power_1 rfl hl (by decide) rfl (fun ls hl => ?_)
  refine lv_iconst (v := 0) hx hb dX9_power_2 (by decide) ?_
  refine lv_istore (lv' := [(4, .int (0 : Int32)), (2, .long (1 : Int64)), (0, .int p0), (1, .int p1)]) hx hb dX9_power_3 hl (by decide) rfl (fun ls hl => ?_)
  obtain ⟨n, h⟩ := h
  exact L5 n (1 : Int64) (0 : Int32) _ _ _ h hw (lv_sub hl [2, 3, 1, 0] rfl)
set_option maxRecDepth 100000 in
set_option maxHeartbeats 4000000 in
theorem c_X9_statementOf {l : Launch} {D : va_G} {cI cZ : ClassId} {w0 : va_W} {p0 : Int64} {p2 : Int32} {Q : Int32 → Prop} (h : wp_X9_statementOf p0 p2 Q) : CtI l yX9_statementOf cX9_statementOf 6 (some .int) ({ frames := 0, cells := 0, slots := 0, locals := 0 } : Room) D [(cI, .int), (cZ, .boolean)] [.long p0, .int p2] w0 (fun r u => u = w0 ∧ Q r) := by
  refine CtI.of (by decide) rfl (Nat.le_of_ble_eq_true rfl) ?_
  intro p e s m args below meth c A Z E hret ls hl hw
  have E : gE p m c cX9_statementOf 6 s args RX9 D [(cI, .int), (cZ, .boolean)] A := E
  have hx := E.1.1
  have hb := E.1.2.1
  have hl : lv_has ls 6 [(0, .long p0), (2, .int p2)] := hl
  have L5 : ∀ (n : Nat) (x3 : Int64) (x5 : Int32) (H : Heap) (locs : List Loc) (ls : Array Slot), wp_X9_statementOf_h5 p0 p2 Q  n x3 x5 → gW D s A w0 H locs → lv_has ls 6 [(2, .int p2), (3, .long x3), (5, .int x5)] → W p l e ({ frames := 0, cells := 0, slots := 0, locals := 0 } : Room) s m args below meth c H locs 0 0 Z (F0 m 5 ls []) := by
    intro n
    induction n with
    | zero => intro x3 x5 H locs ls h; exact False.elim h
    | succ n5 ih5 =>
      intro x3 x5 H locs ls h hw hl
      have h : wp_X9_statementOf_b5 p0 p2 Q (wp_X9_statementOf_h5 p0 p2 Q  n5) x3 x5 := h
      unfold wp_X9_statementOf_b5 at h
      refine lv_iload hx hb dX9_statementOf_5 (lv_at hl 2 rfl) ?_
      refine lv_iload_n hx hb dX9_statementOf_7 rfl (lv_at hl 0 rfl) ?_
      refine lv_icmp_ge (tgt := 23) hx hb dX9_statementOf_8 (by decide) (fun c1 => ?_) (fun c1 => ?_)
      · have h := h.1 c1
        refine lv_lload_n hx hb dX9_statementOf_23 rfl (lv_at hl 1 rfl) ?_
        refine lv_ldc2 (v := 1000) hx hb E.1.2.2.2.1 (E.1.2.2.2.2 _ k_482) dX9_statementOf_24 ?_
        refine lv_lrem hx hb dX9_statementOf_27 (by decide) ?_
        refine lv_l2i hx hb dX9_statementOf_28 rfl ?_
        exact hret _ _ _ _ _ _ ⟨rfl, h⟩ hw dX9_statementOf_29
      · have h := h.2 c1
        refine lv_lload_n hx hb dX9_statementOf_11 rfl (lv_at hl 1 rfl) ?_
        refine lv_ldc2 (v := 1000) hx hb E.1.2.2.2.1 (E.1.2.2.2.2 _ k_482) dX9_statementOf_12 ?_
        refine lv_ldiv hx hb dX9_statementOf_15 (by decide) ?_
        refine lv_topl (fun v2 ev2 => ?_)
        have h := h v2 ev2
        refine lv_lstore_n (lv' := [(3, .long v2), (2, .int p2), (5, .int x5)]) hx hb dX9_statementOf_16 rfl hl (by decide) rfl (fun ls hl => ?_)
        obtain ⟨v3, ev3⟩ : ∃ y : Int32, y = x5 + 1 := ⟨_, rfl⟩
        have h := h v3 ev3
        refine lv_iinc (v := v3) (lv' := [(5, .int v3), (3, .long v2), (2, .int p2)]) hx hb dX9_statementOf_17 hl (k := 2) rfl (by rw [ev3]; rfl) (by decide) rfl (fun ls hl => ?_)
        refine lv_goto (tgt := 5) hx hb dX9_statementOf_20 (by decide) ?_
        exact ih5 v2 v3 _ _ _ h hw (lv_sub hl [2, 1, 0] rfl)
  unfold wp_X9_statementOf at h
  refine lv_lload_n hx hb dX9_statementOf_0 rfl (lv_at hl 0 rfl) ?_
  refine lv_lstore_n (lv' := [(3, .long p0), (0, .long p0), (2, .int p2)]) hx hb dX9_statementOf_1 rfl hl (by decide) rfl (fun ls hl => ?_)
  refine lv_iconst (v := 0) hx hb dX9_statementOf_2 (by decide) ?_
  refine lv_istore (lv' := [(5, .int (0 : Int32)), (3, .long p0), (0, .long p0), (2, .int p2)]) hx hb dX9_statementOf_3 hl (by decide) rfl (fun ls hl => ?_)
  obtain ⟨n, h⟩ := h
  exact L5 n p0 (0 : Int32) _ _ _ h hw (lv_sub hl [3, 1, 0] rfl)
set_option maxRecDepth 100000 in
set_option maxHeartbeats 4000000 in
theorem c_X9_commonDivisor {l : Launch} {D : va_G} {cI cZ : ClassId} {w0 : va_W} {p0 : Int32} {p1 : Int32} {Q : Int32 → Prop} (h : wp_X9_commonDivisor p0 p1 Q) : CtI l yX9_commonDivisor cX9_commonDivisor 6 (some .int) ({ frames := 0, cells := 0, slots := 0, locals := 0 } : Room) D [(cI, .int), (cZ, .boolean)] [.int p0, .int p1] w0 (fun r u => u = w0 ∧ Q r) := by
  refine CtI.of (by decide) rfl (Nat.le_of_ble_eq_true rfl) ?_
  intro p e s m args below meth c A Z E hret ls hl hw
  have E : gE p m c cX9_commonDivisor 6 s args RX9 D [(cI, .int), (cZ, .boolean)] A := E
  have hx := E.1.1
  have hb := E.1.2.1
  have hl : lv_has ls 6 [(0, .int p0), (1, .int p1)] := hl
  have L7 : ∀ (n : Nat) (x2 : Int32) (x3 : Int32) (x4 : Int32) (H : Heap) (locs : List Loc) (ls : Array Slot), wp_X9_commonDivisor_h7 p0 p1 Q  n x2 x3 x4 → gW D s A w0 H locs → lv_has ls 6 [(2, .int x2), (3, .int x3), (4, .int x4)] → W p l e ({ frames := 0, cells := 0, slots := 0, locals := 0 } : Room) s m args below meth c H locs 0 0 Z (F0 m 7 ls []) := by
    intro n
    induction n with
    | zero => intro x2 x3 x4 H locs ls h; exact False.elim h
    | succ n7 ih7 =>
      intro x2 x3 x4 H locs ls h hw hl
      have h : wp_X9_commonDivisor_b7 p0 p1 Q (wp_X9_commonDivisor_h7 p0 p1 Q  n7) x2 x3 x4 := h
      unfold wp_X9_commonDivisor_b7 at h
      refine lv_iload hx hb dX9_commonDivisor_7 (lv_at hl 2 rfl) ?_
      refine lv_bipush (v := 64) hx hb dX9_commonDivisor_9 (by decide) ?_
      refine lv_icmp_ge (tgt := 34) hx hb dX9_commonDivisor_11 (by decide) (fun c1 => ?_) (fun c1 => ?_)
      · have h := h.1 c1
        refine lv_iload_n hx hb dX9_commonDivisor_34 rfl (lv_at hl 0 rfl) ?_
        exact hret _ _ _ _ _ _ ⟨rfl, h⟩ hw dX9_commonDivisor_35
      · have h := h.2 c1
        refine lv_iload_n hx hb dX9_commonDivisor_14 rfl (lv_at hl 1 rfl) ?_
        refine lv_if_eq (tgt := 34) hx hb dX9_commonDivisor_15 (by decide) (fun c2 => ?_) (fun c2 => ?_)
        · have h := h.1 c2
          refine lv_iload_n hx hb dX9_commonDivisor_34 rfl (lv_at hl 0 rfl) ?_
          exact hret _ _ _ _ _ _ ⟨rfl, h⟩ hw dX9_commonDivisor_35
        · have h := h.2 c2
          refine lv_iload_n hx hb dX9_commonDivisor_18 rfl (lv_at hl 0 rfl) ?_
          refine lv_iload_n hx hb dX9_commonDivisor_19 rfl (lv_at hl 1 rfl) ?_
          refine lv_irem hx hb dX9_commonDivisor_20 h.1 ?_
          have h := h.2
          refine lv_topi (fun v3 ev3 => ?_)
          have h := h v3 ev3
          refine lv_istore (lv' := [(5, .int v3), (2, .int x2), (3, .int x3), (4, .int x4)]) hx hb dX9_commonDivisor_21 hl (by decide) rfl (fun ls hl => ?_)
          refine lv_iload_n hx hb dX9_commonDivisor_23 rfl (lv_at hl 2 rfl) ?_
          refine lv_istore_n (lv' := [(2, .int x3), (5, .int v3), (3, .int x3), (4, .int x4)]) hx hb dX9_commonDivisor_24 rfl hl (by decide) rfl (fun ls hl => ?_)
          refine lv_iload hx hb dX9_commonDivisor_25 (lv_at hl 1 rfl) ?_
          refine lv_istore_n (lv' := [(3, .int v3), (2, .int x3), (5, .int v3), (4, .int x4)]) hx hb dX9_commonDivisor_27 rfl hl (by decide) rfl (fun ls hl => ?_)
          obtain ⟨v4, ev4⟩ : ∃ y : Int32, y = x4 + 1 := ⟨_, rfl⟩
          have h := h v4 ev4
          refine lv_iinc (v := v4) (lv' := [(4, .int v4), (3, .int v3), (2, .int x3), (5, .int v3)]) hx hb dX9_commonDivisor_28 hl (k := 3) rfl (by rw [ev4]; rfl) (by decide) rfl (fun ls hl => ?_)
          refine lv_goto (tgt := 7) hx hb dX9_commonDivisor_31 (by decide) ?_
          exact ih7 x3 v3 v4 _ _ _ h hw (lv_sub hl [2, 1, 0] rfl)
  unfold wp_X9_commonDivisor at h
  refine lv_iload_n hx hb dX9_commonDivisor_0 rfl (lv_at hl 0 rfl) ?_
  refine lv_istore_n (lv' := [(2, .int p0), (0, .int p0), (1, .int p1)]) hx hb dX9_commonDivisor_1 rfl hl (by decide) rfl (fun ls hl => ?_)
  refine lv_iload_n hx hb dX9_commonDivisor_2 rfl (lv_at hl 2 rfl) ?_
  refine lv_istore_n (lv' := [(3, .int p1), (2, .int p0), (0, .int p0), (1, .int p1)]) hx hb dX9_commonDivisor_3 rfl hl (by decide) rfl (fun ls hl => ?_)
  refine lv_iconst (v := 0) hx hb dX9_commonDivisor_4 (by decide) ?_
  refine lv_istore (lv' := [(4, .int (0 : Int32)), (3, .int p1), (2, .int p0), (0, .int p0), (1, .int p1)]) hx hb dX9_commonDivisor_5 hl (by decide) rfl (fun ls hl => ?_)
  obtain ⟨n, h⟩ := h
  exact L7 n p0 p1 (0 : Int32) _ _ _ h hw (lv_sub hl [2, 1, 0] rfl)
set_option maxRecDepth 100000 in
set_option maxHeartbeats 4000000 in
theorem c_X9_fraction {l : Launch} {D : va_G} {cI cZ : ClassId} {w0 : va_W} {p0 : Int32} {p1 : Int32} {p2 : Int32} {Q : Int32 → Prop} (h : wp_X9_fraction p0 p1 p2 Q) : CtI l yX9_fraction cX9_fraction 4 (some .int) ({ frames := 1, cells := 0, slots := 0, locals := 25 } : Room) D [(cI, .int), (cZ, .boolean)] [.int p0, .int p1, .int p2] w0 (fun r u => u = w0 ∧ Q r) := by
  refine CtI.of (by decide) rfl (Nat.le_of_ble_eq_true rfl) ?_
  intro p e s m args below meth c A Z E hret ls hl hw
  have E : gE p m c cX9_fraction 4 s args RX9 D [(cI, .int), (cZ, .boolean)] A := E
  have hx := E.1.1
  have hb := E.1.2.1
  have hl : lv_has ls 4 [(0, .int p0), (1, .int p1), (2, .int p2)] := hl
  unfold wp_X9_fraction at h
  refine lv_iload_n hx hb dX9_fraction_0 rfl (lv_at hl 0 rfl) ?_
  refine lv_iload_n hx hb dX9_fraction_1 rfl (lv_at hl 1 rfl) ?_
  refine g_aI E hw (g_rS E hw (c_X9_commonDivisor h _) ym_X9_commonDivisor k_538 ⟨rfl, rfl⟩ ⟨Nat.le_of_ble_eq_true rfl, Nat.le_of_ble_eq_true rfl⟩ rfl hl.1 rfl (Nat.le_of_ble_eq_true rfl) ⟨Nat.zero_le _, Nat.zero_le _⟩ dX9_fraction_2) (fun r1 u H locs hq hw => ?_)
  obtain ⟨hu, h⟩ := hq
  rw [hu] at hw
  refine lv_istore_n (lv' := [(3, .int r1), (0, .int p0), (1, .int p1), (2, .int p2)]) hx hb dX9_fraction_5 rfl hl (by decide) rfl (fun ls hl => ?_)
  refine lv_iload_n hx hb dX9_fraction_6 rfl (lv_at hl 0 rfl) ?_
  refine lv_if_ne (tgt := 20) hx hb dX9_fraction_7 (by decide) (fun c2 => ?_) (fun c2 => ?_)
  · have h := h.1 c2
    refine lv_iload_n hx hb dX9_fraction_20 rfl (lv_at hl 3 rfl) ?_
    refine lv_if_eq (tgt := 30) hx hb dX9_fraction_21 (by decide) (fun c3 => ?_) (fun c3 => ?_)
    · have h := h.1 c3
      refine lv_iload_n hx hb dX9_fraction_30 rfl (lv_at hl 2 rfl) ?_
      refine lv_iload_n hx hb dX9_fraction_31 rfl (lv_at hl 0 rfl) ?_
      refine lv_idiv hx hb dX9_fraction_32 h.1 ?_
      have h := h.2
      exact hret _ _ _ _ _ _ ⟨rfl, h⟩ hw dX9_fraction_33
    · have h := h.2 c3
      refine lv_iload_n hx hb dX9_fraction_24 rfl (lv_at hl 1 rfl) ?_
      refine lv_iload_n hx hb dX9_fraction_25 rfl (lv_at hl 0 rfl) ?_
      refine lv_idiv hx hb dX9_fraction_26 h.1 ?_
      have h := h.2
      refine lv_goto (tgt := 33) hx hb dX9_fraction_27 (by decide) ?_
      exact hret _ _ _ _ _ _ ⟨rfl, h⟩ hw dX9_fraction_33
  · have h := h.2 c2
    refine lv_iload_n hx hb dX9_fraction_10 rfl (lv_at hl 3 rfl) ?_
    refine lv_if_eq (tgt := 18) hx hb dX9_fraction_11 (by decide) (fun c4 => ?_) (fun c4 => ?_)
    · have h := h.1 c4
      refine lv_iconst (v := 1) hx hb dX9_fraction_18 (by decide) ?_
      exact hret _ _ _ _ _ _ ⟨rfl, h⟩ hw dX9_fraction_19
    · have h := h.2 c4
      refine lv_iconst (v := 0) hx hb dX9_fraction_14 (by decide) ?_
      refine lv_goto (tgt := 19) hx hb dX9_fraction_15 (by decide) ?_
      exact hret _ _ _ _ _ _ ⟨rfl, h⟩ hw dX9_fraction_19
set_option maxRecDepth 100000 in
set_option maxHeartbeats 4000000 in
theorem c_X9_choices {l : Launch} {D : va_G} {cI cZ : ClassId} {w0 : va_W} {p0 : Int32} {p1 : Int32} {Q : Int64 → Prop} (h : wp_X9_choices p0 p1 Q) : CtL l yX9_choices cX9_choices 5 (some .long) ({ frames := 0, cells := 0, slots := 0, locals := 0 } : Room) D [(cI, .int), (cZ, .boolean)] [.int p0, .int p1] w0 (fun r u => u = w0 ∧ Q r) := by
  refine CtL.of (by decide) rfl (Nat.le_of_ble_eq_true rfl) ?_
  intro p e s m args below meth c A Z E hret ls hl hw
  have E : gE p m c cX9_choices 5 s args RX9 D [(cI, .int), (cZ, .boolean)] A := E
  have hx := E.1.1
  have hb := E.1.2.1
  have hl : lv_has ls 5 [(0, .int p0), (1, .int p1)] := hl
  have L5 : ∀ (n : Nat) (x2 : Int64) (x4 : Int32) (H : Heap) (locs : List Loc) (ls : Array Slot), wp_X9_choices_h5 p0 p1 Q  n x2 x4 → gW D s A w0 H locs → lv_has ls 5 [(0, .int p0), (1, .int p1), (2, .long x2), (4, .int x4)] → W p l e ({ frames := 0, cells := 0, slots := 0, locals := 0 } : Room) s m args below meth c H locs 0 0 Z (F0 m 5 ls []) := by
    intro n
    induction n with
    | zero => intro x2 x4 H locs ls h; exact False.elim h
    | succ n5 ih5 =>
      intro x2 x4 H locs ls h hw hl
      have h : wp_X9_choices_b5 p0 p1 Q (wp_X9_choices_h5 p0 p1 Q  n5) x2 x4 := h
      unfold wp_X9_choices_b5 at h
      refine lv_iload hx hb dX9_choices_5 (lv_at hl 3 rfl) ?_
      refine lv_iload_n hx hb dX9_choices_7 rfl (lv_at hl 1 rfl) ?_
      refine lv_icmp_gt (tgt := 31) hx hb dX9_choices_8 (by decide) (fun c1 => ?_) (fun c1 => ?_)
      · have h := h.1 c1
        refine lv_lload_n hx hb dX9_choices_31 rfl (lv_at hl 2 rfl) ?_
        exact hret _ _ _ _ _ _ ⟨rfl, h⟩ hw dX9_choices_32
      · have h := h.2 c1
        refine lv_lload_n hx hb dX9_choices_11 rfl (lv_at hl 2 rfl) ?_
        refine lv_iload_n hx hb dX9_choices_12 rfl (lv_at hl 0 rfl) ?_
        refine lv_iload_n hx hb dX9_choices_13 rfl (lv_at hl 1 rfl) ?_
        refine lv_isub hx hb dX9_choices_14 ?_
        refine lv_iload hx hb dX9_choices_15 (lv_at hl 3 rfl) ?_
        refine lv_iadd hx hb dX9_choices_17 ?_
        refine lv_i2l hx hb dX9_choices_18 rfl ?_
        refine lv_lmul hx hb dX9_choices_19 ?_
        refine lv_iload hx hb dX9_choices_20 (lv_at hl 3 rfl) ?_
        refine lv_i2l hx hb dX9_choices_22 rfl ?_
        refine lv_ldiv hx hb dX9_choices_23 h.1 ?_
        have h := h.2
        refine lv_topl (fun v2 ev2 => ?_)
        have h := h v2 ev2
        refine lv_lstore_n (lv' := [(2, .long v2), (0, .int p0), (1, .int p1), (4, .int x4)]) hx hb dX9_choices_24 rfl hl (by decide) rfl (fun ls hl => ?_)
        obtain ⟨v3, ev3⟩ : ∃ y : Int32, y = x4 + 1 := ⟨_, rfl⟩
        have h := h v3 ev3
        refine lv_iinc (v := v3) (lv' := [(4, .int v3), (2, .long v2), (0, .int p0), (1, .int p1)]) hx hb dX9_choices_25 hl (k := 3) rfl (by rw [ev3]; rfl) (by decide) rfl (fun ls hl => ?_)
        refine lv_goto (tgt := 5) hx hb dX9_choices_28 (by decide) ?_
        exact ih5 v2 v3 _ _ _ h hw (lv_sub hl [2, 3, 1, 0] rfl)
  unfold wp_X9_choices at h
  refine lv_lconst (v := 1) hx hb dX9_choices_0 (by decide) ?_
  refine lv_lstore_n (lv' := [(2, .long (1 : Int64)), (0, .int p0), (1, .int p1)]) hx hb dX9_choices_1 rfl hl (by decide) rfl (fun ls hl => ?_)
  refine lv_iconst (v := 1) hx hb dX9_choices_2 (by decide) ?_
  refine lv_istore (lv' := [(4, .int (1 : Int32)), (2, .long (1 : Int64)), (0, .int p0), (1, .int p1)]) hx hb dX9_choices_3 hl (by decide) rfl (fun ls hl => ?_)
  obtain ⟨n, h⟩ := h
  exact L5 n (1 : Int64) (1 : Int32) _ _ _ h hw (lv_sub hl [2, 3, 1, 0] rfl)
set_option maxRecDepth 100000 in
set_option maxHeartbeats 4000000 in
theorem c_X9_weightOfGoodSlots {l : Launch} {D : va_G} {cI cZ : ClassId} {w0 : va_W} {p0 : Int32} {p1 : Int32} {p2 : Int32} {Q : Int64 → Prop} (h : wp_X9_weightOfGoodSlots p0 p1 p2 Q) : CtL l yX9_weightOfGoodSlots cX9_weightOfGoodSlots 6 (some .long) ({ frames := 1, cells := 0, slots := 0, locals := 24 } : Room) D [(cI, .int), (cZ, .boolean)] [.int p0, .int p1, .int p2] w0 (fun r u => u = w0 ∧ Q r) := by
  refine CtL.of (by decide) rfl (Nat.le_of_ble_eq_true rfl) ?_
  intro p e s m args below meth c A Z E hret ls hl hw
  have E : gE p m c cX9_weightOfGoodSlots 6 s args RX9 D [(cI, .int), (cZ, .boolean)] A := E
  have hx := E.1.1
  have hb := E.1.2.1
  have hl : lv_has ls 6 [(0, .int p0), (1, .int p1), (2, .int p2)] := hl
  have L5 : ∀ (n : Nat) (x3 : Int64) (x5 : Int32) (H : Heap) (locs : List Loc) (ls : Array Slot), wp_X9_weightOfGoodSlots_h5 p0 p1 p2 Q  n x3 x5 → gW D s A w0 H locs → lv_has ls 6 [(1, .int p1), (2, .int p2), (3, .long x3), (5, .int x5)] → W p l e ({ frames := 1, cells := 0, slots := 0, locals := 24 } : Room) s m args below meth c H locs 0 0 Z (F0 m 5 ls []) := by
    intro n
    induction n with
    | zero => intro x3 x5 H locs ls h; exact False.elim h
    | succ n5 ih5 =>
      intro x3 x5 H locs ls h hw hl
      have h : wp_X9_weightOfGoodSlots_b5 p0 p1 p2 Q (wp_X9_weightOfGoodSlots_h5 p0 p1 p2 Q  n5) x3 x5 := h
      unfold wp_X9_weightOfGoodSlots_b5 at h
      refine lv_iload hx hb dX9_weightOfGoodSlots_5 (lv_at hl 3 rfl) ?_
      refine lv_iload_n hx hb dX9_weightOfGoodSlots_7 rfl (lv_at hl 0 rfl) ?_
      refine lv_icmp_gt (tgt := 45) hx hb dX9_weightOfGoodSlots_8 (by decide) (fun c1 => ?_) (fun c1 => ?_)
      · have h := h.1 c1
        refine lv_lload_n hx hb dX9_weightOfGoodSlots_45 rfl (lv_at hl 2 rfl) ?_
        exact hret _ _ _ _ _ _ ⟨rfl, h⟩ hw dX9_weightOfGoodSlots_46
      · have h := h.2 c1
        refine lv_lload_n hx hb dX9_weightOfGoodSlots_11 rfl (lv_at hl 2 rfl) ?_
        refine lv_iload_n hx hb dX9_weightOfGoodSlots_12 rfl (lv_at hl 0 rfl) ?_
        refine lv_iload hx hb dX9_weightOfGoodSlots_13 (lv_at hl 3 rfl) ?_
        refine g_aL E hw (g_rS E hw (c_X9_choices h _) ym_X9_choices k_548 ⟨rfl, rfl⟩ ⟨Nat.le_of_ble_eq_true rfl, Nat.le_of_ble_eq_true rfl⟩ rfl hl.1 rfl (Nat.le_of_ble_eq_true rfl) ⟨Nat.zero_le _, Nat.zero_le _⟩ dX9_weightOfGoodSlots_15) (fun r2 u H locs hq hw => ?_)
        obtain ⟨hu, h⟩ := hq
        rw [hu] at hw
        refine lv_bipush (v := 10) hx hb dX9_weightOfGoodSlots_18 (by decide) ?_
        refine lv_iload_n hx hb dX9_weightOfGoodSlots_20 rfl (lv_at hl 1 rfl) ?_
        refine lv_isub hx hb dX9_weightOfGoodSlots_21 ?_
        refine lv_iload hx hb dX9_weightOfGoodSlots_22 (lv_at hl 3 rfl) ?_
        refine g_aL E hw (g_rS E hw (c_X9_power h _) ym_X9_power k_476 ⟨rfl, rfl⟩ ⟨Nat.le_of_ble_eq_true rfl, Nat.le_of_ble_eq_true rfl⟩ rfl hl.1 rfl (Nat.le_of_ble_eq_true rfl) ⟨Nat.zero_le _, Nat.zero_le _⟩ dX9_weightOfGoodSlots_24) (fun r3 u H locs hq hw => ?_)
        obtain ⟨hu, h⟩ := hq
        rw [hu] at hw
        refine lv_lmul hx hb dX9_weightOfGoodSlots_27 ?_
        refine lv_iload_n hx hb dX9_weightOfGoodSlots_28 rfl (lv_at hl 1 rfl) ?_
        refine lv_iload_n hx hb dX9_weightOfGoodSlots_29 rfl (lv_at hl 0 rfl) ?_
        refine lv_iload hx hb dX9_weightOfGoodSlots_30 (lv_at hl 3 rfl) ?_
        refine lv_isub hx hb dX9_weightOfGoodSlots_32 ?_
        refine g_aL E hw (g_rS E hw (c_X9_power h _) ym_X9_power k_476 ⟨rfl, rfl⟩ ⟨Nat.le_of_ble_eq_true rfl, Nat.le_of_ble_eq_true rfl⟩ rfl hl.1 rfl (Nat.le_of_ble_eq_true rfl) ⟨Nat.zero_le _, Nat.zero_le _⟩ dX9_weightOfGoodSlots_33) (fun r4 u H locs hq hw => ?_)
        obtain ⟨hu, h⟩ := hq
        rw [hu] at hw
        refine lv_lmul hx hb dX9_weightOfGoodSlots_36 ?_
        refine lv_ladd hx hb dX9_weightOfGoodSlots_37 ?_
        refine lv_topl (fun v5 ev5 => ?_)
        have h := h v5 ev5
        refine lv_lstore_n (lv' := [(3, .long v5), (1, .int p1), (2, .int p2), (5, .int x5)]) hx hb dX9_weightOfGoodSlots_38 rfl hl (by decide) rfl (fun ls hl => ?_)
        obtain ⟨v6, ev6⟩ : ∃ y : Int32, y = x5 + 1 := ⟨_, rfl⟩
        have h := h v6 ev6
        refine lv_iinc (v := v6) (lv' := [(5, .int v6), (3, .long v5), (1, .int p1), (2, .int p2)]) hx hb dX9_weightOfGoodSlots_39 hl (k := 3) rfl (by rw [ev6]; rfl) (by decide) rfl (fun ls hl => ?_)
        refine lv_goto (tgt := 5) hx hb dX9_weightOfGoodSlots_42 (by decide) ?_
        exact ih5 v5 v6 _ _ _ h hw (lv_sub hl [2, 3, 1, 0] rfl)
  unfold wp_X9_weightOfGoodSlots at h
  refine lv_lconst (v := 0) hx hb dX9_weightOfGoodSlots_0 (by decide) ?_
  refine lv_lstore_n (lv' := [(3, .long (0 : Int64)), (0, .int p0), (1, .int p1), (2, .int p2)]) hx hb dX9_weightOfGoodSlots_1 rfl hl (by decide) rfl (fun ls hl => ?_)
  refine lv_iload_n hx hb dX9_weightOfGoodSlots_2 rfl (lv_at hl 1 rfl) ?_
  refine lv_istore (lv' := [(5, .int p0), (3, .long (0 : Int64)), (0, .int p0), (1, .int p1), (2, .int p2)]) hx hb dX9_weightOfGoodSlots_3 hl (by decide) rfl (fun ls hl => ?_)
  obtain ⟨n, h⟩ := h
  exact L5 n (0 : Int64) p0 _ _ _ h hw (lv_sub hl [3, 4, 1, 0] rfl)
set_option maxRecDepth 100000 in
set_option maxHeartbeats 4000000 in
theorem c_X9_isKeeper {l : Launch} {D : va_G} {cI cZ : ClassId} {w0 : va_W} {p0 : Int32} {Q : Int32 → Prop} (h : wp_X9_isKeeper p0 Q) : CtI l yX9_isKeeper cX9_isKeeper 1 (some .boolean) ({ frames := 0, cells := 0, slots := 0, locals := 0 } : Room) D [(cI, .int), (cZ, .boolean)] [.int p0] w0 (fun r u => u = w0 ∧ Q r) := by
  refine CtI.ofZ (by decide) rfl (Nat.le_of_ble_eq_true rfl) ?_
  intro p e s m args below meth c A Z E hret ls hl hw
  have E : gE p m c cX9_isKeeper 1 s args RX9 D [(cI, .int), (cZ, .boolean)] A := E
  have hx := E.1.1
  have hb := E.1.2.1
  have hl : lv_has ls 1 [(0, .int p0)] := hl
  have J13 : ∀  (H : Heap) (locs : List Loc) (ls : Array Slot), wp_X9_isKeeper_b13 p0 Q   → gW D s A w0 H locs → lv_has ls 1 [] → W p l e ({ frames := 0, cells := 0, slots := 0, locals := 0 } : Room) s m args below meth c H locs 0 0 Z (F0 m 13 ls []) := by
    intro  H locs ls h hw hl
    unfold wp_X9_isKeeper_b13 at h
    refine lv_iconst (v := 0) hx hb dX9_isKeeper_13 (by decide) ?_
    exact hret _ _ _ _ _ _ (Or.inl rfl) ⟨rfl, h⟩ hw dX9_isKeeper_14
  unfold wp_X9_isKeeper at h
  refine lv_iload_n hx hb dX9_isKeeper_0 rfl (lv_at hl 0 rfl) ?_
  refine lv_if_lt (tgt := 13) hx hb dX9_isKeeper_1 (by decide) (fun c1 => ?_) (fun c1 => ?_)
  · have h := h.1 c1
    exact J13  _ _ _ h hw (lv_sub hl [] rfl)
  · have h := h.2 c1
    refine lv_iload_n hx hb dX9_isKeeper_4 rfl (lv_at hl 0 rfl) ?_
    refine lv_iconst (v := 2) hx hb dX9_isKeeper_5 (by decide) ?_
    refine lv_icmp_ge (tgt := 13) hx hb dX9_isKeeper_6 (by decide) (fun c2 => ?_) (fun c2 => ?_)
    · have h := h.1 c2
      exact J13  _ _ _ h hw (lv_sub hl [] rfl)
    · have h := h.2 c2
      refine lv_iconst (v := 1) hx hb dX9_isKeeper_9 (by decide) ?_
      refine lv_goto (tgt := 14) hx hb dX9_isKeeper_10 (by decide) ?_
      exact hret _ _ _ _ _ _ (Or.inr rfl) ⟨rfl, h⟩ hw dX9_isKeeper_14
set_option maxRecDepth 100000 in
set_option maxHeartbeats 4000000 in
theorem c_X10_in {l : Launch} {D : va_G} {cI cZ : ClassId} {w0 : va_W} {p0 : Int64} {p2 : Int64} {p4 : Int64} {Q : Int32 → Prop} (h : wp_X10_in p0 p2 p4 Q) : CtI l yX10_in cX10_in 6 (some .boolean) ({ frames := 0, cells := 0, slots := 0, locals := 0 } : Room) D [(cI, .int), (cZ, .boolean)] [.long p0, .long p2, .long p4] w0 (fun r u => u = w0 ∧ Q r) := by
  refine CtI.ofZ (by decide) rfl (Nat.le_of_ble_eq_true rfl) ?_
  intro p e s m args below meth c A Z E hret ls hl hw
  have E : gE p m c cX10_in 6 s args RX10 D [(cI, .int), (cZ, .boolean)] A := E
  have hx := E.1.1
  have hb := E.1.2.1
  have hl : lv_has ls 6 [(0, .long p0), (2, .long p2), (4, .long p4)] := hl
  have J17 : ∀  (H : Heap) (locs : List Loc) (ls : Array Slot), wp_X10_in_b17 p0 p2 p4 Q   → gW D s A w0 H locs → lv_has ls 6 [] → W p l e ({ frames := 0, cells := 0, slots := 0, locals := 0 } : Room) s m args below meth c H locs 0 0 Z (F0 m 17 ls []) := by
    intro  H locs ls h hw hl
    unfold wp_X10_in_b17 at h
    refine lv_iconst (v := 0) hx hb dX10_in_17 (by decide) ?_
    exact hret _ _ _ _ _ _ (Or.inl rfl) ⟨rfl, h⟩ hw dX10_in_18
  unfold wp_X10_in at h
  refine lv_lload_n hx hb dX10_in_0 rfl (lv_at hl 0 rfl) ?_
  refine lv_lload_n hx hb dX10_in_1 rfl (lv_at hl 1 rfl) ?_
  refine W.lcmp hx hb dX10_in_2 ?_
  refine lv_if_lt (tgt := 17) hx hb dX10_in_3 (by decide) (fun c1 => ?_) (fun c1 => ?_)
  · have h := h.1 c1
    exact J17  _ _ _ h hw (lv_sub hl [] rfl)
  · have h := h.2 c1
    refine lv_lload_n hx hb dX10_in_6 rfl (lv_at hl 0 rfl) ?_
    refine lv_lload hx hb dX10_in_7 (lv_at hl 2 rfl) ?_
    refine W.lcmp hx hb dX10_in_9 ?_
    refine lv_if_gt (tgt := 17) hx hb dX10_in_10 (by decide) (fun c2 => ?_) (fun c2 => ?_)
    · have h := h.1 c2
      exact J17  _ _ _ h hw (lv_sub hl [] rfl)
    · have h := h.2 c2
      refine lv_iconst (v := 1) hx hb dX10_in_13 (by decide) ?_
      refine lv_goto (tgt := 18) hx hb dX10_in_14 (by decide) ?_
      exact hret _ _ _ _ _ _ (Or.inr rfl) ⟨rfl, h⟩ hw dX10_in_18
set_option maxRecDepth 100000 in
set_option maxHeartbeats 4000000 in
theorem c_X10_kindOf {l : Launch} {D : va_G} {cI cZ : ClassId} {w0 : va_W} {p0 : Int32} {Q : Int32 → Prop} (h : wp_X10_kindOf p0 Q) : CtI l yX10_kindOf cX10_kindOf 1 (some .int) ({ frames := 0, cells := 0, slots := 0, locals := 0 } : Room) D [(cI, .int), (cZ, .boolean)] [.int p0] w0 (fun r u => u = w0 ∧ Q r) := by
  refine CtI.of (by decide) rfl (Nat.le_of_ble_eq_true rfl) ?_
  intro p e s m args below meth c A Z E hret ls hl hw
  have E : gE p m c cX10_kindOf 1 s args RX10 D [(cI, .int), (cZ, .boolean)] A := E
  have hx := E.1.1
  have hb := E.1.2.1
  have hl : lv_has ls 1 [(0, .int p0)] := hl
  unfold wp_X10_kindOf at h
  refine lv_iload_n hx hb dX10_kindOf_0 rfl (lv_at hl 0 rfl) ?_
  by_cases c1 : p0 = 97
  · have h := h.1 c1
    refine lv_lookup (tgt := 64) (off := 63) hx hb dX10_kindOf_1 (by decide) (by rw [c1]; decide) (by decide) ?_
    refine lv_iconst (v := 2) hx hb dX10_kindOf_64 (by decide) ?_
    exact hret _ _ _ _ _ _ ⟨rfl, h⟩ hw dX10_kindOf_65
  · have h := h.2 c1
    by_cases c2 : p0 = 105
    · have h := h.1 c2
      refine lv_lookup (tgt := 60) (off := 59) hx hb dX10_kindOf_1 (by decide) (by rw [c2]; decide) (by decide) ?_
      refine lv_iconst (v := 0) hx hb dX10_kindOf_60 (by decide) ?_
      exact hret _ _ _ _ _ _ ⟨rfl, h⟩ hw dX10_kindOf_61
    · have h := h.2 c2
      by_cases c3 : p0 = 110
      · have h := h.1 c3
        refine lv_lookup (tgt := 62) (off := 61) hx hb dX10_kindOf_1 (by decide) (by rw [c3]; decide) (by decide) ?_
        refine lv_iconst (v := 1) hx hb dX10_kindOf_62 (by decide) ?_
        exact hret _ _ _ _ _ _ ⟨rfl, h⟩ hw dX10_kindOf_63
      · have h := h.2 c3
        by_cases c4 : p0 = 111
        · have h := h.1 c4
          refine lv_lookup (tgt := 66) (off := 65) hx hb dX10_kindOf_1 (by decide) (by rw [c4]; decide) (by decide) ?_
          refine lv_iconst (v := 3) hx hb dX10_kindOf_66 (by decide) ?_
          exact hret _ _ _ _ _ _ ⟨rfl, h⟩ hw dX10_kindOf_67
        · have h := h.2 c4
          by_cases c5 : p0 = 114
          · have h := h.1 c5
            refine lv_lookup (tgt := 70) (off := 69) hx hb dX10_kindOf_1 (by decide) (by rw [c5]; decide) (by decide) ?_
            refine lv_iconst (v := 5) hx hb dX10_kindOf_70 (by decide) ?_
            exact hret _ _ _ _ _ _ ⟨rfl, h⟩ hw dX10_kindOf_71
          · have h := h.2 c5
            by_cases c6 : p0 = 120
            · have h := h.1 c6
              refine lv_lookup (tgt := 68) (off := 67) hx hb dX10_kindOf_1 (by decide) (by rw [c6]; decide) (by decide) ?_
              refine lv_iconst (v := 4) hx hb dX10_kindOf_68 (by decide) ?_
              exact hret _ _ _ _ _ _ ⟨rfl, h⟩ hw dX10_kindOf_69
            · have h := h.2 c6
              refine lv_lookup (tgt := 72) (off := 71) hx hb dX10_kindOf_1 (by decide) (by show Op.lookupswitch.offset [(97, 63), (105, 59), (110, 61), (111, 65), (114, 69), (120, 67)] 71 p0.toInt = 71; rw [lv_osw (a := 97) c1 rfl, lv_osw (a := 105) c2 rfl, lv_osw (a := 110) c3 rfl, lv_osw (a := 111) c4 rfl, lv_osw (a := 114) c5 rfl, lv_osw (a := 120) c6 rfl]; rfl) (by decide) ?_
              refine lv_bipush (v := -9) hx hb dX10_kindOf_72 (by decide) ?_
              exact hret _ _ _ _ _ _ ⟨rfl, h⟩ hw dX10_kindOf_74
set_option maxRecDepth 100000 in
set_option maxHeartbeats 4000000 in
theorem c_X10_has {l : Launch} {D : va_G} {cI cZ : ClassId} {w0 : va_W} {p0 : Int32} {p1 : Int32} {Q : Int32 → Prop} (h : wp_X10_has p0 p1 Q) : CtI l yX10_has cX10_has 2 (some .boolean) ({ frames := 0, cells := 0, slots := 0, locals := 0 } : Room) D [(cI, .int), (cZ, .boolean)] [.int p0, .int p1] w0 (fun r u => u = w0 ∧ Q r) := by
  refine CtI.ofZ (by decide) rfl (Nat.le_of_ble_eq_true rfl) ?_
  intro p e s m args below meth c A Z E hret ls hl hw
  have E : gE p m c cX10_has 2 s args RX10 D [(cI, .int), (cZ, .boolean)] A := E
  have hx := E.1.1
  have hb := E.1.2.1
  have hl : lv_has ls 2 [(0, .int p0), (1, .int p1)] := hl
  unfold wp_X10_has at h
  refine lv_iload_n hx hb dX10_has_0 rfl (lv_at hl 0 rfl) ?_
  refine lv_iload_n hx hb dX10_has_1 rfl (lv_at hl 1 rfl) ?_
  refine lv_ishr hx hb dX10_has_2 ?_
  refine lv_iconst (v := 1) hx hb dX10_has_3 (by decide) ?_
  refine lv_iand hx hb dX10_has_4 ?_
  refine lv_iconst (v := 1) hx hb dX10_has_5 (by decide) ?_
  refine lv_icmp_ne (tgt := 13) hx hb dX10_has_6 (by decide) (fun c1 => ?_) (fun c1 => ?_)
  · have h := h.1 c1
    refine lv_iconst (v := 0) hx hb dX10_has_13 (by decide) ?_
    exact hret _ _ _ _ _ _ (Or.inl rfl) ⟨rfl, h⟩ hw dX10_has_14
  · have h := h.2 c1
    refine lv_iconst (v := 1) hx hb dX10_has_9 (by decide) ?_
    refine lv_goto (tgt := 14) hx hb dX10_has_10 (by decide) ?_
    exact hret _ _ _ _ _ _ (Or.inr rfl) ⟨rfl, h⟩ hw dX10_has_14
set_option maxRecDepth 100000 in
set_option maxHeartbeats 4000000 in
theorem c_X10_longPower {l : Launch} {D : va_G} {cI cZ : ClassId} {w0 : va_W} {p0 : Int64} {p2 : Int32} {Q : Int64 → Prop} (h : wp_X10_longPower p0 p2 Q) : CtL l yX10_longPower cX10_longPower 6 (some .long) ({ frames := 0, cells := 0, slots := 0, locals := 0 } : Room) D [(cI, .int), (cZ, .boolean)] [.long p0, .int p2] w0 (fun r u => u = w0 ∧ Q r) := by
  refine CtL.of (by decide) rfl (Nat.le_of_ble_eq_true rfl) ?_
  intro p e s m args below meth c A Z E hret ls hl hw
  have E : gE p m c cX10_longPower 6 s args RX10 D [(cI, .int), (cZ, .boolean)] A := E
  have hx := E.1.1
  have hb := E.1.2.1
  have hl : lv_has ls 6 [(0, .long p0), (2, .int p2)] := hl
  have L5 : ∀ (n : Nat) (x3 : Int64) (x5 : Int32) (H : Heap) (locs : List Loc) (ls : Array Slot), wp_X10_longPower_h5 p0 p2 Q  n x3 x5 → gW D s A w0 H locs → lv_has ls 6 [(0, .long p0), (2, .int p2), (3, .long x3), (5, .int x5)] → W p l e ({ frames := 0, cells := 0, slots := 0, locals := 0 } : Room) s m args below meth c H locs 0 0 Z (F0 m 5 ls []) := by
    intro n
    induction n with
    | zero => intro x3 x5 H locs ls h; exact False.elim h
    | succ n5 ih5 =>
      intro x3 x5 H locs ls h hw hl
      have h : wp_X10_longPower_b5 p0 p2 Q (wp_X10_longPower_h5 p0 p2 Q  n5) x3 x5 := h
      unfold wp_X10_longPower_b5 at h
      refine lv_iload hx hb dX10_longPower_5 (lv_at hl 3 rfl) ?_
      refine lv_iload_n hx hb dX10_longPower_7 rfl (lv_at hl 1 rfl) ?_
      refine lv_icmp_ge (tgt := 21) hx hb dX10_longPower_8 (by decide) (fun c1 => ?_) (fun c1 => ?_)
      · have h := h.1 c1
        refine lv_lload_n hx hb dX10_longPower_21 rfl (lv_at hl 2 rfl) ?_
        exact hret _ _ _ _ _ _ ⟨rfl, h⟩ hw dX10_longPower_22
      · have h := h.2 c1
        refine lv_lload_n hx hb dX10_longPower_11 rfl (lv_at hl 2 rfl) ?_
        refine lv_lload_n hx hb dX10_longPower_12 rfl (lv_at hl 0 rfl) ?_
        refine lv_lmul hx hb dX10_longPower_13 ?_
        refine lv_topl (fun v2 ev2 => ?_)
        have h := h v2 ev2
        refine lv_lstore_n (lv' := [(3, .long v2), (0, .long p0), (2, .int p2), (5, .int x5)]) hx hb dX10_longPower_14 rfl hl (by decide) rfl (fun ls hl => ?_)
        obtain ⟨v3, ev3⟩ : ∃ y : Int32, y = x5 + 1 := ⟨_, rfl⟩
        have h := h v3 ev3
        refine lv_iinc (v := v3) (lv' := [(5, .int v3), (3, .long v2), (0, .long p0), (2, .int p2)]) hx hb dX10_longPower_15 hl (k := 3) rfl (by rw [ev3]; rfl) (by decide) rfl (fun ls hl => ?_)
        refine lv_goto (tgt := 5) hx hb dX10_longPower_18 (by decide) ?_
        exact ih5 v2 v3 _ _ _ h hw (lv_sub hl [2, 3, 1, 0] rfl)
  unfold wp_X10_longPower at h
  refine lv_lconst (v := 1) hx hb dX10_longPower_0 (by decide) ?_
  refine lv_lstore_n (lv' := [(3, .long (1 : Int64)), (0, .long p0), (2, .int p2)]) hx hb dX10_longPower_1 rfl hl (by decide) rfl (fun ls hl => ?_)
  refine lv_iconst (v := 0) hx hb dX10_longPower_2 (by decide) ?_
  refine lv_istore (lv' := [(5, .int (0 : Int32)), (3, .long (1 : Int64)), (0, .long p0), (2, .int p2)]) hx hb dX10_longPower_3 hl (by decide) rfl (fun ls hl => ?_)
  obtain ⟨n, h⟩ := h
  exact L5 n (1 : Int64) (0 : Int32) _ _ _ h hw (lv_sub hl [2, 3, 1, 0] rfl)
set_option maxRecDepth 100000 in
set_option maxHeartbeats 4000000 in
theorem c_X10_ones {l : Launch} {D : va_G} {cI cZ : ClassId} {w0 : va_W} {p0 : Int32} {Q : Int32 → Prop} (h : wp_X10_ones p0 Q) : CtI l yX10_ones cX10_ones 3 (some .int) ({ frames := 0, cells := 0, slots := 0, locals := 0 } : Room) D [(cI, .int), (cZ, .boolean)] [.int p0] w0 (fun r u => u = w0 ∧ Q r) := by
  refine CtI.of (by decide) rfl (Nat.le_of_ble_eq_true rfl) ?_
  intro p e s m args below meth c A Z E hret ls hl hw
  have E : gE p m c cX10_ones 3 s args RX10 D [(cI, .int), (cZ, .boolean)] A := E
  have hx := E.1.1
  have hb := E.1.2.1
  have hl : lv_has ls 3 [(0, .int p0)] := hl
  have L4 : ∀ (n : Nat) (x1 : Int32) (x2 : Int32) (H : Heap) (locs : List Loc) (ls : Array Slot), wp_X10_ones_h4 p0 Q  n x1 x2 → gW D s A w0 H locs → lv_has ls 3 [(0, .int p0), (1, .int x1), (2, .int x2)] → W p l e ({ frames := 0, cells := 0, slots := 0, locals := 0 } : Room) s m args below meth c H locs 0 0 Z (F0 m 4 ls []) := by
    intro n
    induction n with
    | zero => intro x1 x2 H locs ls h; exact False.elim h
    | succ n4 ih4 =>
      intro x1 x2 H locs ls h hw hl
      have h : wp_X10_ones_b4 p0 Q (wp_X10_ones_h4 p0 Q  n4) x1 x2 := h
      unfold wp_X10_ones_b4 at h
      refine lv_iload_n hx hb dX10_ones_4 rfl (lv_at hl 2 rfl) ?_
      refine lv_bipush (v := 10) hx hb dX10_ones_5 (by decide) ?_
      refine lv_icmp_ge (tgt := 24) hx hb dX10_ones_7 (by decide) (fun c1 => ?_) (fun c1 => ?_)
      · have h := h.1 c1
        refine lv_iload_n hx hb dX10_ones_24 rfl (lv_at hl 1 rfl) ?_
        exact hret _ _ _ _ _ _ ⟨rfl, h⟩ hw dX10_ones_25
      · have h := h.2 c1
        refine lv_iload_n hx hb dX10_ones_10 rfl (lv_at hl 1 rfl) ?_
        refine lv_iload_n hx hb dX10_ones_11 rfl (lv_at hl 0 rfl) ?_
        refine lv_iload_n hx hb dX10_ones_12 rfl (lv_at hl 2 rfl) ?_
        refine lv_ishr hx hb dX10_ones_13 ?_
        refine lv_iconst (v := 1) hx hb dX10_ones_14 (by decide) ?_
        refine lv_iand hx hb dX10_ones_15 ?_
        refine lv_iadd hx hb dX10_ones_16 ?_
        refine lv_topi (fun v2 ev2 => ?_)
        have h := h v2 ev2
        refine lv_istore_n (lv' := [(1, .int v2), (0, .int p0), (2, .int x2)]) hx hb dX10_ones_17 rfl hl (by decide) rfl (fun ls hl => ?_)
        obtain ⟨v3, ev3⟩ : ∃ y : Int32, y = x2 + 1 := ⟨_, rfl⟩
        have h := h v3 ev3
        refine lv_iinc (v := v3) (lv' := [(2, .int v3), (1, .int v2), (0, .int p0)]) hx hb dX10_ones_18 hl (k := 2) rfl (by rw [ev3]; rfl) (by decide) rfl (fun ls hl => ?_)
        refine lv_goto (tgt := 4) hx hb dX10_ones_21 (by decide) ?_
        exact ih4 v2 v3 _ _ _ h hw (lv_sub hl [2, 1, 0] rfl)
  unfold wp_X10_ones at h
  refine lv_iconst (v := 0) hx hb dX10_ones_0 (by decide) ?_
  refine lv_istore_n (lv' := [(1, .int (0 : Int32)), (0, .int p0)]) hx hb dX10_ones_1 rfl hl (by decide) rfl (fun ls hl => ?_)
  refine lv_iconst (v := 0) hx hb dX10_ones_2 (by decide) ?_
  refine lv_istore_n (lv' := [(2, .int (0 : Int32)), (1, .int (0 : Int32)), (0, .int p0)]) hx hb dX10_ones_3 rfl hl (by decide) rfl (fun ls hl => ?_)
  obtain ⟨n, h⟩ := h
  exact L4 n (0 : Int32) (0 : Int32) _ _ _ h hw (lv_sub hl [2, 1, 0] rfl)
set_option maxRecDepth 100000 in
set_option maxHeartbeats 4000000 in
theorem c_X10_factorial {l : Launch} {D : va_G} {cI cZ : ClassId} {w0 : va_W} {p0 : Int32} {Q : Int32 → Prop} (h : wp_X10_factorial p0 Q) : CtI l yX10_factorial cX10_factorial 3 (some .int) ({ frames := 0, cells := 0, slots := 0, locals := 0 } : Room) D [(cI, .int), (cZ, .boolean)] [.int p0] w0 (fun r u => u = w0 ∧ Q r) := by
  refine CtI.of (by decide) rfl (Nat.le_of_ble_eq_true rfl) ?_
  intro p e s m args below meth c A Z E hret ls hl hw
  have E : gE p m c cX10_factorial 3 s args RX10 D [(cI, .int), (cZ, .boolean)] A := E
  have hx := E.1.1
  have hb := E.1.2.1
  have hl : lv_has ls 3 [(0, .int p0)] := hl
  have L4 : ∀ (n : Nat) (x1 : Int32) (x2 : Int32) (H : Heap) (locs : List Loc) (ls : Array Slot), wp_X10_factorial_h4 p0 Q  n x1 x2 → gW D s A w0 H locs → lv_has ls 3 [(0, .int p0), (1, .int x1), (2, .int x2)] → W p l e ({ frames := 0, cells := 0, slots := 0, locals := 0 } : Room) s m args below meth c H locs 0 0 Z (F0 m 4 ls []) := by
    intro n
    induction n with
    | zero => intro x1 x2 H locs ls h; exact False.elim h
    | succ n4 ih4 =>
      intro x1 x2 H locs ls h hw hl
      have h : wp_X10_factorial_b4 p0 Q (wp_X10_factorial_h4 p0 Q  n4) x1 x2 := h
      unfold wp_X10_factorial_b4 at h
      refine lv_iload_n hx hb dX10_factorial_4 rfl (lv_at hl 2 rfl) ?_
      refine lv_iload_n hx hb dX10_factorial_5 rfl (lv_at hl 0 rfl) ?_
      refine lv_icmp_gt (tgt := 19) hx hb dX10_factorial_6 (by decide) (fun c1 => ?_) (fun c1 => ?_)
      · have h := h.1 c1
        refine lv_iload_n hx hb dX10_factorial_19 rfl (lv_at hl 1 rfl) ?_
        exact hret _ _ _ _ _ _ ⟨rfl, h⟩ hw dX10_factorial_20
      · have h := h.2 c1
        refine lv_iload_n hx hb dX10_factorial_9 rfl (lv_at hl 1 rfl) ?_
        refine lv_iload_n hx hb dX10_factorial_10 rfl (lv_at hl 2 rfl) ?_
        refine lv_imul hx hb dX10_factorial_11 ?_
        refine lv_topi (fun v2 ev2 => ?_)
        have h := h v2 ev2
        refine lv_istore_n (lv' := [(1, .int v2), (0, .int p0), (2, .int x2)]) hx hb dX10_factorial_12 rfl hl (by decide) rfl (fun ls hl => ?_)
        obtain ⟨v3, ev3⟩ : ∃ y : Int32, y = x2 + 1 := ⟨_, rfl⟩
        have h := h v3 ev3
        refine lv_iinc (v := v3) (lv' := [(2, .int v3), (1, .int v2), (0, .int p0)]) hx hb dX10_factorial_13 hl (k := 2) rfl (by rw [ev3]; rfl) (by decide) rfl (fun ls hl => ?_)
        refine lv_goto (tgt := 4) hx hb dX10_factorial_16 (by decide) ?_
        exact ih4 v2 v3 _ _ _ h hw (lv_sub hl [2, 1, 0] rfl)
  unfold wp_X10_factorial at h
  refine lv_iconst (v := 1) hx hb dX10_factorial_0 (by decide) ?_
  refine lv_istore_n (lv' := [(1, .int (1 : Int32)), (0, .int p0)]) hx hb dX10_factorial_1 rfl hl (by decide) rfl (fun ls hl => ?_)
  refine lv_iconst (v := 2) hx hb dX10_factorial_2 (by decide) ?_
  refine lv_istore_n (lv' := [(2, .int (2 : Int32)), (1, .int (1 : Int32)), (0, .int p0)]) hx hb dX10_factorial_3 rfl hl (by decide) rfl (fun ls hl => ?_)
  obtain ⟨n, h⟩ := h
  exact L4 n (1 : Int32) (2 : Int32) _ _ _ h hw (lv_sub hl [2, 1, 0] rfl)
set_option maxRecDepth 100000 in
set_option maxHeartbeats 4000000 in
theorem c_X10_divisor {l : Launch} {D : va_G} {cI cZ : ClassId} {w0 : va_W} {p0 : Int32} {p1 : Int32} {Q : Int32 → Prop} (h : wp_X10_divisor p0 p1 Q) : CtI l yX10_divisor cX10_divisor 5 (some .int) ({ frames := 0, cells := 0, slots := 0, locals := 0 } : Room) D [(cI, .int), (cZ, .boolean)] [.int p0, .int p1] w0 (fun r u => u = w0 ∧ Q r) := by
  refine CtI.of (by decide) rfl (Nat.le_of_ble_eq_true rfl) ?_
  intro p e s m args below meth c A Z E hret ls hl hw
  have E : gE p m c cX10_divisor 5 s args RX10 D [(cI, .int), (cZ, .boolean)] A := E
  have hx := E.1.1
  have hb := E.1.2.1
  have hl : lv_has ls 5 [(0, .int p0), (1, .int p1)] := hl
  have L13 : ∀ (n : Nat) (x2 : Int32) (x3 : Int32) (H : Heap) (locs : List Loc) (ls : Array Slot), wp_X10_divisor_h13 p0 p1 Q  n x2 x3 → gW D s A w0 H locs → lv_has ls 5 [(2, .int x2), (3, .int x3)] → W p l e ({ frames := 0, cells := 0, slots := 0, locals := 0 } : Room) s m args below meth c H locs 0 0 Z (F0 m 13 ls []) := by
    intro n
    induction n with
    | zero => intro x2 x3 H locs ls h; exact False.elim h
    | succ n13 ih13 =>
      intro x2 x3 H locs ls h hw hl
      have h : wp_X10_divisor_b13 p0 p1 Q (wp_X10_divisor_h13 p0 p1 Q  n13) x2 x3 := h
      unfold wp_X10_divisor_b13 at h
      refine lv_iload_n hx hb dX10_divisor_13 rfl (lv_at hl 1 rfl) ?_
      refine lv_if_eq (tgt := 30) hx hb dX10_divisor_14 (by decide) (fun c1 => ?_) (fun c1 => ?_)
      · have h := h.1 c1
        refine lv_iload_n hx hb dX10_divisor_30 rfl (lv_at hl 0 rfl) ?_
        exact hret _ _ _ _ _ _ ⟨rfl, h⟩ hw dX10_divisor_31
      · have h := h.2 c1
        refine lv_iload_n hx hb dX10_divisor_17 rfl (lv_at hl 0 rfl) ?_
        refine lv_iload_n hx hb dX10_divisor_18 rfl (lv_at hl 1 rfl) ?_
        refine lv_irem hx hb dX10_divisor_19 h.1 ?_
        have h := h.2
        refine lv_topi (fun v2 ev2 => ?_)
        have h := h v2 ev2
        refine lv_istore (lv' := [(4, .int v2), (2, .int x2), (3, .int x3)]) hx hb dX10_divisor_20 hl (by decide) rfl (fun ls hl => ?_)
        refine lv_iload_n hx hb dX10_divisor_22 rfl (lv_at hl 2 rfl) ?_
        refine lv_istore_n (lv' := [(2, .int x3), (4, .int v2), (3, .int x3)]) hx hb dX10_divisor_23 rfl hl (by decide) rfl (fun ls hl => ?_)
        refine lv_iload hx hb dX10_divisor_24 (lv_at hl 1 rfl) ?_
        refine lv_istore_n (lv' := [(3, .int v2), (2, .int x3), (4, .int v2)]) hx hb dX10_divisor_26 rfl hl (by decide) rfl (fun ls hl => ?_)
        refine lv_goto (tgt := 13) hx hb dX10_divisor_27 (by decide) ?_
        exact ih13 x3 v2 _ _ _ h hw (lv_sub hl [1, 0] rfl)
  have J10 : ∀ (s0 : Int32) (H : Heap) (locs : List Loc) (ls : Array Slot), wp_X10_divisor_b10 p0 p1 Q  s0 → gW D s A w0 H locs → lv_has ls 5 [(1, .int p1)] → W p l e ({ frames := 0, cells := 0, slots := 0, locals := 0 } : Room) s m args below meth c H locs 0 0 Z (F0 m 10 ls [.int s0]) := by
    intro s0 H locs ls h hw hl
    unfold wp_X10_divisor_b10 at h
    refine lv_istore_n (lv' := [(2, .int s0), (1, .int p1)]) hx hb dX10_divisor_10 rfl hl (by decide) rfl (fun ls hl => ?_)
    refine lv_iload_n hx hb dX10_divisor_11 rfl (lv_at hl 1 rfl) ?_
    refine lv_istore_n (lv' := [(3, .int p1), (2, .int s0), (1, .int p1)]) hx hb dX10_divisor_12 rfl hl (by decide) rfl (fun ls hl => ?_)
    obtain ⟨n, h⟩ := h
    exact L13 n s0 p1 _ _ _ h hw (lv_sub hl [1, 0] rfl)
  unfold wp_X10_divisor at h
  refine lv_iload_n hx hb dX10_divisor_0 rfl (lv_at hl 0 rfl) ?_
  refine lv_if_ge (tgt := 9) hx hb dX10_divisor_1 (by decide) (fun c3 => ?_) (fun c3 => ?_)
  · have h := h.1 c3
    refine lv_iload_n hx hb dX10_divisor_9 rfl (lv_at hl 0 rfl) ?_
    exact J10 p0 _ _ _ h hw (lv_sub hl [1] rfl)
  · have h := h.2 c3
    refine lv_iload_n hx hb dX10_divisor_4 rfl (lv_at hl 0 rfl) ?_
    refine lv_ineg hx hb dX10_divisor_5 ?_
    refine lv_goto (tgt := 10) hx hb dX10_divisor_6 (by decide) ?_
    exact J10 ((-p0)) _ _ _ h hw (lv_sub hl [1] rfl)
set_option maxRecDepth 100000 in
set_option maxHeartbeats 4000000 in
theorem c_X10_fraction {l : Launch} {D : va_G} {cI cZ : ClassId} {w0 : va_W} {p0 : Int32} {p1 : Int32} {p2 : Int32} {Q : Int32 → Prop} (h : wp_X10_fraction p0 p1 p2 Q) : CtI l yX10_fraction cX10_fraction 4 (some .int) ({ frames := 1, cells := 0, slots := 0, locals := 24 } : Room) D [(cI, .int), (cZ, .boolean)] [.int p0, .int p1, .int p2] w0 (fun r u => u = w0 ∧ Q r) := by
  refine CtI.of (by decide) rfl (Nat.le_of_ble_eq_true rfl) ?_
  intro p e s m args below meth c A Z E hret ls hl hw
  have E : gE p m c cX10_fraction 4 s args RX10 D [(cI, .int), (cZ, .boolean)] A := E
  have hx := E.1.1
  have hb := E.1.2.1
  have hl : lv_has ls 4 [(0, .int p0), (1, .int p1), (2, .int p2)] := hl
  unfold wp_X10_fraction at h
  refine lv_iload_n hx hb dX10_fraction_0 rfl (lv_at hl 0 rfl) ?_
  refine lv_iload_n hx hb dX10_fraction_1 rfl (lv_at hl 1 rfl) ?_
  refine g_aI E hw (g_rS E hw (c_X10_divisor h _) ym_X10_divisor k_807 ⟨rfl, rfl⟩ ⟨Nat.le_of_ble_eq_true rfl, Nat.le_of_ble_eq_true rfl⟩ rfl hl.1 rfl (Nat.le_of_ble_eq_true rfl) ⟨Nat.zero_le _, Nat.zero_le _⟩ dX10_fraction_2) (fun r1 u H locs hq hw => ?_)
  obtain ⟨hu, h⟩ := hq
  rw [hu] at hw
  refine lv_istore_n (lv' := [(3, .int r1), (0, .int p0), (1, .int p1), (2, .int p2)]) hx hb dX10_fraction_5 rfl hl (by decide) rfl (fun ls hl => ?_)
  refine lv_iload_n hx hb dX10_fraction_6 rfl (lv_at hl 3 rfl) ?_
  refine lv_if_eq (tgt := 16) hx hb dX10_fraction_7 (by decide) (fun c2 => ?_) (fun c2 => ?_)
  · have h := h.1 c2
    refine lv_iload_n hx hb dX10_fraction_16 rfl (lv_at hl 2 rfl) ?_
    refine lv_iload_n hx hb dX10_fraction_17 rfl (lv_at hl 0 rfl) ?_
    refine lv_idiv hx hb dX10_fraction_18 h.1 ?_
    have h := h.2
    exact hret _ _ _ _ _ _ ⟨rfl, h⟩ hw dX10_fraction_19
  · have h := h.2 c2
    refine lv_iload_n hx hb dX10_fraction_10 rfl (lv_at hl 1 rfl) ?_
    refine lv_iload_n hx hb dX10_fraction_11 rfl (lv_at hl 0 rfl) ?_
    refine lv_idiv hx hb dX10_fraction_12 h.1 ?_
    have h := h.2
    refine lv_goto (tgt := 19) hx hb dX10_fraction_13 (by decide) ?_
    exact hret _ _ _ _ _ _ ⟨rfl, h⟩ hw dX10_fraction_19
set_option maxRecDepth 100000 in
set_option maxHeartbeats 4000000 in
theorem c_X10_power {l : Launch} {D : va_G} {cI cZ : ClassId} {w0 : va_W} {p0 : Int32} {p1 : Int32} {Q : Int32 → Prop} (h : wp_X10_power p0 p1 Q) : CtI l yX10_power cX10_power 4 (some .int) ({ frames := 0, cells := 0, slots := 0, locals := 0 } : Room) D [(cI, .int), (cZ, .boolean)] [.int p0, .int p1] w0 (fun r u => u = w0 ∧ Q r) := by
  refine CtI.of (by decide) rfl (Nat.le_of_ble_eq_true rfl) ?_
  intro p e s m args below meth c A Z E hret ls hl hw
  have E : gE p m c cX10_power 4 s args RX10 D [(cI, .int), (cZ, .boolean)] A := E
  have hx := E.1.1
  have hb := E.1.2.1
  have hl : lv_has ls 4 [(0, .int p0), (1, .int p1)] := hl
  have L4 : ∀ (n : Nat) (x2 : Int32) (x3 : Int32) (H : Heap) (locs : List Loc) (ls : Array Slot), wp_X10_power_h4 p0 p1 Q  n x2 x3 → gW D s A w0 H locs → lv_has ls 4 [(0, .int p0), (1, .int p1), (2, .int x2), (3, .int x3)] → W p l e ({ frames := 0, cells := 0, slots := 0, locals := 0 } : Room) s m args below meth c H locs 0 0 Z (F0 m 4 ls []) := by
    intro n
    induction n with
    | zero => intro x2 x3 H locs ls h; exact False.elim h
    | succ n4 ih4 =>
      intro x2 x3 H locs ls h hw hl
      have h : wp_X10_power_b4 p0 p1 Q (wp_X10_power_h4 p0 p1 Q  n4) x2 x3 := h
      unfold wp_X10_power_b4 at h
      refine lv_iload_n hx hb dX10_power_4 rfl (lv_at hl 3 rfl) ?_
      refine lv_iload_n hx hb dX10_power_5 rfl (lv_at hl 1 rfl) ?_
      refine lv_icmp_ge (tgt := 19) hx hb dX10_power_6 (by decide) (fun c1 => ?_) (fun c1 => ?_)
      · have h := h.1 c1
        refine lv_iload_n hx hb dX10_power_19 rfl (lv_at hl 2 rfl) ?_
        exact hret _ _ _ _ _ _ ⟨rfl, h⟩ hw dX10_power_20
      · have h := h.2 c1
        refine lv_iload_n hx hb dX10_power_9 rfl (lv_at hl 2 rfl) ?_
        refine lv_iload_n hx hb dX10_power_10 rfl (lv_at hl 0 rfl) ?_
        refine lv_imul hx hb dX10_power_11 ?_
        refine lv_topi (fun v2 ev2 => ?_)
        have h := h v2 ev2
        refine lv_istore_n (lv' := [(2, .int v2), (0, .int p0), (1, .int p1), (3, .int x3)]) hx hb dX10_power_12 rfl hl (by decide) rfl (fun ls hl => ?_)
        obtain ⟨v3, ev3⟩ : ∃ y : Int32, y = x3 + 1 := ⟨_, rfl⟩
        have h := h v3 ev3
        refine lv_iinc (v := v3) (lv' := [(3, .int v3), (2, .int v2), (0, .int p0), (1, .int p1)]) hx hb dX10_power_13 hl (k := 3) rfl (by rw [ev3]; rfl) (by decide) rfl (fun ls hl => ?_)
        refine lv_goto (tgt := 4) hx hb dX10_power_16 (by decide) ?_
        exact ih4 v2 v3 _ _ _ h hw (lv_sub hl [2, 3, 1, 0] rfl)
  unfold wp_X10_power at h
  refine lv_iconst (v := 1) hx hb dX10_power_0 (by decide) ?_
  refine lv_istore_n (lv' := [(2, .int (1 : Int32)), (0, .int p0), (1, .int p1)]) hx hb dX10_power_1 rfl hl (by decide) rfl (fun ls hl => ?_)
  refine lv_iconst (v := 0) hx hb dX10_power_2 (by decide) ?_
  refine lv_istore_n (lv' := [(3, .int (0 : Int32)), (2, .int (1 : Int32)), (0, .int p0), (1, .int p1)]) hx hb dX10_power_3 rfl hl (by decide) rfl (fun ls hl => ?_)
  obtain ⟨n, h⟩ := h
  exact L4 n (1 : Int32) (0 : Int32) _ _ _ h hw (lv_sub hl [2, 3, 1, 0] rfl)
