theorem ymi_X0_init : mI yX0_init cX0_init 1 0 := ⟨k_135, k_57, k_136, by decide +kernel⟩
theorem ymi_X1_init : mI yX1_init cX1_init 1 0 := ⟨k_115, k_55, k_116, by decide +kernel⟩
theorem ymi_X2_init : mI yX2_init cX2_init 1 0 := ⟨k_88, k_53, k_89, by decide +kernel⟩
theorem ymi_X3_init : mI yX3_init cX3_init 1 0 := ⟨k_81, k_52, k_82, by decide +kernel⟩
theorem ymi_X4_init : mI yX4_init cX4_init 1 0 := ⟨k_123, k_56, k_124, by decide +kernel⟩
theorem ymi_X5_init : mI yX5_init cX5_init 2 1 := ⟨k_141, k_58, k_142, by decide +kernel⟩
theorem ymi_X6_init : mI yX6_init cX6_init 1 0 := ⟨k_155, k_60, k_156, by decide +kernel⟩
theorem ymi_X7_init : mI yX7_init cX7_init 1 0 := ⟨k_105, k_54, k_106, by decide +kernel⟩
theorem ymi_X8_init : mI yX8_init cX8_init 1 0 := ⟨k_73, k_51, k_74, by decide +kernel⟩
theorem ymi_X9_init : mI yX9_init cX9_init 1 0 := ⟨k_66, k_50, k_67, by decide +kernel⟩
theorem ymi_X10_init : mI yX10_init cX10_init 1 0 := ⟨k_584, k_61, k_585, by decide +kernel⟩
set_option maxRecDepth 100000 in
set_option maxHeartbeats 4000000 in
theorem c_X8_init {l : Launch} {D : va_G} {cI cZ : ClassId} {h0 : Nat} {X : va_W} : CtN l yX8_init cX8_init 1 ({ frames := 1, cells := 1, slots := 90, locals := 12 } : Room) D [(cI, .int), (cZ, .boolean)] [.ref h0] ((h0, .inr (8, [.null, .int 0])) :: X) 1 90 (fun u => ∃ a1 : Nat, u = ((a1, .inl (cI, 90, .inl (fun _ => 0))) :: (h0, .inr (8, [.ref a1, .int 0])) :: X)) := by
  refine CtN.of (by decide) (Nat.le_of_ble_eq_true rfl) rfl ?_
  intro p e s m args below meth c A Z E hin hret ls hl hw
  have E : gE p m c cX8_init 1 s args RX8 D [(cI, .int), (cZ, .boolean)] A := E
  have hx := E.1.1
  have hb := E.1.2.1
  have hl : lv_has ls 1 [(0, .ref h0)] := hl
  refine lv_aload_n hx hb dX8_init_0 rfl (lv_at hl 0 rfl) ?_
  refine g_obj E k_75 k_69 k_70 hl.1 dX8_init_1 (Nat.le_of_ble_eq_true rfl) (Nat.le_of_ble_eq_true rfl) ?_
  refine lv_aload_n hx hb dX8_init_4 rfl (lv_at hl 0 rfl) ?_
  refine lv_bipush (v := 90) hx hb dX8_init_5 (by decide) ?_
  refine g_newI (N := 90) E hw k_78 (by decide) (by decide) (by decide) (Nat.le_of_ble_eq_true rfl) (Nat.le_of_ble_eq_true rfl) dX8_init_7 (fun a1 H locs hw => ?_)
  refine g_putF E hw inX8 tyX8 tyX8_ok nmX8 hin 1 rfl rfl 0 (by decide) k_76 rfl rfl (.array .int) (by decide +kernel) rfl rfl (Nat.le_of_ble_eq_true rfl) ((a1, .inl (cI, 90, .inl (fun _ => 0))) :: (h0, .inr (8, [.ref a1, .int 0])) :: X) rfl dX8_init_9 (fun H locs hw => ?_)
  refine lv_aload_n hx hb dX8_init_12 rfl (lv_at hl 0 rfl) ?_
  refine lv_iconst (v := 0) hx hb dX8_init_13 (by decide) ?_
  refine g_put E hw inX8 tyX8 tyX8_ok nmX8 1 rfl rfl 1 (by decide) k_77 rfl .int (by decide +kernel) rfl rfl (Nat.le_of_ble_eq_true rfl) ((a1, .inl (cI, 90, .inl (fun _ => 0))) :: (h0, .inr (8, [.ref a1, .int 0])) :: X) rfl dX8_init_14 (fun H locs hw => ?_)
  exact hret _ _ _ _ _ ⟨a1, rfl⟩ hw dX8_init_17
set_option maxRecDepth 100000 in
set_option maxHeartbeats 4000000 in
theorem c_X3_init {l : Launch} {D : va_G} {cI cZ : ClassId} {h0 : Nat} {X : va_W} : CtN l yX3_init cX3_init 1 ({ frames := 1, cells := 0, slots := 0, locals := 12 } : Room) D [(cI, .int), (cZ, .boolean)] [.ref h0] ((h0, .inr (3, [.int 0, .int 0])) :: X) 0 0 (fun u => u = ((h0, .inr (3, [.int 0, .int (-9)])) :: X)) := by
  refine CtN.of (by decide) (Nat.le_of_ble_eq_true rfl) rfl ?_
  intro p e s m args below meth c A Z E hin hret ls hl hw
  have E : gE p m c cX3_init 1 s args RX3 D [(cI, .int), (cZ, .boolean)] A := E
  have hx := E.1.1
  have hb := E.1.2.1
  have hl : lv_has ls 1 [(0, .ref h0)] := hl
  refine lv_aload_n hx hb dX3_init_0 rfl (lv_at hl 0 rfl) ?_
  refine g_obj E k_83 k_69 k_70 hl.1 dX3_init_1 (Nat.le_of_ble_eq_true rfl) (Nat.le_of_ble_eq_true rfl) ?_
  refine lv_aload_n hx hb dX3_init_4 rfl (lv_at hl 0 rfl) ?_
  refine lv_iconst (v := 0) hx hb dX3_init_5 (by decide) ?_
  refine g_put E hw inX3 tyX3 tyX3_ok nmX3 0 rfl rfl 0 (by decide) k_84 rfl .int (by decide +kernel) rfl rfl (Nat.le_of_ble_eq_true rfl) ((h0, .inr (3, [.int 0, .int 0])) :: X) rfl dX3_init_6 (fun H locs hw => ?_)
  refine lv_aload_n hx hb dX3_init_9 rfl (lv_at hl 0 rfl) ?_
  refine lv_bipush (v := -9) hx hb dX3_init_10 (by decide) ?_
  refine g_put E hw inX3 tyX3 tyX3_ok nmX3 0 rfl rfl 1 (by decide) k_85 rfl .int (by decide +kernel) rfl rfl (Nat.le_of_ble_eq_true rfl) ((h0, .inr (3, [.int 0, .int (-9)])) :: X) rfl dX3_init_12 (fun H locs hw => ?_)
  exact hret _ _ _ _ _ rfl hw dX3_init_15
set_option maxRecDepth 100000 in
set_option maxHeartbeats 4000000 in
theorem c_X2_init {l : Launch} {D : va_G} {cI cZ : ClassId} {h0 : Nat} {X : va_W} : CtN l yX2_init cX2_init 1 ({ frames := 1, cells := 5, slots := 50, locals := 12 } : Room) D [(cI, .int), (cZ, .boolean)] [.ref h0] ((h0, .inr (2, [.int 0, .int 0, .int 0, .int 0, .int 0, .int 0, .int 0, .null, .null, .null, .null, .null])) :: X) 5 50 (fun u => ∃ a1 a2 a3 a4 a5 : Nat, u = ((a5, .inl (cI, 10, .inl (fun _ => 0))) :: (a4, .inl (cI, 10, .inl (fun _ => 0))) :: (a3, .inl (cI, 10, .inl (fun _ => 0))) :: (a2, .inl (cI, 10, .inl (fun _ => 0))) :: (a1, .inl (cI, 10, .inl (fun _ => 0))) :: (h0, .inr (2, [.int 1, .int 1, .int 0, .int 0, .int 0, .int 0, .int 0, .ref a1, .ref a2, .ref a3, .ref a4, .ref a5])) :: X)) := by
  refine CtN.of (by decide) (Nat.le_of_ble_eq_true rfl) rfl ?_
  intro p e s m args below meth c A Z E hin hret ls hl hw
  have E : gE p m c cX2_init 1 s args RX2 D [(cI, .int), (cZ, .boolean)] A := E
  have hx := E.1.1
  have hb := E.1.2.1
  have hl : lv_has ls 1 [(0, .ref h0)] := hl
  refine lv_aload_n hx hb dX2_init_0 rfl (lv_at hl 0 rfl) ?_
  refine g_obj E k_90 k_69 k_70 hl.1 dX2_init_1 (Nat.le_of_ble_eq_true rfl) (Nat.le_of_ble_eq_true rfl) ?_
  refine lv_aload_n hx hb dX2_init_4 rfl (lv_at hl 0 rfl) ?_
  refine lv_iconst (v := 1) hx hb dX2_init_5 (by decide) ?_
  refine g_put E hw inX2 tyX2 tyX2_ok nmX2 0 rfl rfl 0 (by decide) k_91 rfl .int (by decide +kernel) rfl rfl (Nat.le_of_ble_eq_true rfl) ((h0, .inr (2, [.int 1, .int 0, .int 0, .int 0, .int 0, .int 0, .int 0, .null, .null, .null, .null, .null])) :: X) rfl dX2_init_6 (fun H locs hw => ?_)
  refine lv_aload_n hx hb dX2_init_9 rfl (lv_at hl 0 rfl) ?_
  refine lv_iconst (v := 1) hx hb dX2_init_10 (by decide) ?_
  refine g_put E hw inX2 tyX2 tyX2_ok nmX2 0 rfl rfl 1 (by decide) k_92 rfl .int (by decide +kernel) rfl rfl (Nat.le_of_ble_eq_true rfl) ((h0, .inr (2, [.int 1, .int 1, .int 0, .int 0, .int 0, .int 0, .int 0, .null, .null, .null, .null, .null])) :: X) rfl dX2_init_11 (fun H locs hw => ?_)
  refine lv_aload_n hx hb dX2_init_14 rfl (lv_at hl 0 rfl) ?_
  refine lv_iconst (v := 0) hx hb dX2_init_15 (by decide) ?_
  refine g_put E hw inX2 tyX2 tyX2_ok nmX2 0 rfl rfl 2 (by decide) k_93 rfl .int (by decide +kernel) rfl rfl (Nat.le_of_ble_eq_true rfl) ((h0, .inr (2, [.int 1, .int 1, .int 0, .int 0, .int 0, .int 0, .int 0, .null, .null, .null, .null, .null])) :: X) rfl dX2_init_16 (fun H locs hw => ?_)
  refine lv_aload_n hx hb dX2_init_19 rfl (lv_at hl 0 rfl) ?_
  refine lv_iconst (v := 0) hx hb dX2_init_20 (by decide) ?_
  refine g_put E hw inX2 tyX2 tyX2_ok nmX2 0 rfl rfl 3 (by decide) k_94 rfl .int (by decide +kernel) rfl rfl (Nat.le_of_ble_eq_true rfl) ((h0, .inr (2, [.int 1, .int 1, .int 0, .int 0, .int 0, .int 0, .int 0, .null, .null, .null, .null, .null])) :: X) rfl dX2_init_21 (fun H locs hw => ?_)
  refine lv_aload_n hx hb dX2_init_24 rfl (lv_at hl 0 rfl) ?_
  refine lv_iconst (v := 0) hx hb dX2_init_25 (by decide) ?_
  refine g_put E hw inX2 tyX2 tyX2_ok nmX2 0 rfl rfl 4 (by decide) k_95 rfl .int (by decide +kernel) rfl rfl (Nat.le_of_ble_eq_true rfl) ((h0, .inr (2, [.int 1, .int 1, .int 0, .int 0, .int 0, .int 0, .int 0, .null, .null, .null, .null, .null])) :: X) rfl dX2_init_26 (fun H locs hw => ?_)
  refine lv_aload_n hx hb dX2_init_29 rfl (lv_at hl 0 rfl) ?_
  refine lv_iconst (v := 0) hx hb dX2_init_30 (by decide) ?_
  refine g_put E hw inX2 tyX2 tyX2_ok nmX2 0 rfl rfl 5 (by decide) k_96 rfl .int (by decide +kernel) rfl rfl (Nat.le_of_ble_eq_true rfl) ((h0, .inr (2, [.int 1, .int 1, .int 0, .int 0, .int 0, .int 0, .int 0, .null, .null, .null, .null, .null])) :: X) rfl dX2_init_31 (fun H locs hw => ?_)
  refine lv_aload_n hx hb dX2_init_34 rfl (lv_at hl 0 rfl) ?_
  refine lv_iconst (v := 0) hx hb dX2_init_35 (by decide) ?_
  refine g_put E hw inX2 tyX2 tyX2_ok nmX2 0 rfl rfl 6 (by decide) k_97 rfl .int (by decide +kernel) rfl rfl (Nat.le_of_ble_eq_true rfl) ((h0, .inr (2, [.int 1, .int 1, .int 0, .int 0, .int 0, .int 0, .int 0, .null, .null, .null, .null, .null])) :: X) rfl dX2_init_36 (fun H locs hw => ?_)
  refine lv_aload_n hx hb dX2_init_39 rfl (lv_at hl 0 rfl) ?_
  refine lv_bipush (v := 10) hx hb dX2_init_40 (by decide) ?_
  refine g_newI (N := 10) E hw k_78 (by decide) (by decide) (by decide) (Nat.le_of_ble_eq_true rfl) (Nat.le_of_ble_eq_true rfl) dX2_init_42 (fun a1 H locs hw => ?_)
  refine g_putF E hw inX2 tyX2 tyX2_ok nmX2 hin 1 rfl rfl 7 (by decide) k_98 rfl rfl (.array .int) (by decide +kernel) rfl rfl (Nat.le_of_ble_eq_true rfl) ((a1, .inl (cI, 10, .inl (fun _ => 0))) :: (h0, .inr (2, [.int 1, .int 1, .int 0, .int 0, .int 0, .int 0, .int 0, .ref a1, .null, .null, .null, .null])) :: X) rfl dX2_init_44 (fun H locs hw => ?_)
  refine lv_aload_n hx hb dX2_init_47 rfl (lv_at hl 0 rfl) ?_
  refine lv_bipush (v := 10) hx hb dX2_init_48 (by decide) ?_
  refine g_newI (N := 10) E hw k_78 (by decide) (by decide) (by decide) (Nat.le_of_ble_eq_true rfl) (Nat.le_of_ble_eq_true rfl) dX2_init_50 (fun a2 H locs hw => ?_)
  refine g_putF E hw inX2 tyX2 tyX2_ok nmX2 hin 2 rfl rfl 8 (by decide) k_99 rfl rfl (.array .int) (by decide +kernel) rfl rfl (Nat.le_of_ble_eq_true rfl) ((a2, .inl (cI, 10, .inl (fun _ => 0))) :: (a1, .inl (cI, 10, .inl (fun _ => 0))) :: (h0, .inr (2, [.int 1, .int 1, .int 0, .int 0, .int 0, .int 0, .int 0, .ref a1, .ref a2, .null, .null, .null])) :: X) rfl dX2_init_52 (fun H locs hw => ?_)
  refine lv_aload_n hx hb dX2_init_55 rfl (lv_at hl 0 rfl) ?_
  refine lv_bipush (v := 10) hx hb dX2_init_56 (by decide) ?_
  refine g_newI (N := 10) E hw k_78 (by decide) (by decide) (by decide) (Nat.le_of_ble_eq_true rfl) (Nat.le_of_ble_eq_true rfl) dX2_init_58 (fun a3 H locs hw => ?_)
  refine g_putF E hw inX2 tyX2 tyX2_ok nmX2 hin 3 rfl rfl 9 (by decide) k_100 rfl rfl (.array .int) (by decide +kernel) rfl rfl (Nat.le_of_ble_eq_true rfl) ((a3, .inl (cI, 10, .inl (fun _ => 0))) :: (a2, .inl (cI, 10, .inl (fun _ => 0))) :: (a1, .inl (cI, 10, .inl (fun _ => 0))) :: (h0, .inr (2, [.int 1, .int 1, .int 0, .int 0, .int 0, .int 0, .int 0, .ref a1, .ref a2, .ref a3, .null, .null])) :: X) rfl dX2_init_60 (fun H locs hw => ?_)
  refine lv_aload_n hx hb dX2_init_63 rfl (lv_at hl 0 rfl) ?_
  refine lv_bipush (v := 10) hx hb dX2_init_64 (by decide) ?_
  refine g_newI (N := 10) E hw k_78 (by decide) (by decide) (by decide) (Nat.le_of_ble_eq_true rfl) (Nat.le_of_ble_eq_true rfl) dX2_init_66 (fun a4 H locs hw => ?_)
  refine g_putF E hw inX2 tyX2 tyX2_ok nmX2 hin 4 rfl rfl 10 (by decide) k_101 rfl rfl (.array .int) (by decide +kernel) rfl rfl (Nat.le_of_ble_eq_true rfl) ((a4, .inl (cI, 10, .inl (fun _ => 0))) :: (a3, .inl (cI, 10, .inl (fun _ => 0))) :: (a2, .inl (cI, 10, .inl (fun _ => 0))) :: (a1, .inl (cI, 10, .inl (fun _ => 0))) :: (h0, .inr (2, [.int 1, .int 1, .int 0, .int 0, .int 0, .int 0, .int 0, .ref a1, .ref a2, .ref a3, .ref a4, .null])) :: X) rfl dX2_init_68 (fun H locs hw => ?_)
  refine lv_aload_n hx hb dX2_init_71 rfl (lv_at hl 0 rfl) ?_
  refine lv_bipush (v := 10) hx hb dX2_init_72 (by decide) ?_
  refine g_newI (N := 10) E hw k_78 (by decide) (by decide) (by decide) (Nat.le_of_ble_eq_true rfl) (Nat.le_of_ble_eq_true rfl) dX2_init_74 (fun a5 H locs hw => ?_)
  refine g_putF E hw inX2 tyX2 tyX2_ok nmX2 hin 5 rfl rfl 11 (by decide) k_102 rfl rfl (.array .int) (by decide +kernel) rfl rfl (Nat.le_of_ble_eq_true rfl) ((a5, .inl (cI, 10, .inl (fun _ => 0))) :: (a4, .inl (cI, 10, .inl (fun _ => 0))) :: (a3, .inl (cI, 10, .inl (fun _ => 0))) :: (a2, .inl (cI, 10, .inl (fun _ => 0))) :: (a1, .inl (cI, 10, .inl (fun _ => 0))) :: (h0, .inr (2, [.int 1, .int 1, .int 0, .int 0, .int 0, .int 0, .int 0, .ref a1, .ref a2, .ref a3, .ref a4, .ref a5])) :: X) rfl dX2_init_76 (fun H locs hw => ?_)
  exact hret _ _ _ _ _ ⟨a1, a2, a3, a4, a5, rfl⟩ hw dX2_init_79
set_option maxRecDepth 100000 in
set_option maxHeartbeats 4000000 in
theorem c_X7_init {l : Launch} {D : va_G} {cI cZ : ClassId} {h0 : Nat} {X : va_W} : CtN l yX7_init cX7_init 1 ({ frames := 1, cells := 0, slots := 0, locals := 12 } : Room) D [(cI, .int), (cZ, .boolean)] [.ref h0] ((h0, .inr (7, [.int 0, .int 0, .int 0, .int 0, .int 0])) :: X) 0 0 (fun u => u = ((h0, .inr (7, [.int 0, .int 0, .int 0, .int 1, .int 0])) :: X)) := by
  refine CtN.of (by decide) (Nat.le_of_ble_eq_true rfl) rfl ?_
  intro p e s m args below meth c A Z E hin hret ls hl hw
  have E : gE p m c cX7_init 1 s args RX7 D [(cI, .int), (cZ, .boolean)] A := E
  have hx := E.1.1
  have hb := E.1.2.1
  have hl : lv_has ls 1 [(0, .ref h0)] := hl
  refine lv_aload_n hx hb dX7_init_0 rfl (lv_at hl 0 rfl) ?_
  refine g_obj E k_107 k_69 k_70 hl.1 dX7_init_1 (Nat.le_of_ble_eq_true rfl) (Nat.le_of_ble_eq_true rfl) ?_
  refine lv_aload_n hx hb dX7_init_4 rfl (lv_at hl 0 rfl) ?_
  refine lv_iconst (v := 0) hx hb dX7_init_5 (by decide) ?_
  refine g_put E hw inX7 tyX7 tyX7_ok nmX7 0 rfl rfl 0 (by decide) k_108 rfl .int (by decide +kernel) rfl rfl (Nat.le_of_ble_eq_true rfl) ((h0, .inr (7, [.int 0, .int 0, .int 0, .int 0, .int 0])) :: X) rfl dX7_init_6 (fun H locs hw => ?_)
  refine lv_aload_n hx hb dX7_init_9 rfl (lv_at hl 0 rfl) ?_
  refine lv_iconst (v := 0) hx hb dX7_init_10 (by decide) ?_
  refine g_put E hw inX7 tyX7 tyX7_ok nmX7 0 rfl rfl 1 (by decide) k_109 rfl .int (by decide +kernel) rfl rfl (Nat.le_of_ble_eq_true rfl) ((h0, .inr (7, [.int 0, .int 0, .int 0, .int 0, .int 0])) :: X) rfl dX7_init_11 (fun H locs hw => ?_)
  refine lv_aload_n hx hb dX7_init_14 rfl (lv_at hl 0 rfl) ?_
  refine lv_iconst (v := 0) hx hb dX7_init_15 (by decide) ?_
  refine g_put E hw inX7 tyX7 tyX7_ok nmX7 0 rfl rfl 2 (by decide) k_110 rfl .int (by decide +kernel) rfl rfl (Nat.le_of_ble_eq_true rfl) ((h0, .inr (7, [.int 0, .int 0, .int 0, .int 0, .int 0])) :: X) rfl dX7_init_16 (fun H locs hw => ?_)
  refine lv_aload_n hx hb dX7_init_19 rfl (lv_at hl 0 rfl) ?_
  refine lv_iconst (v := 1) hx hb dX7_init_20 (by decide) ?_
  refine g_put E hw inX7 tyX7 tyX7_ok nmX7 0 rfl rfl 3 (by decide) k_111 rfl .int (by decide +kernel) rfl rfl (Nat.le_of_ble_eq_true rfl) ((h0, .inr (7, [.int 0, .int 0, .int 0, .int 1, .int 0])) :: X) rfl dX7_init_21 (fun H locs hw => ?_)
  refine lv_aload_n hx hb dX7_init_24 rfl (lv_at hl 0 rfl) ?_
  refine lv_iconst (v := 0) hx hb dX7_init_25 (by decide) ?_
  refine g_put E hw inX7 tyX7 tyX7_ok nmX7 0 rfl rfl 4 (by decide) k_112 rfl .int (by decide +kernel) rfl rfl (Nat.le_of_ble_eq_true rfl) ((h0, .inr (7, [.int 0, .int 0, .int 0, .int 1, .int 0])) :: X) rfl dX7_init_26 (fun H locs hw => ?_)
  exact hret _ _ _ _ _ rfl hw dX7_init_29
set_option maxRecDepth 100000 in
set_option maxHeartbeats 4000000 in
theorem c_X1_init {l : Launch} {D : va_G} {cI cZ : ClassId} {h0 : Nat} {X : va_W} : CtN l yX1_init cX1_init 1 ({ frames := 1, cells := 0, slots := 0, locals := 12 } : Room) D [(cI, .int), (cZ, .boolean)] [.ref h0] ((h0, .inr (1, [.int 0, .int 0, .int 0])) :: X) 0 0 (fun u => u = ((h0, .inr (1, [.int 0, .int 0, .int 0])) :: X)) := by
  refine CtN.of (by decide) (Nat.le_of_ble_eq_true rfl) rfl ?_
  intro p e s m args below meth c A Z E hin hret ls hl hw
  have E : gE p m c cX1_init 1 s args RX1 D [(cI, .int), (cZ, .boolean)] A := E
  have hx := E.1.1
  have hb := E.1.2.1
  have hl : lv_has ls 1 [(0, .ref h0)] := hl
  refine lv_aload_n hx hb dX1_init_0 rfl (lv_at hl 0 rfl) ?_
  refine g_obj E k_117 k_69 k_70 hl.1 dX1_init_1 (Nat.le_of_ble_eq_true rfl) (Nat.le_of_ble_eq_true rfl) ?_
  refine lv_aload_n hx hb dX1_init_4 rfl (lv_at hl 0 rfl) ?_
  refine lv_iconst (v := 0) hx hb dX1_init_5 (by decide) ?_
  refine g_put E hw inX1 tyX1 tyX1_ok nmX1 0 rfl rfl 0 (by decide) k_118 rfl .int (by decide +kernel) rfl rfl (Nat.le_of_ble_eq_true rfl) ((h0, .inr (1, [.int 0, .int 0, .int 0])) :: X) rfl dX1_init_6 (fun H locs hw => ?_)
  refine lv_aload_n hx hb dX1_init_9 rfl (lv_at hl 0 rfl) ?_
  refine lv_iconst (v := 0) hx hb dX1_init_10 (by decide) ?_
  refine g_put E hw inX1 tyX1 tyX1_ok nmX1 0 rfl rfl 1 (by decide) k_119 rfl .int (by decide +kernel) rfl rfl (Nat.le_of_ble_eq_true rfl) ((h0, .inr (1, [.int 0, .int 0, .int 0])) :: X) rfl dX1_init_11 (fun H locs hw => ?_)
  refine lv_aload_n hx hb dX1_init_14 rfl (lv_at hl 0 rfl) ?_
  refine lv_iconst (v := 0) hx hb dX1_init_15 (by decide) ?_
  refine g_put E hw inX1 tyX1 tyX1_ok nmX1 0 rfl rfl 2 (by decide) k_120 rfl .int (by decide +kernel) rfl rfl (Nat.le_of_ble_eq_true rfl) ((h0, .inr (1, [.int 0, .int 0, .int 0])) :: X) rfl dX1_init_16 (fun H locs hw => ?_)
  exact hret _ _ _ _ _ rfl hw dX1_init_19
set_option maxRecDepth 100000 in
set_option maxHeartbeats 4000000 in
theorem c_X4_init {l : Launch} {D : va_G} {cI cZ : ClassId} {h0 : Nat} {X : va_W} : CtN l yX4_init cX4_init 1 ({ frames := 1, cells := 3, slots := 12, locals := 12 } : Room) D [(cI, .int), (cZ, .boolean)] [.ref h0] ((h0, .inr (4, [.null, .null, .null, .int 0, .int 0, .int 0, .int 0])) :: X) 3 12 (fun u => ∃ a1 a2 a3 : Nat, u = ((a3, .inl (cI, 4, .inl (fun _ => 0))) :: (a2, .inl (cI, 4, .inl (fun _ => 0))) :: (a1, .inl (cI, 4, .inl (fun _ => 0))) :: (h0, .inr (4, [.ref a1, .ref a2, .ref a3, .int 0, .int 1, .int 0, .int 0])) :: X)) := by
  refine CtN.of (by decide) (Nat.le_of_ble_eq_true rfl) rfl ?_
  intro p e s m args below meth c A Z E hin hret ls hl hw
  have E : gE p m c cX4_init 1 s args RX4 D [(cI, .int), (cZ, .boolean)] A := E
  have hx := E.1.1
  have hb := E.1.2.1
  have hl : lv_has ls 1 [(0, .ref h0)] := hl
  refine lv_aload_n hx hb dX4_init_0 rfl (lv_at hl 0 rfl) ?_
  refine g_obj E k_125 k_69 k_70 hl.1 dX4_init_1 (Nat.le_of_ble_eq_true rfl) (Nat.le_of_ble_eq_true rfl) ?_
  refine lv_aload_n hx hb dX4_init_4 rfl (lv_at hl 0 rfl) ?_
  refine lv_iconst (v := 4) hx hb dX4_init_5 (by decide) ?_
  refine g_newI (N := 4) E hw k_78 (by decide) (by decide) (by decide) (Nat.le_of_ble_eq_true rfl) (Nat.le_of_ble_eq_true rfl) dX4_init_6 (fun a1 H locs hw => ?_)
  refine g_putF E hw inX4 tyX4 tyX4_ok nmX4 hin 1 rfl rfl 0 (by decide) k_126 rfl rfl (.array .int) (by decide +kernel) rfl rfl (Nat.le_of_ble_eq_true rfl) ((a1, .inl (cI, 4, .inl (fun _ => 0))) :: (h0, .inr (4, [.ref a1, .null, .null, .int 0, .int 0, .int 0, .int 0])) :: X) rfl dX4_init_8 (fun H locs hw => ?_)
  refine lv_aload_n hx hb dX4_init_11 rfl (lv_at hl 0 rfl) ?_
  refine lv_iconst (v := 4) hx hb dX4_init_12 (by decide) ?_
  refine g_newI (N := 4) E hw k_78 (by decide) (by decide) (by decide) (Nat.le_of_ble_eq_true rfl) (Nat.le_of_ble_eq_true rfl) dX4_init_13 (fun a2 H locs hw => ?_)
  refine g_putF E hw inX4 tyX4 tyX4_ok nmX4 hin 2 rfl rfl 1 (by decide) k_127 rfl rfl (.array .int) (by decide +kernel) rfl rfl (Nat.le_of_ble_eq_true rfl) ((a2, .inl (cI, 4, .inl (fun _ => 0))) :: (a1, .inl (cI, 4, .inl (fun _ => 0))) :: (h0, .inr (4, [.ref a1, .ref a2, .null, .int 0, .int 0, .int 0, .int 0])) :: X) rfl dX4_init_15 (fun H locs hw => ?_)
  refine lv_aload_n hx hb dX4_init_18 rfl (lv_at hl 0 rfl) ?_
  refine lv_iconst (v := 4) hx hb dX4_init_19 (by decide) ?_
  refine g_newI (N := 4) E hw k_78 (by decide) (by decide) (by decide) (Nat.le_of_ble_eq_true rfl) (Nat.le_of_ble_eq_true rfl) dX4_init_20 (fun a3 H locs hw => ?_)
  refine g_putF E hw inX4 tyX4 tyX4_ok nmX4 hin 3 rfl rfl 2 (by decide) k_128 rfl rfl (.array .int) (by decide +kernel) rfl rfl (Nat.le_of_ble_eq_true rfl) ((a3, .inl (cI, 4, .inl (fun _ => 0))) :: (a2, .inl (cI, 4, .inl (fun _ => 0))) :: (a1, .inl (cI, 4, .inl (fun _ => 0))) :: (h0, .inr (4, [.ref a1, .ref a2, .ref a3, .int 0, .int 0, .int 0, .int 0])) :: X) rfl dX4_init_22 (fun H locs hw => ?_)
  refine lv_aload_n hx hb dX4_init_25 rfl (lv_at hl 0 rfl) ?_
  refine lv_iconst (v := 0) hx hb dX4_init_26 (by decide) ?_
  refine g_put E hw inX4 tyX4 tyX4_ok nmX4 3 rfl rfl 3 (by decide) k_129 rfl .int (by decide +kernel) rfl rfl (Nat.le_of_ble_eq_true rfl) ((a3, .inl (cI, 4, .inl (fun _ => 0))) :: (a2, .inl (cI, 4, .inl (fun _ => 0))) :: (a1, .inl (cI, 4, .inl (fun _ => 0))) :: (h0, .inr (4, [.ref a1, .ref a2, .ref a3, .int 0, .int 0, .int 0, .int 0])) :: X) rfl dX4_init_27 (fun H locs hw => ?_)
  refine lv_aload_n hx hb dX4_init_30 rfl (lv_at hl 0 rfl) ?_
  refine lv_iconst (v := 1) hx hb dX4_init_31 (by decide) ?_
  refine g_put E hw inX4 tyX4 tyX4_ok nmX4 3 rfl rfl 4 (by decide) k_130 rfl .int (by decide +kernel) rfl rfl (Nat.le_of_ble_eq_true rfl) ((a3, .inl (cI, 4, .inl (fun _ => 0))) :: (a2, .inl (cI, 4, .inl (fun _ => 0))) :: (a1, .inl (cI, 4, .inl (fun _ => 0))) :: (h0, .inr (4, [.ref a1, .ref a2, .ref a3, .int 0, .int 1, .int 0, .int 0])) :: X) rfl dX4_init_32 (fun H locs hw => ?_)
  refine lv_aload_n hx hb dX4_init_35 rfl (lv_at hl 0 rfl) ?_
  refine lv_iconst (v := 0) hx hb dX4_init_36 (by decide) ?_
  refine g_put E hw inX4 tyX4 tyX4_ok nmX4 3 rfl rfl 5 (by decide) k_131 rfl .int (by decide +kernel) rfl rfl (Nat.le_of_ble_eq_true rfl) ((a3, .inl (cI, 4, .inl (fun _ => 0))) :: (a2, .inl (cI, 4, .inl (fun _ => 0))) :: (a1, .inl (cI, 4, .inl (fun _ => 0))) :: (h0, .inr (4, [.ref a1, .ref a2, .ref a3, .int 0, .int 1, .int 0, .int 0])) :: X) rfl dX4_init_37 (fun H locs hw => ?_)
  refine lv_aload_n hx hb dX4_init_40 rfl (lv_at hl 0 rfl) ?_
  refine lv_iconst (v := 0) hx hb dX4_init_41 (by decide) ?_
  refine g_put E hw inX4 tyX4 tyX4_ok nmX4 3 rfl rfl 6 (by decide) k_132 rfl .int (by decide +kernel) rfl rfl (Nat.le_of_ble_eq_true rfl) ((a3, .inl (cI, 4, .inl (fun _ => 0))) :: (a2, .inl (cI, 4, .inl (fun _ => 0))) :: (a1, .inl (cI, 4, .inl (fun _ => 0))) :: (h0, .inr (4, [.ref a1, .ref a2, .ref a3, .int 0, .int 1, .int 0, .int 0])) :: X) rfl dX4_init_42 (fun H locs hw => ?_)
  exact hret _ _ _ _ _ ⟨a1, a2, a3, rfl⟩ hw dX4_init_45
set_option maxRecDepth 100000 in
set_option maxHeartbeats 4000000 in
theorem c_X5_init_14 {l : Launch} {D : va_G} {cI cZ : ClassId} {h0 : Nat} {X : va_W} : CtN l yX5_init cX5_init 2 ({ frames := 1, cells := 1, slots := 70, locals := 21 } : Room) D [(cI, .int), (cZ, .boolean)] [.ref h0, .int 14] ((h0, .inr (5, [.null])) :: X) 1 70 (fun u => ∃ a1 : Nat, u = ((a1, .inl (cI, 70, .inl (fun _ => 0))) :: (h0, .inr (5, [.ref a1])) :: X)) := by
  refine CtN.of (by decide) (Nat.le_of_ble_eq_true rfl) rfl ?_
  intro p e s m args below meth c A Z E hin hret ls hl hw
  have E : gE p m c cX5_init 2 s args RX5 D [(cI, .int), (cZ, .boolean)] A := E
  have hx := E.1.1
  have hb := E.1.2.1
  have hl : lv_has ls 2 [(0, .ref h0), (1, .int 14)] := hl
  refine lv_aload_n hx hb dX5_init_0 rfl (lv_at hl 0 rfl) ?_
  refine g_obj E k_143 k_69 k_70 hl.1 dX5_init_1 (Nat.le_of_ble_eq_true rfl) (Nat.le_of_ble_eq_true rfl) ?_
  refine lv_aload_n hx hb dX5_init_4 rfl (lv_at hl 0 rfl) ?_
  refine lv_iload_n hx hb dX5_init_5 rfl (lv_at hl 1 rfl) ?_
  refine lv_iconst (v := 0) hx hb dX5_init_6 (by decide) ?_
  refine va_mmax hx hb (E.1.2.2.1.trans hl.1.symm) E.1.2.2.2.1 (E.1.2.2.2.2 _ k_144) (E.1.2.2.2.2 _ k_145) (E.1.2.2.2.2 _ k_59) (E.1.2.2.2.2 _ k_146) (Nat.le_of_ble_eq_true rfl) (Nat.le_of_ble_eq_true rfl) (Nat.zero_le _) (Nat.zero_le _) dX5_init_7 ?_
  refine lv_iconst (v := 5) hx hb dX5_init_10 (by decide) ?_
  refine lv_imul hx hb dX5_init_11 ?_
  refine g_newI (N := 70) E hw k_78 (by decide) (by decide) (by decide) (Nat.le_of_ble_eq_true rfl) (Nat.le_of_ble_eq_true rfl) dX5_init_12 (fun a1 H locs hw => ?_)
  refine g_putF E hw inX5 tyX5 tyX5_ok nmX5 hin 1 rfl rfl 0 (by decide) k_147 rfl rfl (.array .int) (by decide +kernel) rfl rfl (Nat.le_of_ble_eq_true rfl) ((a1, .inl (cI, 70, .inl (fun _ => 0))) :: (h0, .inr (5, [.ref a1])) :: X) rfl dX5_init_14 (fun H locs hw => ?_)
  exact hret _ _ _ _ _ ⟨a1, rfl⟩ hw dX5_init_17
set_option maxRecDepth 100000 in
set_option maxHeartbeats 4000000 in
theorem c_X0_init {l : Launch} {D : va_G} {cI cZ : ClassId} {h0 : Nat} {X : va_W} : CtN l yX0_init cX0_init 1 ({ frames := 2, cells := 2, slots := 71, locals := 42 } : Room) D [(cI, .int), (cZ, .boolean)] [.ref h0] ((h0, .inr (0, [.null, .int 0, .int 0])) :: X) 2 71 (fun u => ∃ a1 a2 : Nat, u = ((a2, .inl (cI, 70, .inl (fun _ => 0))) :: (a1, .inr (5, [.ref a2])) :: (h0, .inr (0, [.ref a1, .int 0, .int 0])) :: X)) := by
  refine CtN.of (by decide) (Nat.le_of_ble_eq_true rfl) rfl ?_
  intro p e s m args below meth c A Z E hin hret ls hl hw
  have E : gE p m c cX0_init 1 s args RX0 D [(cI, .int), (cZ, .boolean)] A := E
  have hx := E.1.1
  have hb := E.1.2.1
  have hl : lv_has ls 1 [(0, .ref h0)] := hl
  refine lv_aload_n hx hb dX0_init_0 rfl (lv_at hl 0 rfl) ?_
  refine g_obj E k_137 k_69 k_70 hl.1 dX0_init_1 (Nat.le_of_ble_eq_true rfl) (Nat.le_of_ble_eq_true rfl) ?_
  refine lv_aload_n hx hb dX0_init_4 rfl (lv_at hl 0 rfl) ?_
  refine g_new (fs := [.null]) (ci := 5) E hw inX5 tyX5 tyX5_ok k_138 k_139 k_58 rfl rfl (Nat.le_of_ble_eq_true rfl) (Nat.le_of_ble_eq_true rfl) dX0_init_5 (fun a1 H locs hw => ?_)
  refine lv_dup hx hb dX0_init_8 rfl ?_
  refine lv_bipush (v := 14) hx hb dX0_init_9 (by decide) ?_
  refine g_aN E hw (g_rI E hw (c_X5_init_14 _) ymi_X5_init k_140 rfl ⟨rfl, rfl⟩ ⟨Nat.le_of_ble_eq_true rfl, Nat.le_of_ble_eq_true rfl⟩ rfl hl.1 rfl (Nat.le_of_ble_eq_true rfl) ⟨Nat.le_of_ble_eq_true rfl, Nat.le_of_ble_eq_true rfl⟩ dX0_init_11) (fun u H locs hq hw => ?_)
  obtain ⟨a2, hu⟩ := hq
  rw [hu] at hw
  refine g_putF E hw inX0 tyX0 tyX0_ok nmX0 hin 2 rfl rfl 0 (by decide) k_148 rfl rfl (.object "ChipSlots$Shelf") (by decide +kernel) rfl rfl (Nat.le_of_ble_eq_true rfl) ((a2, .inl (cI, 70, .inl (fun _ => 0))) :: (a1, .inr (5, [.ref a2])) :: (h0, .inr (0, [.ref a1, .int 0, .int 0])) :: X) rfl dX0_init_14 (fun H locs hw => ?_)
  refine lv_aload_n hx hb dX0_init_17 rfl (lv_at hl 0 rfl) ?_
  refine lv_iconst (v := 0) hx hb dX0_init_18 (by decide) ?_
  refine g_put E hw inX0 tyX0 tyX0_ok nmX0 2 rfl rfl 1 (by decide) k_149 rfl .int (by decide +kernel) rfl rfl (Nat.le_of_ble_eq_true rfl) ((a2, .inl (cI, 70, .inl (fun _ => 0))) :: (a1, .inr (5, [.ref a2])) :: (h0, .inr (0, [.ref a1, .int 0, .int 0])) :: X) rfl dX0_init_19 (fun H locs hw => ?_)
  refine lv_aload_n hx hb dX0_init_22 rfl (lv_at hl 0 rfl) ?_
  refine lv_iconst (v := 0) hx hb dX0_init_23 (by decide) ?_
  refine g_put E hw inX0 tyX0 tyX0_ok nmX0 2 rfl rfl 2 (by decide) k_150 rfl .int (by decide +kernel) rfl rfl (Nat.le_of_ble_eq_true rfl) ((a2, .inl (cI, 70, .inl (fun _ => 0))) :: (a1, .inr (5, [.ref a2])) :: (h0, .inr (0, [.ref a1, .int 0, .int 0])) :: X) rfl dX0_init_24 (fun H locs hw => ?_)
  exact hret _ _ _ _ _ ⟨a1, a2, rfl⟩ hw dX0_init_27
set_option maxRecDepth 100000 in
set_option maxHeartbeats 4000000 in
theorem c_X5_init_2 {l : Launch} {D : va_G} {cI cZ : ClassId} {h0 : Nat} {X : va_W} : CtN l yX5_init cX5_init 2 ({ frames := 1, cells := 1, slots := 10, locals := 21 } : Room) D [(cI, .int), (cZ, .boolean)] [.ref h0, .int 2] ((h0, .inr (5, [.null])) :: X) 1 10 (fun u => ∃ a1 : Nat, u = ((a1, .inl (cI, 10, .inl (fun _ => 0))) :: (h0, .inr (5, [.ref a1])) :: X)) := by
  refine CtN.of (by decide) (Nat.le_of_ble_eq_true rfl) rfl ?_
  intro p e s m args below meth c A Z E hin hret ls hl hw
  have E : gE p m c cX5_init 2 s args RX5 D [(cI, .int), (cZ, .boolean)] A := E
  have hx := E.1.1
  have hb := E.1.2.1
  have hl : lv_has ls 2 [(0, .ref h0), (1, .int 2)] := hl
  refine lv_aload_n hx hb dX5_init_0 rfl (lv_at hl 0 rfl) ?_
  refine g_obj E k_143 k_69 k_70 hl.1 dX5_init_1 (Nat.le_of_ble_eq_true rfl) (Nat.le_of_ble_eq_true rfl) ?_
  refine lv_aload_n hx hb dX5_init_4 rfl (lv_at hl 0 rfl) ?_
  refine lv_iload_n hx hb dX5_init_5 rfl (lv_at hl 1 rfl) ?_
  refine lv_iconst (v := 0) hx hb dX5_init_6 (by decide) ?_
  refine va_mmax hx hb (E.1.2.2.1.trans hl.1.symm) E.1.2.2.2.1 (E.1.2.2.2.2 _ k_144) (E.1.2.2.2.2 _ k_145) (E.1.2.2.2.2 _ k_59) (E.1.2.2.2.2 _ k_146) (Nat.le_of_ble_eq_true rfl) (Nat.le_of_ble_eq_true rfl) (Nat.zero_le _) (Nat.zero_le _) dX5_init_7 ?_
  refine lv_iconst (v := 5) hx hb dX5_init_10 (by decide) ?_
  refine lv_imul hx hb dX5_init_11 ?_
  refine g_newI (N := 10) E hw k_78 (by decide) (by decide) (by decide) (Nat.le_of_ble_eq_true rfl) (Nat.le_of_ble_eq_true rfl) dX5_init_12 (fun a1 H locs hw => ?_)
  refine g_putF E hw inX5 tyX5 tyX5_ok nmX5 hin 1 rfl rfl 0 (by decide) k_147 rfl rfl (.array .int) (by decide +kernel) rfl rfl (Nat.le_of_ble_eq_true rfl) ((a1, .inl (cI, 10, .inl (fun _ => 0))) :: (h0, .inr (5, [.ref a1])) :: X) rfl dX5_init_14 (fun H locs hw => ?_)
  exact hret _ _ _ _ _ ⟨a1, rfl⟩ hw dX5_init_17
set_option maxRecDepth 100000 in
set_option maxHeartbeats 4000000 in
theorem c_X6_init {l : Launch} {D : va_G} {cI cZ : ClassId} {h0 : Nat} {X : va_W} : CtN l yX6_init cX6_init 1 ({ frames := 1, cells := 4, slots := 24, locals := 12 } : Room) D [(cI, .int), (cZ, .boolean)] [.ref h0] ((h0, .inr (6, [.null, .null, .null, .null, .int 0])) :: X) 4 24 (fun u => ∃ a1 a2 a3 a4 : Nat, u = ((a4, .inl (cI, 6, .inl (fun _ => 0))) :: (a3, .inl (cI, 6, .inl (fun _ => 0))) :: (a2, .inl (cI, 6, .inl (fun _ => 0))) :: (a1, .inl (cI, 6, .inl (fun _ => 0))) :: (h0, .inr (6, [.ref a1, .ref a2, .ref a3, .ref a4, .int 0])) :: X)) := by
  refine CtN.of (by decide) (Nat.le_of_ble_eq_true rfl) rfl ?_
  intro p e s m args below meth c A Z E hin hret ls hl hw
  have E : gE p m c cX6_init 1 s args RX6 D [(cI, .int), (cZ, .boolean)] A := E
  have hx := E.1.1
  have hb := E.1.2.1
  have hl : lv_has ls 1 [(0, .ref h0)] := hl
  refine lv_aload_n hx hb dX6_init_0 rfl (lv_at hl 0 rfl) ?_
  refine g_obj E k_157 k_69 k_70 hl.1 dX6_init_1 (Nat.le_of_ble_eq_true rfl) (Nat.le_of_ble_eq_true rfl) ?_
  refine lv_aload_n hx hb dX6_init_4 rfl (lv_at hl 0 rfl) ?_
  refine lv_bipush (v := 6) hx hb dX6_init_5 (by decide) ?_
  refine g_newI (N := 6) E hw k_78 (by decide) (by decide) (by decide) (Nat.le_of_ble_eq_true rfl) (Nat.le_of_ble_eq_true rfl) dX6_init_7 (fun a1 H locs hw => ?_)
  refine g_putF E hw inX6 tyX6 tyX6_ok nmX6 hin 1 rfl rfl 0 (by decide) k_158 rfl rfl (.array .int) (by decide +kernel) rfl rfl (Nat.le_of_ble_eq_true rfl) ((a1, .inl (cI, 6, .inl (fun _ => 0))) :: (h0, .inr (6, [.ref a1, .null, .null, .null, .int 0])) :: X) rfl dX6_init_9 (fun H locs hw => ?_)
  refine lv_aload_n hx hb dX6_init_12 rfl (lv_at hl 0 rfl) ?_
  refine lv_bipush (v := 6) hx hb dX6_init_13 (by decide) ?_
  refine g_newI (N := 6) E hw k_78 (by decide) (by decide) (by decide) (Nat.le_of_ble_eq_true rfl) (Nat.le_of_ble_eq_true rfl) dX6_init_15 (fun a2 H locs hw => ?_)
  refine g_putF E hw inX6 tyX6 tyX6_ok nmX6 hin 2 rfl rfl 1 (by decide) k_159 rfl rfl (.array .int) (by decide +kernel) rfl rfl (Nat.le_of_ble_eq_true rfl) ((a2, .inl (cI, 6, .inl (fun _ => 0))) :: (a1, .inl (cI, 6, .inl (fun _ => 0))) :: (h0, .inr (6, [.ref a1, .ref a2, .null, .null, .int 0])) :: X) rfl dX6_init_17 (fun H locs hw => ?_)
  refine lv_aload_n hx hb dX6_init_20 rfl (lv_at hl 0 rfl) ?_
  refine lv_bipush (v := 6) hx hb dX6_init_21 (by decide) ?_
  refine g_newI (N := 6) E hw k_78 (by decide) (by decide) (by decide) (Nat.le_of_ble_eq_true rfl) (Nat.le_of_ble_eq_true rfl) dX6_init_23 (fun a3 H locs hw => ?_)
  refine g_putF E hw inX6 tyX6 tyX6_ok nmX6 hin 3 rfl rfl 2 (by decide) k_160 rfl rfl (.array .int) (by decide +kernel) rfl rfl (Nat.le_of_ble_eq_true rfl) ((a3, .inl (cI, 6, .inl (fun _ => 0))) :: (a2, .inl (cI, 6, .inl (fun _ => 0))) :: (a1, .inl (cI, 6, .inl (fun _ => 0))) :: (h0, .inr (6, [.ref a1, .ref a2, .ref a3, .null, .int 0])) :: X) rfl dX6_init_25 (fun H locs hw => ?_)
  refine lv_aload_n hx hb dX6_init_28 rfl (lv_at hl 0 rfl) ?_
  refine lv_bipush (v := 6) hx hb dX6_init_29 (by decide) ?_
  refine g_newI (N := 6) E hw k_78 (by decide) (by decide) (by decide) (Nat.le_of_ble_eq_true rfl) (Nat.le_of_ble_eq_true rfl) dX6_init_31 (fun a4 H locs hw => ?_)
  refine g_putF E hw inX6 tyX6 tyX6_ok nmX6 hin 4 rfl rfl 3 (by decide) k_161 rfl rfl (.array .int) (by decide +kernel) rfl rfl (Nat.le_of_ble_eq_true rfl) ((a4, .inl (cI, 6, .inl (fun _ => 0))) :: (a3, .inl (cI, 6, .inl (fun _ => 0))) :: (a2, .inl (cI, 6, .inl (fun _ => 0))) :: (a1, .inl (cI, 6, .inl (fun _ => 0))) :: (h0, .inr (6, [.ref a1, .ref a2, .ref a3, .ref a4, .int 0])) :: X) rfl dX6_init_33 (fun H locs hw => ?_)
  refine lv_aload_n hx hb dX6_init_36 rfl (lv_at hl 0 rfl) ?_
  refine lv_iconst (v := 0) hx hb dX6_init_37 (by decide) ?_
  refine g_put E hw inX6 tyX6 tyX6_ok nmX6 4 rfl rfl 4 (by decide) k_162 rfl .int (by decide +kernel) rfl rfl (Nat.le_of_ble_eq_true rfl) ((a4, .inl (cI, 6, .inl (fun _ => 0))) :: (a3, .inl (cI, 6, .inl (fun _ => 0))) :: (a2, .inl (cI, 6, .inl (fun _ => 0))) :: (a1, .inl (cI, 6, .inl (fun _ => 0))) :: (h0, .inr (6, [.ref a1, .ref a2, .ref a3, .ref a4, .int 0])) :: X) rfl dX6_init_38 (fun H locs hw => ?_)
  exact hret _ _ _ _ _ ⟨a1, a2, a3, a4, rfl⟩ hw dX6_init_41
set_option maxRecDepth 100000 in
set_option maxHeartbeats 4000000 in
theorem c_X9_init {l : Launch} {D : va_G} {cI cZ : ClassId} {h0 : Nat} {X : va_W} : CtN l yX9_init cX9_init 1 ({ frames := 3, cells := 33, slots := 485, locals := 62 } : Room) D [(cI, .int), (cZ, .boolean)] [.ref h0] ((h0, .inr (9, [.null, .null, .null, .null, .null, .null, .null, .null, .null, .null, .int 0, .null, .null, .long 0])) :: X) 33 485 (fun u => ∃ ad : Nat → Nat, ad 33 = h0 ∧ u = wC ad cI cZ (0) (fun _ => 0) (0) (fun _ => 0) (0) (0) ((-9)) (1) (1) (0) (0) (0) (0) (0) (fun _ => 0) (fun _ => 0) (fun _ => 0) (fun _ => 0) (fun _ => 0) (1) (1) (0) (0) (0) (0) (0) (fun _ => 0) (fun _ => 0) (fun _ => 0) (fun _ => 0) (fun _ => 0) (0) (0) (0) (1) (0) (0) (0) (0) (1) (0) (0) (0) (0) (fun _ => 0) (fun _ => 0) (fun _ => 0) (0) (1) (0) (0) (0) (0) (fun _ => 0) (fun _ => 0) (fun _ => 0) (fun _ => 0) (fun _ => 0) (fun _ => 0) (0) X) := by
  refine CtN.of (by decide) (Nat.le_of_ble_eq_true rfl) rfl ?_
  intro p e s m args below meth c A Z E hin hret ls hl hw
  have E : gE p m c cX9_init 1 s args RX9 D [(cI, .int), (cZ, .boolean)] A := E
  have hx := E.1.1
  have hb := E.1.2.1
  have hl : lv_has ls 1 [(0, .ref h0)] := hl
  refine lv_aload_n hx hb dX9_init_0 rfl (lv_at hl 0 rfl) ?_
  refine g_obj E k_68 k_69 k_70 hl.1 dX9_init_1 (Nat.le_of_ble_eq_true rfl) (Nat.le_of_ble_eq_true rfl) ?_
  refine lv_aload_n hx hb dX9_init_4 rfl (lv_at hl 0 rfl) ?_
  refine g_new (fs := [.null, .int 0]) (ci := 8) E hw inX8 tyX8 tyX8_ok k_71 k_72 k_51 rfl rfl (Nat.le_of_ble_eq_true rfl) (Nat.le_of_ble_eq_true rfl) dX9_init_5 (fun a1 H locs hw => ?_)
  refine lv_dup hx hb dX9_init_8 rfl ?_
  refine g_aN E hw (g_rIN E hw (c_X8_init _) ymi_X8_init km_0 rfl ⟨rfl, rfl⟩ ⟨Nat.le_of_ble_eq_true rfl, Nat.le_of_ble_eq_true rfl⟩ rfl hl.1 rfl (Nat.le_of_ble_eq_true rfl) ⟨Nat.le_of_ble_eq_true rfl, Nat.le_of_ble_eq_true rfl⟩ dX9_init_9) (fun u H locs hq hw => ?_)
  obtain ⟨a2, hu⟩ := hq
  rw [hu] at hw
  refine g_putF E hw inX9 tyX9 tyX9_ok nmX9 hin 2 rfl rfl 0 (by decide) k_163 rfl rfl (.object "ChipSlots$Text") (by decide +kernel) rfl rfl (Nat.le_of_ble_eq_true rfl) ((a2, .inl (cI, 90, .inl (fun _ => 0))) :: (a1, .inr (8, [.ref a2, .int 0])) :: (h0, .inr (9, [.ref a1, .null, .null, .null, .null, .null, .null, .null, .null, .null, .int 0, .null, .null, .long 0])) :: X) rfl dX9_init_12 (fun H locs hw => ?_)
  refine lv_aload_n hx hb dX9_init_15 rfl (lv_at hl 0 rfl) ?_
  refine g_new (fs := [.int 0, .int 0]) (ci := 3) E hw inX3 tyX3 tyX3_ok k_79 k_80 k_52 rfl rfl (Nat.le_of_ble_eq_true rfl) (Nat.le_of_ble_eq_true rfl) dX9_init_16 (fun a3 H locs hw => ?_)
  refine lv_dup hx hb dX9_init_19 rfl ?_
  refine g_aN E hw (g_rIN E hw (c_X3_init _) ymi_X3_init km_1 rfl ⟨rfl, rfl⟩ ⟨Nat.le_of_ble_eq_true rfl, Nat.le_of_ble_eq_true rfl⟩ rfl hl.1 rfl (Nat.le_of_ble_eq_true rfl) ⟨Nat.le_of_ble_eq_true rfl, Nat.le_of_ble_eq_true rfl⟩ dX9_init_20) (fun u H locs hq hw => ?_)
  have hu := hq
  rw [hu] at hw
  refine g_putF E hw inX9 tyX9 tyX9_ok nmX9 hin 3 rfl rfl 1 (by decide) k_164 rfl rfl (.object "ChipSlots$Reader") (by decide +kernel) rfl rfl (Nat.le_of_ble_eq_true rfl) ((a3, .inr (3, [.int 0, .int (-9)])) :: (a2, .inl (cI, 90, .inl (fun _ => 0))) :: (a1, .inr (8, [.ref a2, .int 0])) :: (h0, .inr (9, [.ref a1, .ref a3, .null, .null, .null, .null, .null, .null, .null, .null, .int 0, .null, .null, .long 0])) :: X) rfl dX9_init_23 (fun H locs hw => ?_)
  refine lv_aload_n hx hb dX9_init_26 rfl (lv_at hl 0 rfl) ?_
  refine g_new (fs := [.int 0, .int 0, .int 0, .int 0, .int 0, .int 0, .int 0, .null, .null, .null, .null, .null]) (ci := 2) E hw inX2 tyX2 tyX2_ok k_86 k_87 k_53 rfl rfl (Nat.le_of_ble_eq_true rfl) (Nat.le_of_ble_eq_true rfl) dX9_init_27 (fun a4 H locs hw => ?_)
  refine lv_dup hx hb dX9_init_30 rfl ?_
  refine g_aN E hw (g_rIN E hw (c_X2_init _) ymi_X2_init km_2 rfl ⟨rfl, rfl⟩ ⟨Nat.le_of_ble_eq_true rfl, Nat.le_of_ble_eq_true rfl⟩ rfl hl.1 rfl (Nat.le_of_ble_eq_true rfl) ⟨Nat.le_of_ble_eq_true rfl, Nat.le_of_ble_eq_true rfl⟩ dX9_init_31) (fun u H locs hq hw => ?_)
  obtain ⟨a9, a8, a7, a6, a5, hu⟩ := hq
  rw [hu] at hw
  refine g_put E hw inX9 tyX9 tyX9_ok nmX9 9 rfl rfl 2 (by decide) k_165 rfl (.object "ChipSlots$Plan") (by decide +kernel) rfl rfl (Nat.le_of_ble_eq_true rfl) ((a5, .inl (cI, 10, .inl (fun _ => 0))) :: (a6, .inl (cI, 10, .inl (fun _ => 0))) :: (a7, .inl (cI, 10, .inl (fun _ => 0))) :: (a8, .inl (cI, 10, .inl (fun _ => 0))) :: (a9, .inl (cI, 10, .inl (fun _ => 0))) :: (a4, .inr (2, [.int 1, .int 1, .int 0, .int 0, .int 0, .int 0, .int 0, .ref a9, .ref a8, .ref a7, .ref a6, .ref a5])) :: (a3, .inr (3, [.int 0, .int (-9)])) :: (a2, .inl (cI, 90, .inl (fun _ => 0))) :: (a1, .inr (8, [.ref a2, .int 0])) :: (h0, .inr (9, [.ref a1, .ref a3, .ref a4, .null, .null, .null, .null, .null, .null, .null, .int 0, .null, .null, .long 0])) :: X) rfl dX9_init_34 (fun H locs hw => ?_)
  refine lv_aload_n hx hb dX9_init_37 rfl (lv_at hl 0 rfl) ?_
  refine g_new (fs := [.int 0, .int 0, .int 0, .int 0, .int 0, .int 0, .int 0, .null, .null, .null, .null, .null]) (ci := 2) E hw inX2 tyX2 tyX2_ok k_86 k_87 k_53 rfl rfl (Nat.le_of_ble_eq_true rfl) (Nat.le_of_ble_eq_true rfl) dX9_init_38 (fun a10 H locs hw => ?_)
  refine lv_dup hx hb dX9_init_41 rfl ?_
  refine g_aN E hw (g_rIN E hw (c_X2_init _) ymi_X2_init km_2 rfl ⟨rfl, rfl⟩ ⟨Nat.le_of_ble_eq_true rfl, Nat.le_of_ble_eq_true rfl⟩ rfl hl.1 rfl (Nat.le_of_ble_eq_true rfl) ⟨Nat.le_of_ble_eq_true rfl, Nat.le_of_ble_eq_true rfl⟩ dX9_init_42) (fun u H locs hq hw => ?_)
  obtain ⟨a15, a14, a13, a12, a11, hu⟩ := hq
  rw [hu] at hw
  refine g_put E hw inX9 tyX9 tyX9_ok nmX9 15 rfl rfl 3 (by decide) k_166 rfl (.object "ChipSlots$Plan") (by decide +kernel) rfl rfl (Nat.le_of_ble_eq_true rfl) ((a11, .inl (cI, 10, .inl (fun _ => 0))) :: (a12, .inl (cI, 10, .inl (fun _ => 0))) :: (a13, .inl (cI, 10, .inl (fun _ => 0))) :: (a14, .inl (cI, 10, .inl (fun _ => 0))) :: (a15, .inl (cI, 10, .inl (fun _ => 0))) :: (a10, .inr (2, [.int 1, .int 1, .int 0, .int 0, .int 0, .int 0, .int 0, .ref a15, .ref a14, .ref a13, .ref a12, .ref a11])) :: (a5, .inl (cI, 10, .inl (fun _ => 0))) :: (a6, .inl (cI, 10, .inl (fun _ => 0))) :: (a7, .inl (cI, 10, .inl (fun _ => 0))) :: (a8, .inl (cI, 10, .inl (fun _ => 0))) :: (a9, .inl (cI, 10, .inl (fun _ => 0))) :: (a4, .inr (2, [.int 1, .int 1, .int 0, .int 0, .int 0, .int 0, .int 0, .ref a9, .ref a8, .ref a7, .ref a6, .ref a5])) :: (a3, .inr (3, [.int 0, .int (-9)])) :: (a2, .inl (cI, 90, .inl (fun _ => 0))) :: (a1, .inr (8, [.ref a2, .int 0])) :: (h0, .inr (9, [.ref a1, .ref a3, .ref a4, .ref a10, .null, .null, .null, .null, .null, .null, .int 0, .null, .null, .long 0])) :: X) rfl dX9_init_45 (fun H locs hw => ?_)
  refine lv_aload_n hx hb dX9_init_48 rfl (lv_at hl 0 rfl) ?_
  refine g_new (fs := [.int 0, .int 0, .int 0, .int 0, .int 0]) (ci := 7) E hw inX7 tyX7 tyX7_ok k_103 k_104 k_54 rfl rfl (Nat.le_of_ble_eq_true rfl) (Nat.le_of_ble_eq_true rfl) dX9_init_49 (fun a16 H locs hw => ?_)
  refine lv_dup hx hb dX9_init_52 rfl ?_
  refine g_aN E hw (g_rIN E hw (c_X7_init _) ymi_X7_init km_3 rfl ⟨rfl, rfl⟩ ⟨Nat.le_of_ble_eq_true rfl, Nat.le_of_ble_eq_true rfl⟩ rfl hl.1 rfl (Nat.le_of_ble_eq_true rfl) ⟨Nat.le_of_ble_eq_true rfl, Nat.le_of_ble_eq_true rfl⟩ dX9_init_53) (fun u H locs hq hw => ?_)
  have hu := hq
  rw [hu] at hw
  refine g_putF E hw inX9 tyX9 tyX9_ok nmX9 hin 16 rfl rfl 4 (by decide) k_167 rfl rfl (.object "ChipSlots$State") (by decide +kernel) rfl rfl (Nat.le_of_ble_eq_true rfl) ((a16, .inr (7, [.int 0, .int 0, .int 0, .int 1, .int 0])) :: (a11, .inl (cI, 10, .inl (fun _ => 0))) :: (a12, .inl (cI, 10, .inl (fun _ => 0))) :: (a13, .inl (cI, 10, .inl (fun _ => 0))) :: (a14, .inl (cI, 10, .inl (fun _ => 0))) :: (a15, .inl (cI, 10, .inl (fun _ => 0))) :: (a10, .inr (2, [.int 1, .int 1, .int 0, .int 0, .int 0, .int 0, .int 0, .ref a15, .ref a14, .ref a13, .ref a12, .ref a11])) :: (a5, .inl (cI, 10, .inl (fun _ => 0))) :: (a6, .inl (cI, 10, .inl (fun _ => 0))) :: (a7, .inl (cI, 10, .inl (fun _ => 0))) :: (a8, .inl (cI, 10, .inl (fun _ => 0))) :: (a9, .inl (cI, 10, .inl (fun _ => 0))) :: (a4, .inr (2, [.int 1, .int 1, .int 0, .int 0, .int 0, .int 0, .int 0, .ref a9, .ref a8, .ref a7, .ref a6, .ref a5])) :: (a3, .inr (3, [.int 0, .int (-9)])) :: (a2, .inl (cI, 90, .inl (fun _ => 0))) :: (a1, .inr (8, [.ref a2, .int 0])) :: (h0, .inr (9, [.ref a1, .ref a3, .ref a4, .ref a10, .ref a16, .null, .null, .null, .null, .null, .int 0, .null, .null, .long 0])) :: X) rfl dX9_init_56 (fun H locs hw => ?_)
  refine lv_aload_n hx hb dX9_init_59 rfl (lv_at hl 0 rfl) ?_
  refine g_new (fs := [.int 0, .int 0, .int 0, .int 0, .int 0]) (ci := 7) E hw inX7 tyX7 tyX7_ok k_103 k_104 k_54 rfl rfl (Nat.le_of_ble_eq_true rfl) (Nat.le_of_ble_eq_true rfl) dX9_init_60 (fun a17 H locs hw => ?_)
  refine lv_dup hx hb dX9_init_63 rfl ?_
  refine g_aN E hw (g_rIN E hw (c_X7_init _) ymi_X7_init km_3 rfl ⟨rfl, rfl⟩ ⟨Nat.le_of_ble_eq_true rfl, Nat.le_of_ble_eq_true rfl⟩ rfl hl.1 rfl (Nat.le_of_ble_eq_true rfl) ⟨Nat.le_of_ble_eq_true rfl, Nat.le_of_ble_eq_true rfl⟩ dX9_init_64) (fun u H locs hq hw => ?_)
  have hu := hq
  rw [hu] at hw
  refine g_putF E hw inX9 tyX9 tyX9_ok nmX9 hin 17 rfl rfl 5 (by decide) k_168 rfl rfl (.object "ChipSlots$State") (by decide +kernel) rfl rfl (Nat.le_of_ble_eq_true rfl) ((a17, .inr (7, [.int 0, .int 0, .int 0, .int 1, .int 0])) :: (a16, .inr (7, [.int 0, .int 0, .int 0, .int 1, .int 0])) :: (a11, .inl (cI, 10, .inl (fun _ => 0))) :: (a12, .inl (cI, 10, .inl (fun _ => 0))) :: (a13, .inl (cI, 10, .inl (fun _ => 0))) :: (a14, .inl (cI, 10, .inl (fun _ => 0))) :: (a15, .inl (cI, 10, .inl (fun _ => 0))) :: (a10, .inr (2, [.int 1, .int 1, .int 0, .int 0, .int 0, .int 0, .int 0, .ref a15, .ref a14, .ref a13, .ref a12, .ref a11])) :: (a5, .inl (cI, 10, .inl (fun _ => 0))) :: (a6, .inl (cI, 10, .inl (fun _ => 0))) :: (a7, .inl (cI, 10, .inl (fun _ => 0))) :: (a8, .inl (cI, 10, .inl (fun _ => 0))) :: (a9, .inl (cI, 10, .inl (fun _ => 0))) :: (a4, .inr (2, [.int 1, .int 1, .int 0, .int 0, .int 0, .int 0, .int 0, .ref a9, .ref a8, .ref a7, .ref a6, .ref a5])) :: (a3, .inr (3, [.int 0, .int (-9)])) :: (a2, .inl (cI, 90, .inl (fun _ => 0))) :: (a1, .inr (8, [.ref a2, .int 0])) :: (h0, .inr (9, [.ref a1, .ref a3, .ref a4, .ref a10, .ref a16, .ref a17, .null, .null, .null, .null, .int 0, .null, .null, .long 0])) :: X) rfl dX9_init_67 (fun H locs hw => ?_)
  refine lv_aload_n hx hb dX9_init_70 rfl (lv_at hl 0 rfl) ?_
  refine g_new (fs := [.int 0, .int 0, .int 0]) (ci := 1) E hw inX1 tyX1 tyX1_ok k_113 k_114 k_55 rfl rfl (Nat.le_of_ble_eq_true rfl) (Nat.le_of_ble_eq_true rfl) dX9_init_71 (fun a18 H locs hw => ?_)
  refine lv_dup hx hb dX9_init_74 rfl ?_
  refine g_aN E hw (g_rIN E hw (c_X1_init _) ymi_X1_init km_4 rfl ⟨rfl, rfl⟩ ⟨Nat.le_of_ble_eq_true rfl, Nat.le_of_ble_eq_true rfl⟩ rfl hl.1 rfl (Nat.le_of_ble_eq_true rfl) ⟨Nat.le_of_ble_eq_true rfl, Nat.le_of_ble_eq_true rfl⟩ dX9_init_75) (fun u H locs hq hw => ?_)
  have hu := hq
  rw [hu] at hw
  refine g_putF E hw inX9 tyX9 tyX9_ok nmX9 hin 18 rfl rfl 6 (by decide) k_169 rfl rfl (.object "ChipSlots$Logic") (by decide +kernel) rfl rfl (Nat.le_of_ble_eq_true rfl) ((a18, .inr (1, [.int 0, .int 0, .int 0])) :: (a17, .inr (7, [.int 0, .int 0, .int 0, .int 1, .int 0])) :: (a16, .inr (7, [.int 0, .int 0, .int 0, .int 1, .int 0])) :: (a11, .inl (cI, 10, .inl (fun _ => 0))) :: (a12, .inl (cI, 10, .inl (fun _ => 0))) :: (a13, .inl (cI, 10, .inl (fun _ => 0))) :: (a14, .inl (cI, 10, .inl (fun _ => 0))) :: (a15, .inl (cI, 10, .inl (fun _ => 0))) :: (a10, .inr (2, [.int 1, .int 1, .int 0, .int 0, .int 0, .int 0, .int 0, .ref a15, .ref a14, .ref a13, .ref a12, .ref a11])) :: (a5, .inl (cI, 10, .inl (fun _ => 0))) :: (a6, .inl (cI, 10, .inl (fun _ => 0))) :: (a7, .inl (cI, 10, .inl (fun _ => 0))) :: (a8, .inl (cI, 10, .inl (fun _ => 0))) :: (a9, .inl (cI, 10, .inl (fun _ => 0))) :: (a4, .inr (2, [.int 1, .int 1, .int 0, .int 0, .int 0, .int 0, .int 0, .ref a9, .ref a8, .ref a7, .ref a6, .ref a5])) :: (a3, .inr (3, [.int 0, .int (-9)])) :: (a2, .inl (cI, 90, .inl (fun _ => 0))) :: (a1, .inr (8, [.ref a2, .int 0])) :: (h0, .inr (9, [.ref a1, .ref a3, .ref a4, .ref a10, .ref a16, .ref a17, .ref a18, .null, .null, .null, .int 0, .null, .null, .long 0])) :: X) rfl dX9_init_78 (fun H locs hw => ?_)
  refine lv_aload_n hx hb dX9_init_81 rfl (lv_at hl 0 rfl) ?_
  refine g_new (fs := [.null, .null, .null, .int 0, .int 0, .int 0, .int 0]) (ci := 4) E hw inX4 tyX4 tyX4_ok k_121 k_122 k_56 rfl rfl (Nat.le_of_ble_eq_true rfl) (Nat.le_of_ble_eq_true rfl) dX9_init_82 (fun a19 H locs hw => ?_)
  refine lv_dup hx hb dX9_init_85 rfl ?_
  refine g_aN E hw (g_rIN E hw (c_X4_init _) ymi_X4_init km_5 rfl ⟨rfl, rfl⟩ ⟨Nat.le_of_ble_eq_true rfl, Nat.le_of_ble_eq_true rfl⟩ rfl hl.1 rfl (Nat.le_of_ble_eq_true rfl) ⟨Nat.le_of_ble_eq_true rfl, Nat.le_of_ble_eq_true rfl⟩ dX9_init_86) (fun u H locs hq hw => ?_)
  obtain ⟨a22, a21, a20, hu⟩ := hq
  rw [hu] at hw
  refine g_putF E hw inX9 tyX9 tyX9_ok nmX9 hin 22 rfl rfl 7 (by decide) k_170 rfl rfl (.object "ChipSlots$Schedule") (by decide +kernel) rfl rfl (Nat.le_of_ble_eq_true rfl) ((a20, .inl (cI, 4, .inl (fun _ => 0))) :: (a21, .inl (cI, 4, .inl (fun _ => 0))) :: (a22, .inl (cI, 4, .inl (fun _ => 0))) :: (a19, .inr (4, [.ref a22, .ref a21, .ref a20, .int 0, .int 1, .int 0, .int 0])) :: (a18, .inr (1, [.int 0, .int 0, .int 0])) :: (a17, .inr (7, [.int 0, .int 0, .int 0, .int 1, .int 0])) :: (a16, .inr (7, [.int 0, .int 0, .int 0, .int 1, .int 0])) :: (a11, .inl (cI, 10, .inl (fun _ => 0))) :: (a12, .inl (cI, 10, .inl (fun _ => 0))) :: (a13, .inl (cI, 10, .inl (fun _ => 0))) :: (a14, .inl (cI, 10, .inl (fun _ => 0))) :: (a15, .inl (cI, 10, .inl (fun _ => 0))) :: (a10, .inr (2, [.int 1, .int 1, .int 0, .int 0, .int 0, .int 0, .int 0, .ref a15, .ref a14, .ref a13, .ref a12, .ref a11])) :: (a5, .inl (cI, 10, .inl (fun _ => 0))) :: (a6, .inl (cI, 10, .inl (fun _ => 0))) :: (a7, .inl (cI, 10, .inl (fun _ => 0))) :: (a8, .inl (cI, 10, .inl (fun _ => 0))) :: (a9, .inl (cI, 10, .inl (fun _ => 0))) :: (a4, .inr (2, [.int 1, .int 1, .int 0, .int 0, .int 0, .int 0, .int 0, .ref a9, .ref a8, .ref a7, .ref a6, .ref a5])) :: (a3, .inr (3, [.int 0, .int (-9)])) :: (a2, .inl (cI, 90, .inl (fun _ => 0))) :: (a1, .inr (8, [.ref a2, .int 0])) :: (h0, .inr (9, [.ref a1, .ref a3, .ref a4, .ref a10, .ref a16, .ref a17, .ref a18, .ref a19, .null, .null, .int 0, .null, .null, .long 0])) :: X) rfl dX9_init_89 (fun H locs hw => ?_)
  refine lv_aload_n hx hb dX9_init_92 rfl (lv_at hl 0 rfl) ?_
  refine g_new (fs := [.null, .int 0, .int 0]) (ci := 0) E hw inX0 tyX0 tyX0_ok k_133 k_134 k_57 rfl rfl (Nat.le_of_ble_eq_true rfl) (Nat.le_of_ble_eq_true rfl) dX9_init_93 (fun a23 H locs hw => ?_)
  refine lv_dup hx hb dX9_init_96 rfl ?_
  refine g_aN E hw (g_rIN E hw (c_X0_init _) ymi_X0_init km_6 rfl ⟨rfl, rfl⟩ ⟨Nat.le_of_ble_eq_true rfl, Nat.le_of_ble_eq_true rfl⟩ rfl hl.1 rfl (Nat.le_of_ble_eq_true rfl) ⟨Nat.le_of_ble_eq_true rfl, Nat.le_of_ble_eq_true rfl⟩ dX9_init_97) (fun u H locs hq hw => ?_)
  obtain ⟨a25, a24, hu⟩ := hq
  rw [hu] at hw
  refine g_putF E hw inX9 tyX9 tyX9_ok nmX9 hin 25 rfl rfl 8 (by decide) k_171 rfl rfl (.object "ChipSlots$History") (by decide +kernel) rfl rfl (Nat.le_of_ble_eq_true rfl) ((a24, .inl (cI, 70, .inl (fun _ => 0))) :: (a25, .inr (5, [.ref a24])) :: (a23, .inr (0, [.ref a25, .int 0, .int 0])) :: (a20, .inl (cI, 4, .inl (fun _ => 0))) :: (a21, .inl (cI, 4, .inl (fun _ => 0))) :: (a22, .inl (cI, 4, .inl (fun _ => 0))) :: (a19, .inr (4, [.ref a22, .ref a21, .ref a20, .int 0, .int 1, .int 0, .int 0])) :: (a18, .inr (1, [.int 0, .int 0, .int 0])) :: (a17, .inr (7, [.int 0, .int 0, .int 0, .int 1, .int 0])) :: (a16, .inr (7, [.int 0, .int 0, .int 0, .int 1, .int 0])) :: (a11, .inl (cI, 10, .inl (fun _ => 0))) :: (a12, .inl (cI, 10, .inl (fun _ => 0))) :: (a13, .inl (cI, 10, .inl (fun _ => 0))) :: (a14, .inl (cI, 10, .inl (fun _ => 0))) :: (a15, .inl (cI, 10, .inl (fun _ => 0))) :: (a10, .inr (2, [.int 1, .int 1, .int 0, .int 0, .int 0, .int 0, .int 0, .ref a15, .ref a14, .ref a13, .ref a12, .ref a11])) :: (a5, .inl (cI, 10, .inl (fun _ => 0))) :: (a6, .inl (cI, 10, .inl (fun _ => 0))) :: (a7, .inl (cI, 10, .inl (fun _ => 0))) :: (a8, .inl (cI, 10, .inl (fun _ => 0))) :: (a9, .inl (cI, 10, .inl (fun _ => 0))) :: (a4, .inr (2, [.int 1, .int 1, .int 0, .int 0, .int 0, .int 0, .int 0, .ref a9, .ref a8, .ref a7, .ref a6, .ref a5])) :: (a3, .inr (3, [.int 0, .int (-9)])) :: (a2, .inl (cI, 90, .inl (fun _ => 0))) :: (a1, .inr (8, [.ref a2, .int 0])) :: (h0, .inr (9, [.ref a1, .ref a3, .ref a4, .ref a10, .ref a16, .ref a17, .ref a18, .ref a19, .ref a23, .null, .int 0, .null, .null, .long 0])) :: X) rfl dX9_init_100 (fun H locs hw => ?_)
  refine lv_aload_n hx hb dX9_init_103 rfl (lv_at hl 0 rfl) ?_
  refine g_new (fs := [.null]) (ci := 5) E hw inX5 tyX5 tyX5_ok k_151 k_139 k_58 rfl rfl (Nat.le_of_ble_eq_true rfl) (Nat.le_of_ble_eq_true rfl) dX9_init_104 (fun a26 H locs hw => ?_)
  refine lv_dup hx hb dX9_init_107 rfl ?_
  refine lv_iconst (v := 2) hx hb dX9_init_108 (by decide) ?_
  refine g_aN E hw (g_rI E hw (c_X5_init_2 _) ymi_X5_init k_152 rfl ⟨rfl, rfl⟩ ⟨Nat.le_of_ble_eq_true rfl, Nat.le_of_ble_eq_true rfl⟩ rfl hl.1 rfl (Nat.le_of_ble_eq_true rfl) ⟨Nat.le_of_ble_eq_true rfl, Nat.le_of_ble_eq_true rfl⟩ dX9_init_109) (fun u H locs hq hw => ?_)
  obtain ⟨a27, hu⟩ := hq
  rw [hu] at hw
  refine g_putF E hw inX9 tyX9 tyX9_ok nmX9 hin 27 rfl rfl 9 (by decide) k_172 rfl rfl (.object "ChipSlots$Shelf") (by decide +kernel) rfl rfl (Nat.le_of_ble_eq_true rfl) ((a27, .inl (cI, 10, .inl (fun _ => 0))) :: (a26, .inr (5, [.ref a27])) :: (a24, .inl (cI, 70, .inl (fun _ => 0))) :: (a25, .inr (5, [.ref a24])) :: (a23, .inr (0, [.ref a25, .int 0, .int 0])) :: (a20, .inl (cI, 4, .inl (fun _ => 0))) :: (a21, .inl (cI, 4, .inl (fun _ => 0))) :: (a22, .inl (cI, 4, .inl (fun _ => 0))) :: (a19, .inr (4, [.ref a22, .ref a21, .ref a20, .int 0, .int 1, .int 0, .int 0])) :: (a18, .inr (1, [.int 0, .int 0, .int 0])) :: (a17, .inr (7, [.int 0, .int 0, .int 0, .int 1, .int 0])) :: (a16, .inr (7, [.int 0, .int 0, .int 0, .int 1, .int 0])) :: (a11, .inl (cI, 10, .inl (fun _ => 0))) :: (a12, .inl (cI, 10, .inl (fun _ => 0))) :: (a13, .inl (cI, 10, .inl (fun _ => 0))) :: (a14, .inl (cI, 10, .inl (fun _ => 0))) :: (a15, .inl (cI, 10, .inl (fun _ => 0))) :: (a10, .inr (2, [.int 1, .int 1, .int 0, .int 0, .int 0, .int 0, .int 0, .ref a15, .ref a14, .ref a13, .ref a12, .ref a11])) :: (a5, .inl (cI, 10, .inl (fun _ => 0))) :: (a6, .inl (cI, 10, .inl (fun _ => 0))) :: (a7, .inl (cI, 10, .inl (fun _ => 0))) :: (a8, .inl (cI, 10, .inl (fun _ => 0))) :: (a9, .inl (cI, 10, .inl (fun _ => 0))) :: (a4, .inr (2, [.int 1, .int 1, .int 0, .int 0, .int 0, .int 0, .int 0, .ref a9, .ref a8, .ref a7, .ref a6, .ref a5])) :: (a3, .inr (3, [.int 0, .int (-9)])) :: (a2, .inl (cI, 90, .inl (fun _ => 0))) :: (a1, .inr (8, [.ref a2, .int 0])) :: (h0, .inr (9, [.ref a1, .ref a3, .ref a4, .ref a10, .ref a16, .ref a17, .ref a18, .ref a19, .ref a23, .ref a26, .int 0, .null, .null, .long 0])) :: X) rfl dX9_init_112 (fun H locs hw => ?_)
  refine lv_aload_n hx hb dX9_init_115 rfl (lv_at hl 0 rfl) ?_
  refine lv_iconst (v := 0) hx hb dX9_init_116 (by decide) ?_
  refine g_put E hw inX9 tyX9 tyX9_ok nmX9 27 rfl rfl 10 (by decide) k_173 rfl .int (by decide +kernel) rfl rfl (Nat.le_of_ble_eq_true rfl) ((a27, .inl (cI, 10, .inl (fun _ => 0))) :: (a26, .inr (5, [.ref a27])) :: (a24, .inl (cI, 70, .inl (fun _ => 0))) :: (a25, .inr (5, [.ref a24])) :: (a23, .inr (0, [.ref a25, .int 0, .int 0])) :: (a20, .inl (cI, 4, .inl (fun _ => 0))) :: (a21, .inl (cI, 4, .inl (fun _ => 0))) :: (a22, .inl (cI, 4, .inl (fun _ => 0))) :: (a19, .inr (4, [.ref a22, .ref a21, .ref a20, .int 0, .int 1, .int 0, .int 0])) :: (a18, .inr (1, [.int 0, .int 0, .int 0])) :: (a17, .inr (7, [.int 0, .int 0, .int 0, .int 1, .int 0])) :: (a16, .inr (7, [.int 0, .int 0, .int 0, .int 1, .int 0])) :: (a11, .inl (cI, 10, .inl (fun _ => 0))) :: (a12, .inl (cI, 10, .inl (fun _ => 0))) :: (a13, .inl (cI, 10, .inl (fun _ => 0))) :: (a14, .inl (cI, 10, .inl (fun _ => 0))) :: (a15, .inl (cI, 10, .inl (fun _ => 0))) :: (a10, .inr (2, [.int 1, .int 1, .int 0, .int 0, .int 0, .int 0, .int 0, .ref a15, .ref a14, .ref a13, .ref a12, .ref a11])) :: (a5, .inl (cI, 10, .inl (fun _ => 0))) :: (a6, .inl (cI, 10, .inl (fun _ => 0))) :: (a7, .inl (cI, 10, .inl (fun _ => 0))) :: (a8, .inl (cI, 10, .inl (fun _ => 0))) :: (a9, .inl (cI, 10, .inl (fun _ => 0))) :: (a4, .inr (2, [.int 1, .int 1, .int 0, .int 0, .int 0, .int 0, .int 0, .ref a9, .ref a8, .ref a7, .ref a6, .ref a5])) :: (a3, .inr (3, [.int 0, .int (-9)])) :: (a2, .inl (cI, 90, .inl (fun _ => 0))) :: (a1, .inr (8, [.ref a2, .int 0])) :: (h0, .inr (9, [.ref a1, .ref a3, .ref a4, .ref a10, .ref a16, .ref a17, .ref a18, .ref a19, .ref a23, .ref a26, .int 0, .null, .null, .long 0])) :: X) rfl dX9_init_117 (fun H locs hw => ?_)
  refine lv_aload_n hx hb dX9_init_120 rfl (lv_at hl 0 rfl) ?_
  refine g_new (fs := [.null, .null, .null, .null, .int 0]) (ci := 6) E hw inX6 tyX6 tyX6_ok k_153 k_154 k_60 rfl rfl (Nat.le_of_ble_eq_true rfl) (Nat.le_of_ble_eq_true rfl) dX9_init_121 (fun a28 H locs hw => ?_)
  refine lv_dup hx hb dX9_init_124 rfl ?_
  refine g_aN E hw (g_rIN E hw (c_X6_init _) ymi_X6_init km_7 rfl ⟨rfl, rfl⟩ ⟨Nat.le_of_ble_eq_true rfl, Nat.le_of_ble_eq_true rfl⟩ rfl hl.1 rfl (Nat.le_of_ble_eq_true rfl) ⟨Nat.le_of_ble_eq_true rfl, Nat.le_of_ble_eq_true rfl⟩ dX9_init_125) (fun u H locs hq hw => ?_)
  obtain ⟨a32, a31, a30, a29, hu⟩ := hq
  rw [hu] at hw
  refine g_putF E hw inX9 tyX9 tyX9_ok nmX9 hin 32 rfl rfl 11 (by decide) k_174 rfl rfl (.object "ChipSlots$Sightings") (by decide +kernel) rfl rfl (Nat.le_of_ble_eq_true rfl) ((a29, .inl (cI, 6, .inl (fun _ => 0))) :: (a30, .inl (cI, 6, .inl (fun _ => 0))) :: (a31, .inl (cI, 6, .inl (fun _ => 0))) :: (a32, .inl (cI, 6, .inl (fun _ => 0))) :: (a28, .inr (6, [.ref a32, .ref a31, .ref a30, .ref a29, .int 0])) :: (a27, .inl (cI, 10, .inl (fun _ => 0))) :: (a26, .inr (5, [.ref a27])) :: (a24, .inl (cI, 70, .inl (fun _ => 0))) :: (a25, .inr (5, [.ref a24])) :: (a23, .inr (0, [.ref a25, .int 0, .int 0])) :: (a20, .inl (cI, 4, .inl (fun _ => 0))) :: (a21, .inl (cI, 4, .inl (fun _ => 0))) :: (a22, .inl (cI, 4, .inl (fun _ => 0))) :: (a19, .inr (4, [.ref a22, .ref a21, .ref a20, .int 0, .int 1, .int 0, .int 0])) :: (a18, .inr (1, [.int 0, .int 0, .int 0])) :: (a17, .inr (7, [.int 0, .int 0, .int 0, .int 1, .int 0])) :: (a16, .inr (7, [.int 0, .int 0, .int 0, .int 1, .int 0])) :: (a11, .inl (cI, 10, .inl (fun _ => 0))) :: (a12, .inl (cI, 10, .inl (fun _ => 0))) :: (a13, .inl (cI, 10, .inl (fun _ => 0))) :: (a14, .inl (cI, 10, .inl (fun _ => 0))) :: (a15, .inl (cI, 10, .inl (fun _ => 0))) :: (a10, .inr (2, [.int 1, .int 1, .int 0, .int 0, .int 0, .int 0, .int 0, .ref a15, .ref a14, .ref a13, .ref a12, .ref a11])) :: (a5, .inl (cI, 10, .inl (fun _ => 0))) :: (a6, .inl (cI, 10, .inl (fun _ => 0))) :: (a7, .inl (cI, 10, .inl (fun _ => 0))) :: (a8, .inl (cI, 10, .inl (fun _ => 0))) :: (a9, .inl (cI, 10, .inl (fun _ => 0))) :: (a4, .inr (2, [.int 1, .int 1, .int 0, .int 0, .int 0, .int 0, .int 0, .ref a9, .ref a8, .ref a7, .ref a6, .ref a5])) :: (a3, .inr (3, [.int 0, .int (-9)])) :: (a2, .inl (cI, 90, .inl (fun _ => 0))) :: (a1, .inr (8, [.ref a2, .int 0])) :: (h0, .inr (9, [.ref a1, .ref a3, .ref a4, .ref a10, .ref a16, .ref a17, .ref a18, .ref a19, .ref a23, .ref a26, .int 0, .ref a28, .null, .long 0])) :: X) rfl dX9_init_128 (fun H locs hw => ?_)
  refine lv_aload_n hx hb dX9_init_131 rfl (lv_at hl 0 rfl) ?_
  refine lv_bipush (v := 121) hx hb dX9_init_132 (by decide) ?_
  refine g_newI (N := 121) E hw k_78 (by decide) (by decide) (by decide) (Nat.le_of_ble_eq_true rfl) (Nat.le_of_ble_eq_true rfl) dX9_init_134 (fun a33 H locs hw => ?_)
  refine g_putF E hw inX9 tyX9 tyX9_ok nmX9 hin 33 rfl rfl 12 (by decide) k_175 rfl rfl (.array .int) (by decide +kernel) rfl rfl (Nat.le_of_ble_eq_true rfl) ((a33, .inl (cI, 121, .inl (fun _ => 0))) :: (a29, .inl (cI, 6, .inl (fun _ => 0))) :: (a30, .inl (cI, 6, .inl (fun _ => 0))) :: (a31, .inl (cI, 6, .inl (fun _ => 0))) :: (a32, .inl (cI, 6, .inl (fun _ => 0))) :: (a28, .inr (6, [.ref a32, .ref a31, .ref a30, .ref a29, .int 0])) :: (a27, .inl (cI, 10, .inl (fun _ => 0))) :: (a26, .inr (5, [.ref a27])) :: (a24, .inl (cI, 70, .inl (fun _ => 0))) :: (a25, .inr (5, [.ref a24])) :: (a23, .inr (0, [.ref a25, .int 0, .int 0])) :: (a20, .inl (cI, 4, .inl (fun _ => 0))) :: (a21, .inl (cI, 4, .inl (fun _ => 0))) :: (a22, .inl (cI, 4, .inl (fun _ => 0))) :: (a19, .inr (4, [.ref a22, .ref a21, .ref a20, .int 0, .int 1, .int 0, .int 0])) :: (a18, .inr (1, [.int 0, .int 0, .int 0])) :: (a17, .inr (7, [.int 0, .int 0, .int 0, .int 1, .int 0])) :: (a16, .inr (7, [.int 0, .int 0, .int 0, .int 1, .int 0])) :: (a11, .inl (cI, 10, .inl (fun _ => 0))) :: (a12, .inl (cI, 10, .inl (fun _ => 0))) :: (a13, .inl (cI, 10, .inl (fun _ => 0))) :: (a14, .inl (cI, 10, .inl (fun _ => 0))) :: (a15, .inl (cI, 10, .inl (fun _ => 0))) :: (a10, .inr (2, [.int 1, .int 1, .int 0, .int 0, .int 0, .int 0, .int 0, .ref a15, .ref a14, .ref a13, .ref a12, .ref a11])) :: (a5, .inl (cI, 10, .inl (fun _ => 0))) :: (a6, .inl (cI, 10, .inl (fun _ => 0))) :: (a7, .inl (cI, 10, .inl (fun _ => 0))) :: (a8, .inl (cI, 10, .inl (fun _ => 0))) :: (a9, .inl (cI, 10, .inl (fun _ => 0))) :: (a4, .inr (2, [.int 1, .int 1, .int 0, .int 0, .int 0, .int 0, .int 0, .ref a9, .ref a8, .ref a7, .ref a6, .ref a5])) :: (a3, .inr (3, [.int 0, .int (-9)])) :: (a2, .inl (cI, 90, .inl (fun _ => 0))) :: (a1, .inr (8, [.ref a2, .int 0])) :: (h0, .inr (9, [.ref a1, .ref a3, .ref a4, .ref a10, .ref a16, .ref a17, .ref a18, .ref a19, .ref a23, .ref a26, .int 0, .ref a28, .ref a33, .long 0])) :: X) rfl dX9_init_136 (fun H locs hw => ?_)
  refine lv_aload_n hx hb dX9_init_139 rfl (lv_at hl 0 rfl) ?_
  refine lv_lconst (v := 0) hx hb dX9_init_140 (by decide) ?_
  refine g_put E hw inX9 tyX9 tyX9_ok nmX9 33 rfl rfl 13 (by decide) k_176 rfl .long (by decide +kernel) rfl rfl (Nat.le_of_ble_eq_true rfl) ((a33, .inl (cI, 121, .inl (fun _ => 0))) :: (a29, .inl (cI, 6, .inl (fun _ => 0))) :: (a30, .inl (cI, 6, .inl (fun _ => 0))) :: (a31, .inl (cI, 6, .inl (fun _ => 0))) :: (a32, .inl (cI, 6, .inl (fun _ => 0))) :: (a28, .inr (6, [.ref a32, .ref a31, .ref a30, .ref a29, .int 0])) :: (a27, .inl (cI, 10, .inl (fun _ => 0))) :: (a26, .inr (5, [.ref a27])) :: (a24, .inl (cI, 70, .inl (fun _ => 0))) :: (a25, .inr (5, [.ref a24])) :: (a23, .inr (0, [.ref a25, .int 0, .int 0])) :: (a20, .inl (cI, 4, .inl (fun _ => 0))) :: (a21, .inl (cI, 4, .inl (fun _ => 0))) :: (a22, .inl (cI, 4, .inl (fun _ => 0))) :: (a19, .inr (4, [.ref a22, .ref a21, .ref a20, .int 0, .int 1, .int 0, .int 0])) :: (a18, .inr (1, [.int 0, .int 0, .int 0])) :: (a17, .inr (7, [.int 0, .int 0, .int 0, .int 1, .int 0])) :: (a16, .inr (7, [.int 0, .int 0, .int 0, .int 1, .int 0])) :: (a11, .inl (cI, 10, .inl (fun _ => 0))) :: (a12, .inl (cI, 10, .inl (fun _ => 0))) :: (a13, .inl (cI, 10, .inl (fun _ => 0))) :: (a14, .inl (cI, 10, .inl (fun _ => 0))) :: (a15, .inl (cI, 10, .inl (fun _ => 0))) :: (a10, .inr (2, [.int 1, .int 1, .int 0, .int 0, .int 0, .int 0, .int 0, .ref a15, .ref a14, .ref a13, .ref a12, .ref a11])) :: (a5, .inl (cI, 10, .inl (fun _ => 0))) :: (a6, .inl (cI, 10, .inl (fun _ => 0))) :: (a7, .inl (cI, 10, .inl (fun _ => 0))) :: (a8, .inl (cI, 10, .inl (fun _ => 0))) :: (a9, .inl (cI, 10, .inl (fun _ => 0))) :: (a4, .inr (2, [.int 1, .int 1, .int 0, .int 0, .int 0, .int 0, .int 0, .ref a9, .ref a8, .ref a7, .ref a6, .ref a5])) :: (a3, .inr (3, [.int 0, .int (-9)])) :: (a2, .inl (cI, 90, .inl (fun _ => 0))) :: (a1, .inr (8, [.ref a2, .int 0])) :: (h0, .inr (9, [.ref a1, .ref a3, .ref a4, .ref a10, .ref a16, .ref a17, .ref a18, .ref a19, .ref a23, .ref a26, .int 0, .ref a28, .ref a33, .long 0])) :: X) rfl dX9_init_141 (fun H locs hw => ?_)
  exact hret _ _ _ _ _ ⟨(fun k => ([a33, a29, a30, a31, a32, a28, a27, a26, a24, a25, a23, a20, a21, a22, a19, a18, a17, a16, a11, a12, a13, a14, a15, a10, a5, a6, a7, a8, a9, a4, a3, a2, a1, h0] : List Nat).getD k 0), rfl, rfl⟩ hw dX9_init_144
set_option maxRecDepth 100000 in
set_option maxHeartbeats 4000000 in
theorem c_X10_init {l : Launch} {D : va_G} {cI cZ : ClassId} {h0 : Nat} {X : va_W} : CtN l yX10_init cX10_init 1 ({ frames := 1, cells := 23, slots := 813, locals := 12 } : Room) D [(cI, .int), (cZ, .boolean)] [.ref h0] ((h0, .inr (10, [.int 0, .null, .int 0, .int 0, .int 0, .int 0, .null, .null, .null, .null, .int 0, .int 0, .int 0, .null, .null, .null, .null, .null, .null, .null, .null, .int 0, .null, .null, .int 0, .null, .null, .null, .null, .long 0, .null, .int 0, .null, .null, .int 0, .int 0, .int 0, .int 0, .null])) :: X) 23 813 (fun u => ∃ ad : Nat → Nat, ad 23 = h0 ∧ u = wM ad cI cZ (0) (fun _ => 0) (0) (0) (1) (0) (fun _ => 0) (fun _ => 0) (fun _ => 0) (fun _ => 0) (0) (0) (0) (fun _ => 0) (fun _ => 0) (fun _ => 0) (fun _ => 0) (fun _ => 0) (upd (fun _ => 0) ((20 : Int32)).toNatClampNeg (1 : Int32)) (fun _ => 0) (fun _ => 0) (0) (fun _ => 0) (fun _ => 0) (0) (fun _ => 0) (fun _ => 0) (fun _ => 0) (fun _ => 0) (0) (fun _ => 0) (0) (fun _ => 0) (fun _ => 0) (0) (0) (0) (0) (fun _ => 0) X) := by
  refine CtN.of (by decide) (Nat.le_of_ble_eq_true rfl) rfl ?_
  intro p e s m args below meth c A Z E hin hret ls hl hw
  have E : gE p m c cX10_init 1 s args RX10 D [(cI, .int), (cZ, .boolean)] A := E
  have hx := E.1.1
  have hb := E.1.2.1
  have hl : lv_has ls 1 [(0, .ref h0)] := hl
  refine lv_aload_n hx hb dX10_init_0 rfl (lv_at hl 0 rfl) ?_
  refine g_obj E k_586 k_69 k_70 hl.1 dX10_init_1 (Nat.le_of_ble_eq_true rfl) (Nat.le_of_ble_eq_true rfl) ?_
  refine lv_aload_n hx hb dX10_init_4 rfl (lv_at hl 0 rfl) ?_
  refine lv_bipush (v := 90) hx hb dX10_init_5 (by decide) ?_
  refine g_newI (N := 90) E hw k_78 (by decide) (by decide) (by decide) (Nat.le_of_ble_eq_true rfl) (Nat.le_of_ble_eq_true rfl) dX10_init_7 (fun a1 H locs hw => ?_)
  refine g_putF E hw inX10 tyX10 tyX10_ok nmX10 hin 1 rfl rfl 1 (by decide) k_588 rfl rfl (.array .int) (by decide +kernel) rfl rfl (Nat.le_of_ble_eq_true rfl) ((a1, .inl (cI, 90, .inl (fun _ => 0))) :: (h0, .inr (10, [.int 0, .ref a1, .int 0, .int 0, .int 0, .int 0, .null, .null, .null, .null, .int 0, .int 0, .int 0, .null, .null, .null, .null, .null, .null, .null, .null, .int 0, .null, .null, .int 0, .null, .null, .null, .null, .long 0, .null, .int 0, .null, .null, .int 0, .int 0, .int 0, .int 0, .null])) :: X) rfl dX10_init_9 (fun H locs hw => ?_)
  refine lv_aload_n hx hb dX10_init_12 rfl (lv_at hl 0 rfl) ?_
  refine lv_iconst (v := 1) hx hb dX10_init_13 (by decide) ?_
  refine g_put E hw inX10 tyX10 tyX10_ok nmX10 1 rfl rfl 4 (by decide) k_591 rfl .int (by decide +kernel) rfl rfl (Nat.le_of_ble_eq_true rfl) ((a1, .inl (cI, 90, .inl (fun _ => 0))) :: (h0, .inr (10, [.int 0, .ref a1, .int 0, .int 0, .int 1, .int 0, .null, .null, .null, .null, .int 0, .int 0, .int 0, .null, .null, .null, .null, .null, .null, .null, .null, .int 0, .null, .null, .int 0, .null, .null, .null, .null, .long 0, .null, .int 0, .null, .null, .int 0, .int 0, .int 0, .int 0, .null])) :: X) rfl dX10_init_14 (fun H locs hw => ?_)
  refine lv_aload_n hx hb dX10_init_17 rfl (lv_at hl 0 rfl) ?_
  refine lv_bipush (v := 10) hx hb dX10_init_18 (by decide) ?_
  refine g_newI (N := 10) E hw k_78 (by decide) (by decide) (by decide) (Nat.le_of_ble_eq_true rfl) (Nat.le_of_ble_eq_true rfl) dX10_init_20 (fun a2 H locs hw => ?_)
  refine g_putF E hw inX10 tyX10 tyX10_ok nmX10 hin 2 rfl rfl 6 (by decide) k_593 rfl rfl (.array .int) (by decide +kernel) rfl rfl (Nat.le_of_ble_eq_true rfl) ((a2, .inl (cI, 10, .inl (fun _ => 0))) :: (a1, .inl (cI, 90, .inl (fun _ => 0))) :: (h0, .inr (10, [.int 0, .ref a1, .int 0, .int 0, .int 1, .int 0, .ref a2, .null, .null, .null, .int 0, .int 0, .int 0, .null, .null, .null, .null, .null, .null, .null, .null, .int 0, .null, .null, .int 0, .null, .null, .null, .null, .long 0, .null, .int 0, .null, .null, .int 0, .int 0, .int 0, .int 0, .null])) :: X) rfl dX10_init_22 (fun H locs hw => ?_)
  refine lv_aload_n hx hb dX10_init_25 rfl (lv_at hl 0 rfl) ?_
  refine lv_bipush (v := 10) hx hb dX10_init_26 (by decide) ?_
  refine g_newI (N := 10) E hw k_78 (by decide) (by decide) (by decide) (Nat.le_of_ble_eq_true rfl) (Nat.le_of_ble_eq_true rfl) dX10_init_28 (fun a3 H locs hw => ?_)
  refine g_putF E hw inX10 tyX10 tyX10_ok nmX10 hin 3 rfl rfl 7 (by decide) k_594 rfl rfl (.array .int) (by decide +kernel) rfl rfl (Nat.le_of_ble_eq_true rfl) ((a3, .inl (cI, 10, .inl (fun _ => 0))) :: (a2, .inl (cI, 10, .inl (fun _ => 0))) :: (a1, .inl (cI, 90, .inl (fun _ => 0))) :: (h0, .inr (10, [.int 0, .ref a1, .int 0, .int 0, .int 1, .int 0, .ref a2, .ref a3, .null, .null, .int 0, .int 0, .int 0, .null, .null, .null, .null, .null, .null, .null, .null, .int 0, .null, .null, .int 0, .null, .null, .null, .null, .long 0, .null, .int 0, .null, .null, .int 0, .int 0, .int 0, .int 0, .null])) :: X) rfl dX10_init_30 (fun H locs hw => ?_)
  refine lv_aload_n hx hb dX10_init_33 rfl (lv_at hl 0 rfl) ?_
  refine lv_bipush (v := 10) hx hb dX10_init_34 (by decide) ?_
  refine g_newI (N := 10) E hw k_78 (by decide) (by decide) (by decide) (Nat.le_of_ble_eq_true rfl) (Nat.le_of_ble_eq_true rfl) dX10_init_36 (fun a4 H locs hw => ?_)
  refine g_putF E hw inX10 tyX10 tyX10_ok nmX10 hin 4 rfl rfl 8 (by decide) k_595 rfl rfl (.array .int) (by decide +kernel) rfl rfl (Nat.le_of_ble_eq_true rfl) ((a4, .inl (cI, 10, .inl (fun _ => 0))) :: (a3, .inl (cI, 10, .inl (fun _ => 0))) :: (a2, .inl (cI, 10, .inl (fun _ => 0))) :: (a1, .inl (cI, 90, .inl (fun _ => 0))) :: (h0, .inr (10, [.int 0, .ref a1, .int 0, .int 0, .int 1, .int 0, .ref a2, .ref a3, .ref a4, .null, .int 0, .int 0, .int 0, .null, .null, .null, .null, .null, .null, .null, .null, .int 0, .null, .null, .int 0, .null, .null, .null, .null, .long 0, .null, .int 0, .null, .null, .int 0, .int 0, .int 0, .int 0, .null])) :: X) rfl dX10_init_38 (fun H locs hw => ?_)
  refine lv_aload_n hx hb dX10_init_41 rfl (lv_at hl 0 rfl) ?_
  refine lv_bipush (v := 10) hx hb dX10_init_42 (by decide) ?_
  refine g_newI (N := 10) E hw k_78 (by decide) (by decide) (by decide) (Nat.le_of_ble_eq_true rfl) (Nat.le_of_ble_eq_true rfl) dX10_init_44 (fun a5 H locs hw => ?_)
  refine g_putF E hw inX10 tyX10 tyX10_ok nmX10 hin 5 rfl rfl 9 (by decide) k_596 rfl rfl (.array .int) (by decide +kernel) rfl rfl (Nat.le_of_ble_eq_true rfl) ((a5, .inl (cI, 10, .inl (fun _ => 0))) :: (a4, .inl (cI, 10, .inl (fun _ => 0))) :: (a3, .inl (cI, 10, .inl (fun _ => 0))) :: (a2, .inl (cI, 10, .inl (fun _ => 0))) :: (a1, .inl (cI, 90, .inl (fun _ => 0))) :: (h0, .inr (10, [.int 0, .ref a1, .int 0, .int 0, .int 1, .int 0, .ref a2, .ref a3, .ref a4, .ref a5, .int 0, .int 0, .int 0, .null, .null, .null, .null, .null, .null, .null, .null, .int 0, .null, .null, .int 0, .null, .null, .null, .null, .long 0, .null, .int 0, .null, .null, .int 0, .int 0, .int 0, .int 0, .null])) :: X) rfl dX10_init_46 (fun H locs hw => ?_)
  refine lv_aload_n hx hb dX10_init_49 rfl (lv_at hl 0 rfl) ?_
  refine lv_bipush (v := 10) hx hb dX10_init_50 (by decide) ?_
  refine g_newI (N := 10) E hw k_78 (by decide) (by decide) (by decide) (Nat.le_of_ble_eq_true rfl) (Nat.le_of_ble_eq_true rfl) dX10_init_52 (fun a6 H locs hw => ?_)
  refine g_putF E hw inX10 tyX10 tyX10_ok nmX10 hin 6 rfl rfl 13 (by decide) k_600 rfl rfl (.array .int) (by decide +kernel) rfl rfl (Nat.le_of_ble_eq_true rfl) ((a6, .inl (cI, 10, .inl (fun _ => 0))) :: (a5, .inl (cI, 10, .inl (fun _ => 0))) :: (a4, .inl (cI, 10, .inl (fun _ => 0))) :: (a3, .inl (cI, 10, .inl (fun _ => 0))) :: (a2, .inl (cI, 10, .inl (fun _ => 0))) :: (a1, .inl (cI, 90, .inl (fun _ => 0))) :: (h0, .inr (10, [.int 0, .ref a1, .int 0, .int 0, .int 1, .int 0, .ref a2, .ref a3, .ref a4, .ref a5, .int 0, .int 0, .int 0, .ref a6, .null, .null, .null, .null, .null, .null, .null, .int 0, .null, .null, .int 0, .null, .null, .null, .null, .long 0, .null, .int 0, .null, .null, .int 0, .int 0, .int 0, .int 0, .null])) :: X) rfl dX10_init_54 (fun H locs hw => ?_)
  refine lv_aload_n hx hb dX10_init_57 rfl (lv_at hl 0 rfl) ?_
  refine lv_bipush (v := 10) hx hb dX10_init_58 (by decide) ?_
  refine g_newI (N := 10) E hw k_78 (by decide) (by decide) (by decide) (Nat.le_of_ble_eq_true rfl) (Nat.le_of_ble_eq_true rfl) dX10_init_60 (fun a7 H locs hw => ?_)
  refine g_putF E hw inX10 tyX10 tyX10_ok nmX10 hin 7 rfl rfl 14 (by decide) k_601 rfl rfl (.array .int) (by decide +kernel) rfl rfl (Nat.le_of_ble_eq_true rfl) ((a7, .inl (cI, 10, .inl (fun _ => 0))) :: (a6, .inl (cI, 10, .inl (fun _ => 0))) :: (a5, .inl (cI, 10, .inl (fun _ => 0))) :: (a4, .inl (cI, 10, .inl (fun _ => 0))) :: (a3, .inl (cI, 10, .inl (fun _ => 0))) :: (a2, .inl (cI, 10, .inl (fun _ => 0))) :: (a1, .inl (cI, 90, .inl (fun _ => 0))) :: (h0, .inr (10, [.int 0, .ref a1, .int 0, .int 0, .int 1, .int 0, .ref a2, .ref a3, .ref a4, .ref a5, .int 0, .int 0, .int 0, .ref a6, .ref a7, .null, .null, .null, .null, .null, .null, .int 0, .null, .null, .int 0, .null, .null, .null, .null, .long 0, .null, .int 0, .null, .null, .int 0, .int 0, .int 0, .int 0, .null])) :: X) rfl dX10_init_62 (fun H locs hw => ?_)
  refine lv_aload_n hx hb dX10_init_65 rfl (lv_at hl 0 rfl) ?_
  refine lv_bipush (v := 10) hx hb dX10_init_66 (by decide) ?_
  refine g_newI (N := 10) E hw k_78 (by decide) (by decide) (by decide) (Nat.le_of_ble_eq_true rfl) (Nat.le_of_ble_eq_true rfl) dX10_init_68 (fun a8 H locs hw => ?_)
  refine g_putF E hw inX10 tyX10 tyX10_ok nmX10 hin 8 rfl rfl 15 (by decide) k_602 rfl rfl (.array .int) (by decide +kernel) rfl rfl (Nat.le_of_ble_eq_true rfl) ((a8, .inl (cI, 10, .inl (fun _ => 0))) :: (a7, .inl (cI, 10, .inl (fun _ => 0))) :: (a6, .inl (cI, 10, .inl (fun _ => 0))) :: (a5, .inl (cI, 10, .inl (fun _ => 0))) :: (a4, .inl (cI, 10, .inl (fun _ => 0))) :: (a3, .inl (cI, 10, .inl (fun _ => 0))) :: (a2, .inl (cI, 10, .inl (fun _ => 0))) :: (a1, .inl (cI, 90, .inl (fun _ => 0))) :: (h0, .inr (10, [.int 0, .ref a1, .int 0, .int 0, .int 1, .int 0, .ref a2, .ref a3, .ref a4, .ref a5, .int 0, .int 0, .int 0, .ref a6, .ref a7, .ref a8, .null, .null, .null, .null, .null, .int 0, .null, .null, .int 0, .null, .null, .null, .null, .long 0, .null, .int 0, .null, .null, .int 0, .int 0, .int 0, .int 0, .null])) :: X) rfl dX10_init_70 (fun H locs hw => ?_)
  refine lv_aload_n hx hb dX10_init_73 rfl (lv_at hl 0 rfl) ?_
  refine lv_bipush (v := 10) hx hb dX10_init_74 (by decide) ?_
  refine g_newI (N := 10) E hw k_78 (by decide) (by decide) (by decide) (Nat.le_of_ble_eq_true rfl) (Nat.le_of_ble_eq_true rfl) dX10_init_76 (fun a9 H locs hw => ?_)
  refine g_putF E hw inX10 tyX10 tyX10_ok nmX10 hin 9 rfl rfl 16 (by decide) k_603 rfl rfl (.array .int) (by decide +kernel) rfl rfl (Nat.le_of_ble_eq_true rfl) ((a9, .inl (cI, 10, .inl (fun _ => 0))) :: (a8, .inl (cI, 10, .inl (fun _ => 0))) :: (a7, .inl (cI, 10, .inl (fun _ => 0))) :: (a6, .inl (cI, 10, .inl (fun _ => 0))) :: (a5, .inl (cI, 10, .inl (fun _ => 0))) :: (a4, .inl (cI, 10, .inl (fun _ => 0))) :: (a3, .inl (cI, 10, .inl (fun _ => 0))) :: (a2, .inl (cI, 10, .inl (fun _ => 0))) :: (a1, .inl (cI, 90, .inl (fun _ => 0))) :: (h0, .inr (10, [.int 0, .ref a1, .int 0, .int 0, .int 1, .int 0, .ref a2, .ref a3, .ref a4, .ref a5, .int 0, .int 0, .int 0, .ref a6, .ref a7, .ref a8, .ref a9, .null, .null, .null, .null, .int 0, .null, .null, .int 0, .null, .null, .null, .null, .long 0, .null, .int 0, .null, .null, .int 0, .int 0, .int 0, .int 0, .null])) :: X) rfl dX10_init_78 (fun H locs hw => ?_)
  refine lv_aload_n hx hb dX10_init_81 rfl (lv_at hl 0 rfl) ?_
  refine lv_bipush (v := 10) hx hb dX10_init_82 (by decide) ?_
  refine g_newI (N := 10) E hw k_78 (by decide) (by decide) (by decide) (Nat.le_of_ble_eq_true rfl) (Nat.le_of_ble_eq_true rfl) dX10_init_84 (fun a10 H locs hw => ?_)
  refine g_putF E hw inX10 tyX10 tyX10_ok nmX10 hin 10 rfl rfl 17 (by decide) k_604 rfl rfl (.array .int) (by decide +kernel) rfl rfl (Nat.le_of_ble_eq_true rfl) ((a10, .inl (cI, 10, .inl (fun _ => 0))) :: (a9, .inl (cI, 10, .inl (fun _ => 0))) :: (a8, .inl (cI, 10, .inl (fun _ => 0))) :: (a7, .inl (cI, 10, .inl (fun _ => 0))) :: (a6, .inl (cI, 10, .inl (fun _ => 0))) :: (a5, .inl (cI, 10, .inl (fun _ => 0))) :: (a4, .inl (cI, 10, .inl (fun _ => 0))) :: (a3, .inl (cI, 10, .inl (fun _ => 0))) :: (a2, .inl (cI, 10, .inl (fun _ => 0))) :: (a1, .inl (cI, 90, .inl (fun _ => 0))) :: (h0, .inr (10, [.int 0, .ref a1, .int 0, .int 0, .int 1, .int 0, .ref a2, .ref a3, .ref a4, .ref a5, .int 0, .int 0, .int 0, .ref a6, .ref a7, .ref a8, .ref a9, .ref a10, .null, .null, .null, .int 0, .null, .null, .int 0, .null, .null, .null, .null, .long 0, .null, .int 0, .null, .null, .int 0, .int 0, .int 0, .int 0, .null])) :: X) rfl dX10_init_86 (fun H locs hw => ?_)
  refine lv_aload_n hx hb dX10_init_89 rfl (lv_at hl 0 rfl) ?_
  refine lv_bipush (v := 22) hx hb dX10_init_90 (by decide) ?_
  refine g_newI (N := 22) E hw k_78 (by decide) (by decide) (by decide) (Nat.le_of_ble_eq_true rfl) (Nat.le_of_ble_eq_true rfl) dX10_init_92 (fun a11 H locs hw => ?_)
  refine g_putF E hw inX10 tyX10 tyX10_ok nmX10 hin 11 rfl rfl 18 (by decide) k_605 rfl rfl (.array .int) (by decide +kernel) rfl rfl (Nat.le_of_ble_eq_true rfl) ((a11, .inl (cI, 22, .inl (fun _ => 0))) :: (a10, .inl (cI, 10, .inl (fun _ => 0))) :: (a9, .inl (cI, 10, .inl (fun _ => 0))) :: (a8, .inl (cI, 10, .inl (fun _ => 0))) :: (a7, .inl (cI, 10, .inl (fun _ => 0))) :: (a6, .inl (cI, 10, .inl (fun _ => 0))) :: (a5, .inl (cI, 10, .inl (fun _ => 0))) :: (a4, .inl (cI, 10, .inl (fun _ => 0))) :: (a3, .inl (cI, 10, .inl (fun _ => 0))) :: (a2, .inl (cI, 10, .inl (fun _ => 0))) :: (a1, .inl (cI, 90, .inl (fun _ => 0))) :: (h0, .inr (10, [.int 0, .ref a1, .int 0, .int 0, .int 1, .int 0, .ref a2, .ref a3, .ref a4, .ref a5, .int 0, .int 0, .int 0, .ref a6, .ref a7, .ref a8, .ref a9, .ref a10, .ref a11, .null, .null, .int 0, .null, .null, .int 0, .null, .null, .null, .null, .long 0, .null, .int 0, .null, .null, .int 0, .int 0, .int 0, .int 0, .null])) :: X) rfl dX10_init_94 (fun H locs hw => ?_)
  refine lv_aload_n hx hb dX10_init_97 rfl (lv_at hl 0 rfl) ?_
  refine lv_bipush (v := 22) hx hb dX10_init_98 (by decide) ?_
  refine g_newI (N := 22) E hw k_78 (by decide) (by decide) (by decide) (Nat.le_of_ble_eq_true rfl) (Nat.le_of_ble_eq_true rfl) dX10_init_100 (fun a12 H locs hw => ?_)
  refine g_putF E hw inX10 tyX10 tyX10_ok nmX10 hin 12 rfl rfl 19 (by decide) k_606 rfl rfl (.array .int) (by decide +kernel) rfl rfl (Nat.le_of_ble_eq_true rfl) ((a12, .inl (cI, 22, .inl (fun _ => 0))) :: (a11, .inl (cI, 22, .inl (fun _ => 0))) :: (a10, .inl (cI, 10, .inl (fun _ => 0))) :: (a9, .inl (cI, 10, .inl (fun _ => 0))) :: (a8, .inl (cI, 10, .inl (fun _ => 0))) :: (a7, .inl (cI, 10, .inl (fun _ => 0))) :: (a6, .inl (cI, 10, .inl (fun _ => 0))) :: (a5, .inl (cI, 10, .inl (fun _ => 0))) :: (a4, .inl (cI, 10, .inl (fun _ => 0))) :: (a3, .inl (cI, 10, .inl (fun _ => 0))) :: (a2, .inl (cI, 10, .inl (fun _ => 0))) :: (a1, .inl (cI, 90, .inl (fun _ => 0))) :: (h0, .inr (10, [.int 0, .ref a1, .int 0, .int 0, .int 1, .int 0, .ref a2, .ref a3, .ref a4, .ref a5, .int 0, .int 0, .int 0, .ref a6, .ref a7, .ref a8, .ref a9, .ref a10, .ref a11, .ref a12, .null, .int 0, .null, .null, .int 0, .null, .null, .null, .null, .long 0, .null, .int 0, .null, .null, .int 0, .int 0, .int 0, .int 0, .null])) :: X) rfl dX10_init_102 (fun H locs hw => ?_)
  refine lv_aload_n hx hb dX10_init_105 rfl (lv_at hl 0 rfl) ?_
  refine lv_sipush (v := 308) hx hb dX10_init_106 (by decide) ?_
  refine g_newI (N := 308) E hw k_78 (by decide) (by decide) (by decide) (Nat.le_of_ble_eq_true rfl) (Nat.le_of_ble_eq_true rfl) dX10_init_109 (fun a13 H locs hw => ?_)
  refine g_putF E hw inX10 tyX10 tyX10_ok nmX10 hin 13 rfl rfl 20 (by decide) k_607 rfl rfl (.array .int) (by decide +kernel) rfl rfl (Nat.le_of_ble_eq_true rfl) ((a13, .inl (cI, 308, .inl (fun _ => 0))) :: (a12, .inl (cI, 22, .inl (fun _ => 0))) :: (a11, .inl (cI, 22, .inl (fun _ => 0))) :: (a10, .inl (cI, 10, .inl (fun _ => 0))) :: (a9, .inl (cI, 10, .inl (fun _ => 0))) :: (a8, .inl (cI, 10, .inl (fun _ => 0))) :: (a7, .inl (cI, 10, .inl (fun _ => 0))) :: (a6, .inl (cI, 10, .inl (fun _ => 0))) :: (a5, .inl (cI, 10, .inl (fun _ => 0))) :: (a4, .inl (cI, 10, .inl (fun _ => 0))) :: (a3, .inl (cI, 10, .inl (fun _ => 0))) :: (a2, .inl (cI, 10, .inl (fun _ => 0))) :: (a1, .inl (cI, 90, .inl (fun _ => 0))) :: (h0, .inr (10, [.int 0, .ref a1, .int 0, .int 0, .int 1, .int 0, .ref a2, .ref a3, .ref a4, .ref a5, .int 0, .int 0, .int 0, .ref a6, .ref a7, .ref a8, .ref a9, .ref a10, .ref a11, .ref a12, .ref a13, .int 0, .null, .null, .int 0, .null, .null, .null, .null, .long 0, .null, .int 0, .null, .null, .int 0, .int 0, .int 0, .int 0, .null])) :: X) rfl dX10_init_111 (fun H locs hw => ?_)
  refine lv_aload_n hx hb dX10_init_114 rfl (lv_at hl 0 rfl) ?_
  refine lv_bipush (v := 44) hx hb dX10_init_115 (by decide) ?_
  refine g_newI (N := 44) E hw k_78 (by decide) (by decide) (by decide) (Nat.le_of_ble_eq_true rfl) (Nat.le_of_ble_eq_true rfl) dX10_init_117 (fun a14 H locs hw => ?_)
  refine g_putF E hw inX10 tyX10 tyX10_ok nmX10 hin 14 rfl rfl 22 (by decide) k_609 rfl rfl (.array .int) (by decide +kernel) rfl rfl (Nat.le_of_ble_eq_true rfl) ((a14, .inl (cI, 44, .inl (fun _ => 0))) :: (a13, .inl (cI, 308, .inl (fun _ => 0))) :: (a12, .inl (cI, 22, .inl (fun _ => 0))) :: (a11, .inl (cI, 22, .inl (fun _ => 0))) :: (a10, .inl (cI, 10, .inl (fun _ => 0))) :: (a9, .inl (cI, 10, .inl (fun _ => 0))) :: (a8, .inl (cI, 10, .inl (fun _ => 0))) :: (a7, .inl (cI, 10, .inl (fun _ => 0))) :: (a6, .inl (cI, 10, .inl (fun _ => 0))) :: (a5, .inl (cI, 10, .inl (fun _ => 0))) :: (a4, .inl (cI, 10, .inl (fun _ => 0))) :: (a3, .inl (cI, 10, .inl (fun _ => 0))) :: (a2, .inl (cI, 10, .inl (fun _ => 0))) :: (a1, .inl (cI, 90, .inl (fun _ => 0))) :: (h0, .inr (10, [.int 0, .ref a1, .int 0, .int 0, .int 1, .int 0, .ref a2, .ref a3, .ref a4, .ref a5, .int 0, .int 0, .int 0, .ref a6, .ref a7, .ref a8, .ref a9, .ref a10, .ref a11, .ref a12, .ref a13, .int 0, .ref a14, .null, .int 0, .null, .null, .null, .null, .long 0, .null, .int 0, .null, .null, .int 0, .int 0, .int 0, .int 0, .null])) :: X) rfl dX10_init_119 (fun H locs hw => ?_)
  refine lv_aload_n hx hb dX10_init_122 rfl (lv_at hl 0 rfl) ?_
  refine lv_iconst (v := 2) hx hb dX10_init_123 (by decide) ?_
  refine g_newZ (N := 2) E hw k_626 (by decide) (by decide) (by decide) (Nat.le_of_ble_eq_true rfl) (Nat.le_of_ble_eq_true rfl) dX10_init_124 (fun a15 H locs hw => ?_)
  refine g_putF E hw inX10 tyX10 tyX10_ok nmX10 hin 15 rfl rfl 23 (by decide) k_610 rfl rfl (.array .boolean) (by decide +kernel) rfl rfl (Nat.le_of_ble_eq_true rfl) ((a15, .inl (cZ, 2, .inl (fun _ => 0))) :: (a14, .inl (cI, 44, .inl (fun _ => 0))) :: (a13, .inl (cI, 308, .inl (fun _ => 0))) :: (a12, .inl (cI, 22, .inl (fun _ => 0))) :: (a11, .inl (cI, 22, .inl (fun _ => 0))) :: (a10, .inl (cI, 10, .inl (fun _ => 0))) :: (a9, .inl (cI, 10, .inl (fun _ => 0))) :: (a8, .inl (cI, 10, .inl (fun _ => 0))) :: (a7, .inl (cI, 10, .inl (fun _ => 0))) :: (a6, .inl (cI, 10, .inl (fun _ => 0))) :: (a5, .inl (cI, 10, .inl (fun _ => 0))) :: (a4, .inl (cI, 10, .inl (fun _ => 0))) :: (a3, .inl (cI, 10, .inl (fun _ => 0))) :: (a2, .inl (cI, 10, .inl (fun _ => 0))) :: (a1, .inl (cI, 90, .inl (fun _ => 0))) :: (h0, .inr (10, [.int 0, .ref a1, .int 0, .int 0, .int 1, .int 0, .ref a2, .ref a3, .ref a4, .ref a5, .int 0, .int 0, .int 0, .ref a6, .ref a7, .ref a8, .ref a9, .ref a10, .ref a11, .ref a12, .ref a13, .int 0, .ref a14, .ref a15, .int 0, .null, .null, .null, .null, .long 0, .null, .int 0, .null, .null, .int 0, .int 0, .int 0, .int 0, .null])) :: X) rfl dX10_init_126 (fun H locs hw => ?_)
  refine lv_aload_n hx hb dX10_init_129 rfl (lv_at hl 0 rfl) ?_
  refine lv_bipush (v := 6) hx hb dX10_init_130 (by decide) ?_
  refine g_newI (N := 6) E hw k_78 (by decide) (by decide) (by decide) (Nat.le_of_ble_eq_true rfl) (Nat.le_of_ble_eq_true rfl) dX10_init_132 (fun a16 H locs hw => ?_)
  refine g_putF E hw inX10 tyX10 tyX10_ok nmX10 hin 16 rfl rfl 25 (by decide) k_612 rfl rfl (.array .int) (by decide +kernel) rfl rfl (Nat.le_of_ble_eq_true rfl) ((a16, .inl (cI, 6, .inl (fun _ => 0))) :: (a15, .inl (cZ, 2, .inl (fun _ => 0))) :: (a14, .inl (cI, 44, .inl (fun _ => 0))) :: (a13, .inl (cI, 308, .inl (fun _ => 0))) :: (a12, .inl (cI, 22, .inl (fun _ => 0))) :: (a11, .inl (cI, 22, .inl (fun _ => 0))) :: (a10, .inl (cI, 10, .inl (fun _ => 0))) :: (a9, .inl (cI, 10, .inl (fun _ => 0))) :: (a8, .inl (cI, 10, .inl (fun _ => 0))) :: (a7, .inl (cI, 10, .inl (fun _ => 0))) :: (a6, .inl (cI, 10, .inl (fun _ => 0))) :: (a5, .inl (cI, 10, .inl (fun _ => 0))) :: (a4, .inl (cI, 10, .inl (fun _ => 0))) :: (a3, .inl (cI, 10, .inl (fun _ => 0))) :: (a2, .inl (cI, 10, .inl (fun _ => 0))) :: (a1, .inl (cI, 90, .inl (fun _ => 0))) :: (h0, .inr (10, [.int 0, .ref a1, .int 0, .int 0, .int 1, .int 0, .ref a2, .ref a3, .ref a4, .ref a5, .int 0, .int 0, .int 0, .ref a6, .ref a7, .ref a8, .ref a9, .ref a10, .ref a11, .ref a12, .ref a13, .int 0, .ref a14, .ref a15, .int 0, .ref a16, .null, .null, .null, .long 0, .null, .int 0, .null, .null, .int 0, .int 0, .int 0, .int 0, .null])) :: X) rfl dX10_init_134 (fun H locs hw => ?_)
  refine lv_aload_n hx hb dX10_init_137 rfl (lv_at hl 0 rfl) ?_
  refine lv_bipush (v := 6) hx hb dX10_init_138 (by decide) ?_
  refine g_newI (N := 6) E hw k_78 (by decide) (by decide) (by decide) (Nat.le_of_ble_eq_true rfl) (Nat.le_of_ble_eq_true rfl) dX10_init_140 (fun a17 H locs hw => ?_)
  refine g_putF E hw inX10 tyX10 tyX10_ok nmX10 hin 17 rfl rfl 26 (by decide) k_613 rfl rfl (.array .int) (by decide +kernel) rfl rfl (Nat.le_of_ble_eq_true rfl) ((a17, .inl (cI, 6, .inl (fun _ => 0))) :: (a16, .inl (cI, 6, .inl (fun _ => 0))) :: (a15, .inl (cZ, 2, .inl (fun _ => 0))) :: (a14, .inl (cI, 44, .inl (fun _ => 0))) :: (a13, .inl (cI, 308, .inl (fun _ => 0))) :: (a12, .inl (cI, 22, .inl (fun _ => 0))) :: (a11, .inl (cI, 22, .inl (fun _ => 0))) :: (a10, .inl (cI, 10, .inl (fun _ => 0))) :: (a9, .inl (cI, 10, .inl (fun _ => 0))) :: (a8, .inl (cI, 10, .inl (fun _ => 0))) :: (a7, .inl (cI, 10, .inl (fun _ => 0))) :: (a6, .inl (cI, 10, .inl (fun _ => 0))) :: (a5, .inl (cI, 10, .inl (fun _ => 0))) :: (a4, .inl (cI, 10, .inl (fun _ => 0))) :: (a3, .inl (cI, 10, .inl (fun _ => 0))) :: (a2, .inl (cI, 10, .inl (fun _ => 0))) :: (a1, .inl (cI, 90, .inl (fun _ => 0))) :: (h0, .inr (10, [.int 0, .ref a1, .int 0, .int 0, .int 1, .int 0, .ref a2, .ref a3, .ref a4, .ref a5, .int 0, .int 0, .int 0, .ref a6, .ref a7, .ref a8, .ref a9, .ref a10, .ref a11, .ref a12, .ref a13, .int 0, .ref a14, .ref a15, .int 0, .ref a16, .ref a17, .null, .null, .long 0, .null, .int 0, .null, .null, .int 0, .int 0, .int 0, .int 0, .null])) :: X) rfl dX10_init_142 (fun H locs hw => ?_)
  refine lv_aload_n hx hb dX10_init_145 rfl (lv_at hl 0 rfl) ?_
  refine lv_bipush (v := 6) hx hb dX10_init_146 (by decide) ?_
  refine g_newI (N := 6) E hw k_78 (by decide) (by decide) (by decide) (Nat.le_of_ble_eq_true rfl) (Nat.le_of_ble_eq_true rfl) dX10_init_148 (fun a18 H locs hw => ?_)
  refine g_putF E hw inX10 tyX10 tyX10_ok nmX10 hin 18 rfl rfl 27 (by decide) k_614 rfl rfl (.array .int) (by decide +kernel) rfl rfl (Nat.le_of_ble_eq_true rfl) ((a18, .inl (cI, 6, .inl (fun _ => 0))) :: (a17, .inl (cI, 6, .inl (fun _ => 0))) :: (a16, .inl (cI, 6, .inl (fun _ => 0))) :: (a15, .inl (cZ, 2, .inl (fun _ => 0))) :: (a14, .inl (cI, 44, .inl (fun _ => 0))) :: (a13, .inl (cI, 308, .inl (fun _ => 0))) :: (a12, .inl (cI, 22, .inl (fun _ => 0))) :: (a11, .inl (cI, 22, .inl (fun _ => 0))) :: (a10, .inl (cI, 10, .inl (fun _ => 0))) :: (a9, .inl (cI, 10, .inl (fun _ => 0))) :: (a8, .inl (cI, 10, .inl (fun _ => 0))) :: (a7, .inl (cI, 10, .inl (fun _ => 0))) :: (a6, .inl (cI, 10, .inl (fun _ => 0))) :: (a5, .inl (cI, 10, .inl (fun _ => 0))) :: (a4, .inl (cI, 10, .inl (fun _ => 0))) :: (a3, .inl (cI, 10, .inl (fun _ => 0))) :: (a2, .inl (cI, 10, .inl (fun _ => 0))) :: (a1, .inl (cI, 90, .inl (fun _ => 0))) :: (h0, .inr (10, [.int 0, .ref a1, .int 0, .int 0, .int 1, .int 0, .ref a2, .ref a3, .ref a4, .ref a5, .int 0, .int 0, .int 0, .ref a6, .ref a7, .ref a8, .ref a9, .ref a10, .ref a11, .ref a12, .ref a13, .int 0, .ref a14, .ref a15, .int 0, .ref a16, .ref a17, .ref a18, .null, .long 0, .null, .int 0, .null, .null, .int 0, .int 0, .int 0, .int 0, .null])) :: X) rfl dX10_init_150 (fun H locs hw => ?_)
  refine lv_aload_n hx hb dX10_init_153 rfl (lv_at hl 0 rfl) ?_
  refine lv_bipush (v := 6) hx hb dX10_init_154 (by decide) ?_
  refine g_newI (N := 6) E hw k_78 (by decide) (by decide) (by decide) (Nat.le_of_ble_eq_true rfl) (Nat.le_of_ble_eq_true rfl) dX10_init_156 (fun a19 H locs hw => ?_)
  refine g_putF E hw inX10 tyX10 tyX10_ok nmX10 hin 19 rfl rfl 28 (by decide) k_615 rfl rfl (.array .int) (by decide +kernel) rfl rfl (Nat.le_of_ble_eq_true rfl) ((a19, .inl (cI, 6, .inl (fun _ => 0))) :: (a18, .inl (cI, 6, .inl (fun _ => 0))) :: (a17, .inl (cI, 6, .inl (fun _ => 0))) :: (a16, .inl (cI, 6, .inl (fun _ => 0))) :: (a15, .inl (cZ, 2, .inl (fun _ => 0))) :: (a14, .inl (cI, 44, .inl (fun _ => 0))) :: (a13, .inl (cI, 308, .inl (fun _ => 0))) :: (a12, .inl (cI, 22, .inl (fun _ => 0))) :: (a11, .inl (cI, 22, .inl (fun _ => 0))) :: (a10, .inl (cI, 10, .inl (fun _ => 0))) :: (a9, .inl (cI, 10, .inl (fun _ => 0))) :: (a8, .inl (cI, 10, .inl (fun _ => 0))) :: (a7, .inl (cI, 10, .inl (fun _ => 0))) :: (a6, .inl (cI, 10, .inl (fun _ => 0))) :: (a5, .inl (cI, 10, .inl (fun _ => 0))) :: (a4, .inl (cI, 10, .inl (fun _ => 0))) :: (a3, .inl (cI, 10, .inl (fun _ => 0))) :: (a2, .inl (cI, 10, .inl (fun _ => 0))) :: (a1, .inl (cI, 90, .inl (fun _ => 0))) :: (h0, .inr (10, [.int 0, .ref a1, .int 0, .int 0, .int 1, .int 0, .ref a2, .ref a3, .ref a4, .ref a5, .int 0, .int 0, .int 0, .ref a6, .ref a7, .ref a8, .ref a9, .ref a10, .ref a11, .ref a12, .ref a13, .int 0, .ref a14, .ref a15, .int 0, .ref a16, .ref a17, .ref a18, .ref a19, .long 0, .null, .int 0, .null, .null, .int 0, .int 0, .int 0, .int 0, .null])) :: X) rfl dX10_init_158 (fun H locs hw => ?_)
  refine lv_aload_n hx hb dX10_init_161 rfl (lv_at hl 0 rfl) ?_
  refine lv_bipush (v := 10) hx hb dX10_init_162 (by decide) ?_
  refine g_newI (N := 10) E hw k_78 (by decide) (by decide) (by decide) (Nat.le_of_ble_eq_true rfl) (Nat.le_of_ble_eq_true rfl) dX10_init_164 (fun a20 H locs hw => ?_)
  refine g_putF E hw inX10 tyX10 tyX10_ok nmX10 hin 20 rfl rfl 30 (by decide) k_617 rfl rfl (.array .int) (by decide +kernel) rfl rfl (Nat.le_of_ble_eq_true rfl) ((a20, .inl (cI, 10, .inl (fun _ => 0))) :: (a19, .inl (cI, 6, .inl (fun _ => 0))) :: (a18, .inl (cI, 6, .inl (fun _ => 0))) :: (a17, .inl (cI, 6, .inl (fun _ => 0))) :: (a16, .inl (cI, 6, .inl (fun _ => 0))) :: (a15, .inl (cZ, 2, .inl (fun _ => 0))) :: (a14, .inl (cI, 44, .inl (fun _ => 0))) :: (a13, .inl (cI, 308, .inl (fun _ => 0))) :: (a12, .inl (cI, 22, .inl (fun _ => 0))) :: (a11, .inl (cI, 22, .inl (fun _ => 0))) :: (a10, .inl (cI, 10, .inl (fun _ => 0))) :: (a9, .inl (cI, 10, .inl (fun _ => 0))) :: (a8, .inl (cI, 10, .inl (fun _ => 0))) :: (a7, .inl (cI, 10, .inl (fun _ => 0))) :: (a6, .inl (cI, 10, .inl (fun _ => 0))) :: (a5, .inl (cI, 10, .inl (fun _ => 0))) :: (a4, .inl (cI, 10, .inl (fun _ => 0))) :: (a3, .inl (cI, 10, .inl (fun _ => 0))) :: (a2, .inl (cI, 10, .inl (fun _ => 0))) :: (a1, .inl (cI, 90, .inl (fun _ => 0))) :: (h0, .inr (10, [.int 0, .ref a1, .int 0, .int 0, .int 1, .int 0, .ref a2, .ref a3, .ref a4, .ref a5, .int 0, .int 0, .int 0, .ref a6, .ref a7, .ref a8, .ref a9, .ref a10, .ref a11, .ref a12, .ref a13, .int 0, .ref a14, .ref a15, .int 0, .ref a16, .ref a17, .ref a18, .ref a19, .long 0, .ref a20, .int 0, .null, .null, .int 0, .int 0, .int 0, .int 0, .null])) :: X) rfl dX10_init_166 (fun H locs hw => ?_)
  refine lv_aload_n hx hb dX10_init_169 rfl (lv_at hl 0 rfl) ?_
  refine lv_bipush (v := 40) hx hb dX10_init_170 (by decide) ?_
  refine g_newI (N := 40) E hw k_78 (by decide) (by decide) (by decide) (Nat.le_of_ble_eq_true rfl) (Nat.le_of_ble_eq_true rfl) dX10_init_172 (fun a21 H locs hw => ?_)
  refine g_putF E hw inX10 tyX10 tyX10_ok nmX10 hin 21 rfl rfl 32 (by decide) k_619 rfl rfl (.array .int) (by decide +kernel) rfl rfl (Nat.le_of_ble_eq_true rfl) ((a21, .inl (cI, 40, .inl (fun _ => 0))) :: (a20, .inl (cI, 10, .inl (fun _ => 0))) :: (a19, .inl (cI, 6, .inl (fun _ => 0))) :: (a18, .inl (cI, 6, .inl (fun _ => 0))) :: (a17, .inl (cI, 6, .inl (fun _ => 0))) :: (a16, .inl (cI, 6, .inl (fun _ => 0))) :: (a15, .inl (cZ, 2, .inl (fun _ => 0))) :: (a14, .inl (cI, 44, .inl (fun _ => 0))) :: (a13, .inl (cI, 308, .inl (fun _ => 0))) :: (a12, .inl (cI, 22, .inl (fun _ => 0))) :: (a11, .inl (cI, 22, .inl (fun _ => 0))) :: (a10, .inl (cI, 10, .inl (fun _ => 0))) :: (a9, .inl (cI, 10, .inl (fun _ => 0))) :: (a8, .inl (cI, 10, .inl (fun _ => 0))) :: (a7, .inl (cI, 10, .inl (fun _ => 0))) :: (a6, .inl (cI, 10, .inl (fun _ => 0))) :: (a5, .inl (cI, 10, .inl (fun _ => 0))) :: (a4, .inl (cI, 10, .inl (fun _ => 0))) :: (a3, .inl (cI, 10, .inl (fun _ => 0))) :: (a2, .inl (cI, 10, .inl (fun _ => 0))) :: (a1, .inl (cI, 90, .inl (fun _ => 0))) :: (h0, .inr (10, [.int 0, .ref a1, .int 0, .int 0, .int 1, .int 0, .ref a2, .ref a3, .ref a4, .ref a5, .int 0, .int 0, .int 0, .ref a6, .ref a7, .ref a8, .ref a9, .ref a10, .ref a11, .ref a12, .ref a13, .int 0, .ref a14, .ref a15, .int 0, .ref a16, .ref a17, .ref a18, .ref a19, .long 0, .ref a20, .int 0, .ref a21, .null, .int 0, .int 0, .int 0, .int 0, .null])) :: X) rfl dX10_init_174 (fun H locs hw => ?_)
  refine lv_aload_n hx hb dX10_init_177 rfl (lv_at hl 0 rfl) ?_
  refine lv_bipush (v := 40) hx hb dX10_init_178 (by decide) ?_
  refine g_newZ (N := 40) E hw k_626 (by decide) (by decide) (by decide) (Nat.le_of_ble_eq_true rfl) (Nat.le_of_ble_eq_true rfl) dX10_init_180 (fun a22 H locs hw => ?_)
  refine g_putF E hw inX10 tyX10 tyX10_ok nmX10 hin 22 rfl rfl 33 (by decide) k_620 rfl rfl (.array .boolean) (by decide +kernel) rfl rfl (Nat.le_of_ble_eq_true rfl) ((a22, .inl (cZ, 40, .inl (fun _ => 0))) :: (a21, .inl (cI, 40, .inl (fun _ => 0))) :: (a20, .inl (cI, 10, .inl (fun _ => 0))) :: (a19, .inl (cI, 6, .inl (fun _ => 0))) :: (a18, .inl (cI, 6, .inl (fun _ => 0))) :: (a17, .inl (cI, 6, .inl (fun _ => 0))) :: (a16, .inl (cI, 6, .inl (fun _ => 0))) :: (a15, .inl (cZ, 2, .inl (fun _ => 0))) :: (a14, .inl (cI, 44, .inl (fun _ => 0))) :: (a13, .inl (cI, 308, .inl (fun _ => 0))) :: (a12, .inl (cI, 22, .inl (fun _ => 0))) :: (a11, .inl (cI, 22, .inl (fun _ => 0))) :: (a10, .inl (cI, 10, .inl (fun _ => 0))) :: (a9, .inl (cI, 10, .inl (fun _ => 0))) :: (a8, .inl (cI, 10, .inl (fun _ => 0))) :: (a7, .inl (cI, 10, .inl (fun _ => 0))) :: (a6, .inl (cI, 10, .inl (fun _ => 0))) :: (a5, .inl (cI, 10, .inl (fun _ => 0))) :: (a4, .inl (cI, 10, .inl (fun _ => 0))) :: (a3, .inl (cI, 10, .inl (fun _ => 0))) :: (a2, .inl (cI, 10, .inl (fun _ => 0))) :: (a1, .inl (cI, 90, .inl (fun _ => 0))) :: (h0, .inr (10, [.int 0, .ref a1, .int 0, .int 0, .int 1, .int 0, .ref a2, .ref a3, .ref a4, .ref a5, .int 0, .int 0, .int 0, .ref a6, .ref a7, .ref a8, .ref a9, .ref a10, .ref a11, .ref a12, .ref a13, .int 0, .ref a14, .ref a15, .int 0, .ref a16, .ref a17, .ref a18, .ref a19, .long 0, .ref a20, .int 0, .ref a21, .ref a22, .int 0, .int 0, .int 0, .int 0, .null])) :: X) rfl dX10_init_182 (fun H locs hw => ?_)
  refine lv_aload_n hx hb dX10_init_185 rfl (lv_at hl 0 rfl) ?_
  refine lv_bipush (v := 121) hx hb dX10_init_186 (by decide) ?_
  refine g_newI (N := 121) E hw k_78 (by decide) (by decide) (by decide) (Nat.le_of_ble_eq_true rfl) (Nat.le_of_ble_eq_true rfl) dX10_init_188 (fun a23 H locs hw => ?_)
  refine g_putF E hw inX10 tyX10 tyX10_ok nmX10 hin 23 rfl rfl 38 (by decide) k_625 rfl rfl (.array .int) (by decide +kernel) rfl rfl (Nat.le_of_ble_eq_true rfl) ((a23, .inl (cI, 121, .inl (fun _ => 0))) :: (a22, .inl (cZ, 40, .inl (fun _ => 0))) :: (a21, .inl (cI, 40, .inl (fun _ => 0))) :: (a20, .inl (cI, 10, .inl (fun _ => 0))) :: (a19, .inl (cI, 6, .inl (fun _ => 0))) :: (a18, .inl (cI, 6, .inl (fun _ => 0))) :: (a17, .inl (cI, 6, .inl (fun _ => 0))) :: (a16, .inl (cI, 6, .inl (fun _ => 0))) :: (a15, .inl (cZ, 2, .inl (fun _ => 0))) :: (a14, .inl (cI, 44, .inl (fun _ => 0))) :: (a13, .inl (cI, 308, .inl (fun _ => 0))) :: (a12, .inl (cI, 22, .inl (fun _ => 0))) :: (a11, .inl (cI, 22, .inl (fun _ => 0))) :: (a10, .inl (cI, 10, .inl (fun _ => 0))) :: (a9, .inl (cI, 10, .inl (fun _ => 0))) :: (a8, .inl (cI, 10, .inl (fun _ => 0))) :: (a7, .inl (cI, 10, .inl (fun _ => 0))) :: (a6, .inl (cI, 10, .inl (fun _ => 0))) :: (a5, .inl (cI, 10, .inl (fun _ => 0))) :: (a4, .inl (cI, 10, .inl (fun _ => 0))) :: (a3, .inl (cI, 10, .inl (fun _ => 0))) :: (a2, .inl (cI, 10, .inl (fun _ => 0))) :: (a1, .inl (cI, 90, .inl (fun _ => 0))) :: (h0, .inr (10, [.int 0, .ref a1, .int 0, .int 0, .int 1, .int 0, .ref a2, .ref a3, .ref a4, .ref a5, .int 0, .int 0, .int 0, .ref a6, .ref a7, .ref a8, .ref a9, .ref a10, .ref a11, .ref a12, .ref a13, .int 0, .ref a14, .ref a15, .int 0, .ref a16, .ref a17, .ref a18, .ref a19, .long 0, .ref a20, .int 0, .ref a21, .ref a22, .int 0, .int 0, .int 0, .int 0, .ref a23])) :: X) rfl dX10_init_190 (fun H locs hw => ?_)
  refine lv_aload_n hx hb dX10_init_193 rfl (lv_at hl 0 rfl) ?_
  refine g_get E hw inX10 23 rfl rfl 18 (by decide) k_605 rfl dX10_init_194 ?_
  refine lv_bipush (v := 20) hx hb dX10_init_197 (by decide) ?_
  refine lv_iconst (v := 1) hx hb dX10_init_199 (by decide) ?_
  refine g_iast E hw 12 0 rfl rfl (by unfold vp_in; decide) ((a23, .inl (cI, 121, .inl (fun _ => 0))) :: (a22, .inl (cZ, 40, .inl (fun _ => 0))) :: (a21, .inl (cI, 40, .inl (fun _ => 0))) :: (a20, .inl (cI, 10, .inl (fun _ => 0))) :: (a19, .inl (cI, 6, .inl (fun _ => 0))) :: (a18, .inl (cI, 6, .inl (fun _ => 0))) :: (a17, .inl (cI, 6, .inl (fun _ => 0))) :: (a16, .inl (cI, 6, .inl (fun _ => 0))) :: (a15, .inl (cZ, 2, .inl (fun _ => 0))) :: (a14, .inl (cI, 44, .inl (fun _ => 0))) :: (a13, .inl (cI, 308, .inl (fun _ => 0))) :: (a12, .inl (cI, 22, .inl (fun _ => 0))) :: (a11, .inl (cI, 22, .inl (upd (fun _ => 0) ((20 : Int32)).toNatClampNeg (1 : Int32)))) :: (a10, .inl (cI, 10, .inl (fun _ => 0))) :: (a9, .inl (cI, 10, .inl (fun _ => 0))) :: (a8, .inl (cI, 10, .inl (fun _ => 0))) :: (a7, .inl (cI, 10, .inl (fun _ => 0))) :: (a6, .inl (cI, 10, .inl (fun _ => 0))) :: (a5, .inl (cI, 10, .inl (fun _ => 0))) :: (a4, .inl (cI, 10, .inl (fun _ => 0))) :: (a3, .inl (cI, 10, .inl (fun _ => 0))) :: (a2, .inl (cI, 10, .inl (fun _ => 0))) :: (a1, .inl (cI, 90, .inl (fun _ => 0))) :: (h0, .inr (10, [.int 0, .ref a1, .int 0, .int 0, .int 1, .int 0, .ref a2, .ref a3, .ref a4, .ref a5, .int 0, .int 0, .int 0, .ref a6, .ref a7, .ref a8, .ref a9, .ref a10, .ref a11, .ref a12, .ref a13, .int 0, .ref a14, .ref a15, .int 0, .ref a16, .ref a17, .ref a18, .ref a19, .long 0, .ref a20, .int 0, .ref a21, .ref a22, .int 0, .int 0, .int 0, .int 0, .ref a23])) :: X) rfl dX10_init_200 (fun H locs hw => ?_)
  exact hret _ _ _ _ _ ⟨(fun k => ([a23, a22, a21, a20, a19, a18, a17, a16, a15, a14, a13, a12, a11, a10, a9, a8, a7, a6, a5, a4, a3, a2, a1, h0] : List Nat).getD k 0), rfl, rfl⟩ hw dX10_init_201
