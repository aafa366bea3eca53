/-! ===== numbers ===== -/
theorem lN_div {a d : Nat} (ha : a < 2 ^ 63) (h0 : 0 < d) (hd : d < 2 ^ 63) : lN a / lN d = lN (a / d) := by
  apply Int64.toInt_inj.mp
  rw [lg_ldiv_nonneg (by rw [pk_lT ha]; omega) (by rw [pk_lT hd]; omega), pk_lT ha, pk_lT hd, pk_lT (Nat.lt_of_le_of_lt (Nat.div_le_self a d) ha)]
  first | rfl | exact (Int.natCast_ediv _ _).symm
theorem lN_rem {a d : Nat} (ha : a < 2 ^ 63) (h0 : 0 < d) (hd : d < 2 ^ 63) : lN a - lN a / lN d * lN d = lN (a % d) := by
  rw [lN_div ha h0 hd, lN_mul, lN_sub (Nat.div_mul_le_self a d)]
  exact congrArg lN (by have := Nat.div_add_mod' a d; omega)
theorem cpow_loop {b e : Nat} (hb : b < 2 ^ 31) (he : e < 100) {Q : Int64 → Prop} (hQ : Q (lN (b ^ e))) : ∀ (d i : Nat), i + d = e → wp_X9_power_h5 (nI b) (nI e) Q (d + 1) (lN (b ^ i)) (nI i) := by
  intro d
  induction d with
  | zero =>
    intro i hid
    show wp_X9_power_b5 _ _ _ _ _ _
    unfold wp_X9_power_b5
    have : i = e := by omega
    subst this
    exact pk_le i i (fun _ => hQ) (fun h => absurd h (by omega))
  | succ d ih =>
    intro i hid
    show wp_X9_power_b5 _ _ _ (wp_X9_power_h5 (nI b) (nI e) Q (d + 1)) _ _
    unfold wp_X9_power_b5
    refine pk_le e i (fun h => absurd h (by omega)) (fun _ => all_e (all_e ?_))
    rw [nI_1, nI_l hb, lN_mul, ← Nat.pow_succ]
    exact ih (i + 1) (by omega)
theorem ev_cpower {b e : Nat} (hb : b < 2 ^ 31) (he : e < 100) {Q : Int64 → Prop} (hQ : Q (lN (b ^ e))) : wp_X9_power (nI b) (nI e) Q := ⟨e + 1, cpow_loop hb he hQ e 0 (by omega)⟩
theorem lpow_loop {b e : Nat} (he : e < 100) {Q : Int64 → Prop} (hQ : Q (lN (b ^ e))) : ∀ (d i : Nat), i + d = e → wp_X10_longPower_h5 (lN b) (nI e) Q (d + 1) (lN (b ^ i)) (nI i) := by
  intro d
  induction d with
  | zero =>
    intro i hid
    show wp_X10_longPower_b5 _ _ _ _ _ _
    unfold wp_X10_longPower_b5
    have : i = e := by omega
    subst this
    exact pk_le i i (fun _ => hQ) (fun h => absurd h (by omega))
  | succ d ih =>
    intro i hid
    show wp_X10_longPower_b5 _ _ _ (wp_X10_longPower_h5 (lN b) (nI e) Q (d + 1)) _ _
    unfold wp_X10_longPower_b5
    refine pk_le e i (fun h => absurd h (by omega)) (fun _ => all_e (all_e ?_))
    rw [nI_1, lN_mul, ← Nat.pow_succ]
    exact ih (i + 1) (by omega)
theorem ev_longPower {b e : Nat} (he : e < 100) {Q : Int64 → Prop} (hQ : Q (lN (b ^ e))) : wp_X10_longPower (lN b) (nI e) Q := ⟨e + 1, lpow_loop he hQ e 0 (by omega)⟩
theorem ipow_loop {b e : Nat} (he : e < 100) {Q : Int32 → Prop} (hQ : Q (nI (b ^ e))) : ∀ (d i : Nat), i + d = e → wp_X10_power_h4 (nI b) (nI e) Q (d + 1) (nI (b ^ i)) (nI i) := by
  intro d
  induction d with
  | zero =>
    intro i hid
    show wp_X10_power_b4 _ _ _ _ _ _
    unfold wp_X10_power_b4
    have : i = e := by omega
    subst this
    exact pk_le i i (fun _ => hQ) (fun h => absurd h (by omega))
  | succ d ih =>
    intro i hid
    show wp_X10_power_b4 _ _ _ (wp_X10_power_h4 (nI b) (nI e) Q (d + 1)) _ _
    unfold wp_X10_power_b4
    refine pk_le e i (fun h => absurd h (by omega)) (fun _ => all_e (all_e ?_))
    rw [nI_1, pk_mul, ← Nat.pow_succ]
    exact ih (i + 1) (by omega)
theorem ev_ipower {b e : Nat} (he : e < 100) {Q : Int32 → Prop} (hQ : Q (nI (b ^ e))) : wp_X10_power (nI b) (nI e) Q := ⟨e + 1, ipow_loop he hQ e 0 (by omega)⟩
theorem stm_loop {R m : Nat} (hR : R < 2 ^ 60) (hm : m < 100) {Q : Int32 → Prop} (hQ : Q (nI (R / 1000 ^ m % 1000))) : ∀ (d i : Nat), i + d = m → wp_X9_statementOf_h5 (lN R) (nI m) Q (d + 1) (lN (R / 1000 ^ i)) (nI i) := by
  intro d
  induction d with
  | zero =>
    intro i hid
    show wp_X9_statementOf_b5 (lN R) (nI m) Q _ _ _
    unfold wp_X9_statementOf_b5
    have : i = m := by omega
    subst this
    refine pk_le i i (fun _ => ?_) (fun h => absurd h (by omega))
    have hlt : R / 1000 ^ i < 2 ^ 63 := Nat.lt_of_le_of_lt (Nat.div_le_self _ _) (by omega)
    have e : lN (R / 1000 ^ i) - lN (R / 1000 ^ i) / (1000 : Int64) * (1000 : Int64) = lN (R / 1000 ^ i % 1000) := lN_rem (d := 1000) hlt (by omega) (by omega)
    rw [e, lN_i]
    exact hQ
  | succ d ih =>
    intro i hid
    show wp_X9_statementOf_b5 (lN R) (nI m) Q (wp_X9_statementOf_h5 (lN R) (nI m) Q (d + 1)) _ _
    unfold wp_X9_statementOf_b5
    refine pk_le m i (fun h => absurd h (by omega)) (fun _ => all_e (all_e ?_))
    have hlt : R / 1000 ^ i < 2 ^ 63 := Nat.lt_of_le_of_lt (Nat.div_le_self _ _) (by omega)
    have e : lN (R / 1000 ^ i) / (1000 : Int64) = lN (R / 1000 ^ (i + 1)) := by
      have := lN_div (a := R / 1000 ^ i) (d := 1000) hlt (by omega) (by omega)
      rw [Nat.div_div_eq_div_mul, ← Nat.pow_succ] at this
      exact this
    rw [nI_1, e]
    exact ih (i + 1) (by omega)
theorem ev_statementOf {R m : Nat} (hR : R < 2 ^ 60) (hm : m < 100) {Q : Int32 → Prop} (hQ : Q (nI (R / 1000 ^ m % 1000))) : wp_X9_statementOf (lN R) (nI m) Q := by
  have := stm_loop hR hm hQ m 0 (by omega)
  rw [Nat.pow_zero, Nat.div_one] at this
  exact ⟨m + 1, this⟩
/-- a long in a range -/
theorem lg_ix (x : Int64) (H : Nat) (hH : H < 2 ^ 62) : (∃ R, R < H ∧ x = lN R) ∨ ¬ (0 ≤ x.toInt ∧ x.toInt < H) := by
  by_cases h : 0 ≤ x.toInt ∧ x.toInt < H
  · refine Or.inl ⟨x.toInt.toNat, by omega, ?_⟩
    apply Int64.toInt_inj.mp
    rw [pk_lT (by omega)]; omega
  · exact Or.inr h
