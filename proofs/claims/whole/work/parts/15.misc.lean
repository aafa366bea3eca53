/-! ===== ranges, small methods ===== -/
theorem lt_lit {a : Int32} {n : Nat} (h : n < 2 ^ 31) : a < nI n ↔ a.toInt < n := by rw [Int32.lt_iff_toInt_lt, nI_toInt h]
theorem le_lit {a : Int32} {n : Nat} (h : n < 2 ^ 31) : a ≤ nI n ↔ a.toInt ≤ n := by rw [Int32.le_iff_toInt_le, nI_toInt h]
theorem lit_lt {a : Int32} {n : Nat} (h : n < 2 ^ 31) : nI n < a ↔ (n : Int) < a.toInt := by rw [Int32.lt_iff_toInt_lt, nI_toInt h]
theorem lit_le {a : Int32} {n : Nat} (h : n < 2 ^ 31) : nI n ≤ a ↔ (n : Int) ≤ a.toInt := by rw [Int32.le_iff_toInt_le, nI_toInt h]
theorem rg_ix (a : Int32) (L H : Nat) (hH : H < 2 ^ 29) : (∃ j, L ≤ j ∧ j ≤ H ∧ a = nI j) ∨ ¬ ((L : Int) ≤ a.toInt ∧ a.toInt ≤ H) := by
  rcases ge_ix (a := a) (N := H + 1) (by omega) with ⟨g, h1, h2⟩ | h
  · by_cases hl : L ≤ g
    · exact Or.inl ⟨g, hl, by omega, h2⟩
    · refine Or.inr fun z => ?_
      rw [h2, nI_toInt (by omega)] at z; omega
  · exact Or.inr fun z => h (by omega)
/-- out of a range: below, or above, as the class asks -/
theorem out_lg {a : Int32} {L H : Nat} (hL : L < 2 ^ 31) (hH : H < 2 ^ 31) (h : ¬ ((L : Int) ≤ a.toInt ∧ a.toInt ≤ H)) {F T : Prop} (f : F) : ((a < nI L → F) ∧ (¬ a < nI L → ((nI H < a → F) ∧ (¬ nI H < a → T)))) := by
  rw [lt_lit hL, lit_lt hH]
  by_cases h1 : a.toInt < L
  · exact br_t h1 f
  · exact br_f h1 (br_t (by omega) f)
theorem in_lg {j L H : Nat} (h1 : L ≤ j) (h2 : j ≤ H) (hH : H < 2 ^ 31) {F T : Prop} (t : T) : ((nI j < nI L → F) ∧ (¬ nI j < nI L → ((nI H < nI j → F) ∧ (¬ nI H < nI j → T)))) :=
  br_f (by rw [nI_ltI (by omega) (by omega)]; omega) (br_f (by rw [nI_ltI (by omega) (by omega)]; omega) t)
/-- the same with 'a ≤ H' asked last -/
theorem out_ll {a : Int32} {L H : Nat} (hL : L < 2 ^ 31) (hH : H < 2 ^ 31) (h : ¬ ((L : Int) ≤ a.toInt ∧ a.toInt ≤ H)) {F T : Prop} (f : F) : ((a < nI L → F) ∧ (¬ a < nI L → ((a ≤ nI H → T) ∧ (¬ a ≤ nI H → F)))) := by
  rw [lt_lit hL, le_lit hH]
  by_cases h1 : a.toInt < L
  · exact br_t h1 f
  · exact br_f h1 (br_f (by omega) f)
theorem in_ll {j L H : Nat} (h1 : L ≤ j) (h2 : j ≤ H) (hH : H < 2 ^ 31) {F T : Prop} (t : T) : ((nI j < nI L → F) ∧ (¬ nI j < nI L → ((nI j ≤ nI H → T) ∧ (¬ nI j ≤ nI H → F)))) :=
  br_f (by rw [nI_ltI (by omega) (by omega)]; omega) (br_t (by rw [nI_leI (by omega) (by omega)]; omega) t)
/-- the same with 'H ≤ a' -/
theorem out_lh {a : Int32} {N : Nat} (hN : N < 2 ^ 31) (h : ¬ (0 ≤ a.toInt ∧ a.toInt < N)) {F T : Prop} (f : F) : ((a < 0 → F) ∧ (¬ a < 0 → ((nI N ≤ a → F) ∧ (¬ nI N ≤ a → T)))) := by
  rw [show (0 : Int32) = nI 0 from rfl, lt_lit (by omega), lit_le hN]
  by_cases h1 : a.toInt < ((0 : Nat) : Int)
  · exact br_t h1 f
  · exact br_f h1 (br_t (by omega) f)
theorem in_lh {j N : Nat} (h : j < N) (hN : N < 2 ^ 31) {F T : Prop} (t : T) : ((nI j < 0 → F) ∧ (¬ nI j < 0 → ((nI N ≤ nI j → F) ∧ (¬ nI N ≤ nI j → T)))) :=
  br_f (nI_pos (by omega)) (br_f (by rw [nI_leI (by omega) (by omega)]; omega) t)
theorem ev_isGate_t {N g : Nat} {Q : Int32 → Prop} (hN : N < 2 ^ 31) (hg : g < N) (h : Q 1) : wp_X9_isGate (nI N) (nI g) Q := in_lh hg hN h
theorem ev_isGate_f {N : Nat} {a : Int32} {Q : Int32 → Prop} (hN : N < 2 ^ 31) (ha : ¬ (0 ≤ a.toInt ∧ a.toInt < N)) (h : Q 0) : wp_X9_isGate (nI N) a Q := out_lh hN ha h
theorem ev_isChip_t {N g : Nat} {Q : Int32 → Prop} (hN : N < 2 ^ 31) (hg : g < N) (h : Q 1) : wp_X9_isChip (nI N) (nI g) Q := in_lh hg hN h
theorem ev_isChip_f {N : Nat} {a : Int32} {Q : Int32 → Prop} (hN : N < 2 ^ 31) (ha : ¬ (0 ≤ a.toInt ∧ a.toInt < N)) (h : Q 0) : wp_X9_isChip (nI N) a Q := out_lh hN ha h
theorem ev_isKeeper_t {g : Nat} {Q : Int32 → Prop} (hg : g < 2) (h : Q 1) : wp_X9_isKeeper (nI g) Q := in_lh (N := 2) hg (by omega) h
theorem ev_isKeeper_f {a : Int32} {Q : Int32 → Prop} (ha : ¬ (0 ≤ a.toInt ∧ a.toInt < 2)) (h : Q 0) : wp_X9_isKeeper a Q := out_lh (N := 2) (by omega) ha h
theorem ev_isValue_t {v : Nat} {Q : Int32 → Prop} (hv : v ≤ 2) (h : Q 1) : wp_X9_isValue (nI v) Q := in_lg (L := 0) (H := 2) (by omega) hv (by omega) h
theorem ev_isValue_f {a : Int32} {Q : Int32 → Prop} (ha : ¬ (((0 : Nat) : Int) ≤ a.toInt ∧ a.toInt ≤ (2 : Nat))) (h : Q 0) : wp_X9_isValue a Q := out_lg (L := 0) (H := 2) (by omega) (by omega) ha h
theorem ev_isPins_t {v : Nat} {Q : Int32 → Prop} (hv : 1 ≤ v ∧ v ≤ 9) (h : Q 1) : wp_X9_isPins (nI v) Q := in_lg (L := 1) (H := 9) hv.1 hv.2 (by omega) h
theorem ev_isPins_f {a : Int32} {Q : Int32 → Prop} (ha : ¬ (((1 : Nat) : Int) ≤ a.toInt ∧ a.toInt ≤ (9 : Nat))) (h : Q 0) : wp_X9_isPins a Q := out_lg (L := 1) (H := 9) (by omega) (by omega) ha h
theorem ev_in_t {j L H : Nat} {y z : Int64} (h1 : L ≤ j) (h2 : j ≤ H) (hH : H < 2 ^ 31) {Q : Int32 → Prop} (h : Q 1) (hy : y.toInt = (L : Int) := by decide) (hz : z.toInt = (H : Int) := by decide) : wp_X10_in (nI j).toInt64 y z Q := by
  refine ev_in ?_
  rw [Int32.toInt_toInt64, nI_toInt (by omega), hy, hz, if_pos (by omega)]; exact h
theorem ev_in_f {a : Int32} {L H : Nat} {y z : Int64} (ha : ¬ ((L : Int) ≤ a.toInt ∧ a.toInt ≤ H)) {Q : Int32 → Prop} (h : Q 0) (hy : y.toInt = (L : Int) := by decide) (hz : z.toInt = (H : Int) := by decide) : wp_X10_in a.toInt64 y z Q := by
  refine ev_in ?_
  rw [Int32.toInt_toInt64, hy, hz, if_neg ha]; exact h
