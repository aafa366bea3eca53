/-! ===== reduced fractions ===== -/
theorem gcd_st (a b : Nat) : Nat.gcd a b = Nat.gcd b (a % b) := by rw [Nat.gcd_comm a b, Nat.gcd_rec b a, Nat.gcd_comm]
theorem mod_half {b r : Nat} (h0 : 0 < r) (h : r < b) {k : Nat} (hb : b < 2 ^ (k + 1)) : b % r < 2 ^ k := by
  have h1 := Nat.mod_lt b h0
  have h2 := Nat.div_add_mod b r
  have h3 : 1 ≤ b / r := Nat.div_pos (by omega) h0
  have h4 : r * 1 ≤ r * (b / r) := Nat.mul_le_mul_left r h3
  rw [Nat.pow_succ] at hb
  omega
theorem cgcd_loop {p0 p1 : Int32} {Q : Int32 → Prop} : ∀ (k a b i : Nat), a < 2 ^ 31 → b < 2 ^ k → b < 2 ^ 31 → i + 2 * k < 64 → Q (nI (Nat.gcd a b)) → wp_X9_commonDivisor_h7 p0 p1 Q (2 * k + 1) (nI a) (nI b) (nI i) := by
  intro k
  induction k with
  | zero =>
    intro a b i ha hb hb2 hi hQ
    have hb0 : b = 0 := by simpa using hb
    subst hb0
    show wp_X9_commonDivisor_b7 p0 p1 Q _ _ _ _
    unfold wp_X9_commonDivisor_b7
    rw [Nat.gcd_zero_right] at hQ
    exact pk_le 64 i (fun h => absurd h (by omega)) (fun _ => br_t rfl hQ)
  | succ k ih =>
    intro a b i ha hb hb2 hi hQ
    rw [show 2 * (k + 1) + 1 = (2 * k + 1) + 1 + 1 by omega]
    show wp_X9_commonDivisor_b7 p0 p1 Q (wp_X9_commonDivisor_h7 p0 p1 Q ((2 * k + 1) + 1)) _ _ _
    unfold wp_X9_commonDivisor_b7
    refine pk_le 64 i (fun h => absurd h (by omega)) (fun _ => ?_)
    by_cases hb0 : b = 0
    · subst hb0
      rw [Nat.gcd_zero_right] at hQ
      exact br_t rfl hQ
    · have n0 : ¬ nI b = 0 := by rw [← nI_0, nI_eq (by omega) (by omega)]; exact hb0
      refine br_f n0 ⟨n0, all_e (all_e ?_)⟩
      have hr := Nat.mod_lt a (show 0 < b by omega)
      rw [pk_rem ha (by omega) hb2, nI_1]
      rw [gcd_st] at hQ
      show wp_X9_commonDivisor_b7 p0 p1 Q (wp_X9_commonDivisor_h7 p0 p1 Q (2 * k + 1)) _ _ _
      unfold wp_X9_commonDivisor_b7
      refine pk_le 64 (i + 1) (fun h => absurd h (by omega)) (fun _ => ?_)
      by_cases hr0 : a % b = 0
      · rw [hr0] at hQ ⊢
        rw [Nat.gcd_zero_right] at hQ
        exact br_t rfl hQ
      · have n1 : ¬ nI (a % b) = 0 := by rw [← nI_0, nI_eq (by omega) (by omega)]; exact hr0
        refine br_f n1 ⟨n1, all_e (all_e ?_)⟩
        rw [pk_rem hb2 (by omega) (by omega), nI_1]
        rw [gcd_st] at hQ
        have hr2 := Nat.mod_lt b (show 0 < a % b by omega)
        exact ih (a % b) (b % (a % b)) (i + 1 + 1) (by omega) (mod_half (by omega) hr hb) (by omega) (by omega) hQ
theorem mgcd_loop {p0 p1 : Int32} {Q : Int32 → Prop} : ∀ (k a b : Nat), a < 2 ^ 31 → b < 2 ^ k → b < 2 ^ 31 → Q (nI (Nat.gcd a b)) → wp_X10_divisor_h13 p0 p1 Q (2 * k + 1) (nI a) (nI b) := by
  intro k
  induction k with
  | zero =>
    intro a b ha hb hb2 hQ
    have hb0 : b = 0 := by simpa using hb
    subst hb0
    show wp_X10_divisor_b13 p0 p1 Q _ _ _
    unfold wp_X10_divisor_b13
    rw [Nat.gcd_zero_right] at hQ
    exact br_t rfl hQ
  | succ k ih =>
    intro a b ha hb hb2 hQ
    rw [show 2 * (k + 1) + 1 = (2 * k + 1) + 1 + 1 by omega]
    show wp_X10_divisor_b13 p0 p1 Q (wp_X10_divisor_h13 p0 p1 Q ((2 * k + 1) + 1)) _ _
    unfold wp_X10_divisor_b13
    by_cases hb0 : b = 0
    · subst hb0
      rw [Nat.gcd_zero_right] at hQ
      exact br_t rfl hQ
    · have n0 : ¬ nI b = 0 := by rw [← nI_0, nI_eq (by omega) (by omega)]; exact hb0
      refine br_f n0 ⟨n0, all_e ?_⟩
      have hr := Nat.mod_lt a (show 0 < b by omega)
      rw [pk_rem ha (by omega) hb2]
      rw [gcd_st] at hQ
      show wp_X10_divisor_b13 p0 p1 Q (wp_X10_divisor_h13 p0 p1 Q (2 * k + 1)) _ _
      unfold wp_X10_divisor_b13
      by_cases hr0 : a % b = 0
      · rw [hr0] at hQ ⊢
        rw [Nat.gcd_zero_right] at hQ
        exact br_t rfl hQ
      · have n1 : ¬ nI (a % b) = 0 := by rw [← nI_0, nI_eq (by omega) (by omega)]; exact hr0
        refine br_f n1 ⟨n1, all_e ?_⟩
        rw [pk_rem hb2 (by omega) (by omega)]
        rw [gcd_st] at hQ
        have hr2 := Nat.mod_lt b (show 0 < a % b by omega)
        exact ih (a % b) (b % (a % b)) (by omega) (mod_half (by omega) hr hb) (by omega) hQ
/-- both sides of a reduced fraction -/
def frI (a b : Nat) (u : Int32) : Int32 := if u = 0 then nI (b / Nat.gcd a b) else nI (a / Nat.gcd a b)
theorem gcd_bd {a b : Nat} (hb : 0 < b) : 0 < Nat.gcd a b ∧ Nat.gcd a b ≤ b := ⟨Nat.gcd_pos_of_pos_right a hb, Nat.gcd_le_right a hb⟩
theorem ev_cfraction {a b : Nat} (ha : a < 2 ^ 31) (hb : 0 < b) (hb2 : b < 2 ^ 30) {u : Int32} {Q : Int32 → Prop} (hQ : Q (frI a b u)) : wp_X9_fraction (nI a) (nI b) u Q := by
  obtain ⟨g1, g2⟩ := gcd_bd (a := a) hb
  unfold wp_X9_fraction
  refine ⟨2 * 30 + 1, cgcd_loop 30 a b 0 ha hb2 (by omega) (by omega) ?_⟩
  have n0 : ¬ nI (Nat.gcd a b) = 0 := by rw [← nI_0, nI_eq (by omega) (by omega)]; omega
  refine bn_f n0 ?_
  unfold frI at hQ
  rw [pk_div (by omega) g1 (by omega), pk_div ha g1 (by omega)]
  by_cases h : u = 0
  · rw [if_pos h] at hQ; exact br_t h ⟨n0, hQ⟩
  · rw [if_neg h] at hQ; exact br_f h ⟨n0, hQ⟩
theorem ev_mfraction {a b : Nat} (ha : a < 2 ^ 31) (hb : 0 < b) (hb2 : b < 2 ^ 30) {u : Int32} {Q : Int32 → Prop} (hQ : Q (frI a b u)) : wp_X10_fraction (nI a) (nI b) u Q := by
  obtain ⟨g1, g2⟩ := gcd_bd (a := a) hb
  unfold wp_X10_fraction wp_X10_divisor wp_X10_divisor_b10
  refine br_t (nI_le (a := 0) (by omega) (by omega)) ⟨2 * 30 + 1, mgcd_loop 30 a b ha hb2 (by omega) ?_⟩
  have n0 : ¬ nI (Nat.gcd a b) = 0 := by rw [← nI_0, nI_eq (by omega) (by omega)]; omega
  unfold frI at hQ
  rw [pk_div (by omega) g1 (by omega), pk_div ha g1 (by omega)]
  by_cases h : u = 0
  · rw [if_pos h] at hQ; exact br_t h ⟨n0, hQ⟩
  · rw [if_neg h] at hQ; exact br_f h ⟨n0, hQ⟩
theorem frI_eq {a b c d : Nat} (hb : 0 < b) (hd : 0 < d) (h : a * d = c * b) (u : Int32) : frI a b u = frI c d u := by
  have e1 : Nat.gcd a b * d = Nat.gcd c d * b := by
    rw [← Nat.gcd_mul_right, ← Nat.gcd_mul_right, h, Nat.mul_comm b d]
  have e2 : a / Nat.gcd a b = c / Nat.gcd c d := by
    rw [← Nat.mul_div_mul_right a (Nat.gcd a b) hd, e1, h, Nat.mul_div_mul_right c (Nat.gcd c d) hb]
  have e3 : b / Nat.gcd a b = d / Nat.gcd c d := by
    rw [← Nat.mul_div_mul_right b (Nat.gcd a b) hd, e1, Nat.mul_comm b d, Nat.mul_div_mul_right d (Nat.gcd c d) hb]
  unfold frI
  rw [e2, e3]
/-! bits of a number, counted -/
theorem sI_tb {s : Nat} (hs : s < 1024) : sI s.testBit = nI s := by unfold sI; rw [sN_id hs]
theorem ones_loop {f : Nat → Bool} {Q : Int32 → Prop} (hQ : Q (nI (cN f 10))) : ∀ (d i : Nat), i + d = 10 → wp_X10_ones_h4 (sI f) Q (d + 1) (nI (cN f i)) (nI i) := by
  intro d
  induction d with
  | zero =>
    intro i hid
    show wp_X10_ones_b4 _ _ _ _ _
    unfold wp_X10_ones_b4
    have e : i = 10 := by omega
    subst e
    exact pk_le 10 10 (fun _ => hQ) (fun h => absurd h (by omega))
  | succ d ih =>
    intro i hid
    show wp_X10_ones_b4 _ _ (wp_X10_ones_h4 (sI f) Q (d + 1)) _ _
    unfold wp_X10_ones_b4
    rw [sI_has (by omega)]
    refine pk_le 10 i (fun h => absurd h (by omega)) (fun _ => all_e (all_e ?_))
    have e : nI (cN f i) + (if f i = true then 1 else 0) = nI (cN f (i + 1)) := by
      rw [cN, ← nI_add]; cases f i <;> rfl
    rw [nI_1, e]
    exact ih (i + 1) (by omega)
theorem ev_ones {f : Nat → Bool} {Q : Int32 → Prop} (hQ : Q (nI (cN f 10))) : wp_X10_ones (sI f) Q := ⟨11, ones_loop hQ 10 0 (by omega)⟩
theorem sh_pow : ∀ n, n < 11 → (1 : Int32) <<< (nI n &&& 31) = nI (2 ^ n) := by decide +kernel
/-! sums -/
def sumN (F : Nat → Nat) : Nat → Nat
  | 0 => 0
  | n + 1 => sumN F n + F n
theorem sumN_cong {F G : Nat → Nat} : ∀ {n : Nat}, (∀ i, i < n → F i = G i) → sumN F n = sumN G n
  | 0, _ => rfl
  | n + 1, h => by rw [sumN, sumN, sumN_cong (fun i hi => h i (by omega)), h n (by omega)]
theorem sumN_zero {F : Nat → Nat} : ∀ {n : Nat}, (∀ i, i < n → F i = 0) → sumN F n = 0
  | 0, _ => rfl
  | n + 1, h => by rw [sumN, sumN_zero (fun i hi => h i (by omega)), h n (by omega)]
theorem sumN_add (F G : Nat → Nat) : ∀ n, sumN (fun i => F i + G i) n = sumN F n + sumN G n
  | 0 => rfl
  | n + 1 => by rw [sumN, sumN, sumN, sumN_add F G n]; omega
theorem sumN_mul (c : Nat) (F : Nat → Nat) : ∀ n, sumN (fun i => c * F i) n = c * sumN F n
  | 0 => by simp [sumN]
  | n + 1 => by rw [sumN, sumN, sumN_mul c F n, Nat.mul_add]
theorem sumN_le {F G : Nat → Nat} : ∀ {n : Nat}, (∀ i, i < n → F i ≤ G i) → sumN F n ≤ sumN G n
  | 0, _ => Nat.le_refl _
  | n + 1, h => by
    have h1 := sumN_le (F := F) (G := G) (n := n) (fun i hi => h i (by omega))
    have h2 := h n (by omega)
    rw [sumN, sumN]; omega
theorem sumN_one {F : Nat → Nat} {j : Nat} : ∀ {n : Nat}, j < n → sumN (fun i => if i = j then F i else 0) n = F j
  | 0, h => absurd h (Nat.not_lt_zero j)
  | n + 1, h => by
    rw [sumN]
    by_cases e : n = j
    · subst e
      rw [sumN_zero (fun i hi => if_neg (by omega)), if_pos rfl, Nat.zero_add]
    · rw [sumN_one (show j < n by omega), if_neg e]; rfl
def cntS (h : Nat → Nat) (j : Nat) : Nat → Nat
  | 0 => 0
  | M + 1 => cntS h j M + if h M = j then 1 else 0
/-- a sum by classes -/
theorem sum_cls {h : Nat → Nat} {J : Nat} (F : Nat → Nat) : ∀ {M : Nat}, (∀ s, s < M → h s < J) → sumN (fun s => F (h s)) M = sumN (fun j => cntS h j M * F j) J
  | 0, _ => by rw [sumN, sumN_zero]; intro i _; show 0 * F i = 0; omega
  | M + 1, hh => by
    have ih := sum_cls (h := h) (J := J) F (M := M) (fun s hs => hh s (by omega))
    rw [sumN, ih]
    have e : sumN (fun j => cntS h j (M + 1) * F j) J = sumN (fun j => cntS h j M * F j + (if j = h M then F j else 0)) J := by
      apply sumN_cong
      intro j _
      rw [cntS]
      by_cases e : h M = j
      · rw [if_pos e, if_pos e.symm, Nat.add_mul]; omega
      · rw [if_neg e, if_neg (fun z => e z.symm)]; rfl
    rw [e, sumN_add, sumN_one (hh M (by omega))]
