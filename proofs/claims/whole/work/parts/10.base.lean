/-! ===== Int32 by its bits (kit/laws/BITS.to-paste: the first family) ===== -/
def bt (x : Int32) (i : Nat) : Bool := x.toBitVec.getLsbD i
theorem b_ext {x y : Int32} (h : ∀ i, i < 32 → bt x i = bt y i) : x = y := Int32.toBitVec_inj.mp (BitVec.eq_of_getLsbD_eq (fun i hi => h i hi))
theorem b_or (x y : Int32) (i : Nat) : bt (x ||| y) i = (bt x i || bt y i) := by unfold bt; rw [Int32.toBitVec_or, BitVec.getLsbD_or]
theorem b_and (x y : Int32) (i : Nat) : bt (x &&& y) i = (bt x i && bt y i) := by unfold bt; rw [Int32.toBitVec_and, BitVec.getLsbD_and]
theorem b_xor (x y : Int32) (i : Nat) : bt (x ^^^ y) i = (bt x i ^^ bt y i) := by unfold bt; rw [Int32.toBitVec_xor, BitVec.getLsbD_xor]
theorem b_big {x : Int32} {i : Nat} (h : 32 ≤ i) : bt x i = false := BitVec.getLsbD_of_ge _ _ h
theorem b_m1 : ∀ i, i < 32 → bt (-1) i = true := by decide +kernel
theorem b_0 (i : Nat) : bt 0 i = false := BitVec.getLsbD_zero
theorem s_l : ∀ n, n < 32 → ((nI n &&& 31).toBitVec.smod 32).toNat = n := by decide +kernel
theorem s_u : ∀ n, n < 32 → (((nI n).toUInt32 &&& Int32.toUInt32 31).toBitVec % 32).toNat = n := by decide +kernel
theorem b_shl (n : Nat) (hn : n < 32) (x : Int32) {i : Nat} (hi : i < 32) : bt (x <<< (nI n &&& 31)) i = (decide (n ≤ i) && bt x (i - n)) := by
  unfold bt
  rw [Int32.toBitVec_shiftLeft]
  show (x.toBitVec <<< ((nI n &&& 31).toBitVec.smod 32).toNat).getLsbD i = _
  rw [s_l n hn, BitVec.getLsbD_shiftLeft]
  rcases Nat.lt_or_ge i n with h | h
  · simp [h, Nat.not_le.mpr h]
  · simp [hi, h, Nat.not_lt.mpr h]
theorem b_ushr (n : Nat) (hn : n < 32) (x : Int32) (i : Nat) : bt ((x.toUInt32 >>> ((nI n).toUInt32 &&& Int32.toUInt32 31)).toInt32) i = bt x (n + i) := by
  show (x.toUInt32 >>> ((nI n).toUInt32 &&& Int32.toUInt32 31)).toBitVec.getLsbD i = x.toUInt32.toBitVec.getLsbD (n + i)
  rw [UInt32.toBitVec_shiftRight]
  show (x.toUInt32.toBitVec >>> (((nI n).toUInt32 &&& Int32.toUInt32 31).toBitVec % 32).toNat).getLsbD i = _
  rw [s_u n hn, BitVec.getLsbD_ushiftRight]
theorem b_sshr (n : Nat) (hn : n < 32) (x : Int32) {i : Nat} (hi : i < 32) : bt (x >>> (nI n &&& 31)) i = if n + i < 32 then bt x (n + i) else bt x 31 := by
  unfold bt
  rw [Int32.toBitVec_shiftRight]
  show (x.toBitVec.sshiftRight ((nI n &&& 31).toBitVec.smod 32).toNat).getLsbD i = _
  rw [s_l n hn, BitVec.getLsbD_sshiftRight, BitVec.msb_eq_getLsbD_last]
  simp [hi]
theorem bt_nI (n i : Nat) : bt (nI n) i = (decide (i < 32) && n.testBit i) := by
  show (BitVec.ofNat 32 n).getLsbD i = _
  rw [BitVec.getLsbD_ofNat]
/-! ===== branches ===== -/
theorem bn_t {c A B : Prop} (h : c) (b : B) : (¬ c → A) ∧ (c → B) := ⟨fun z => absurd h z, fun _ => b⟩
theorem bn_f {c A B : Prop} (h : ¬ c) (a : A) : (¬ c → A) ∧ (c → B) := ⟨fun _ => a, fun z => absurd z h⟩
theorem all_e {α : Type} {x : α} {P : α → Prop} (h : P x) : ∀ y, y = x → P y := fun y hy => hy ▸ h
/-! ===== sets of gates as ints ===== -/
def sN (f : Nat → Bool) : Nat → Nat
  | 0 => 0
  | n + 1 => sN f n + if f n then 2 ^ n else 0
theorem sN_lt (f : Nat → Bool) : ∀ n, sN f n < 2 ^ n
  | 0 => Nat.zero_lt_one
  | n + 1 => by
    have := sN_lt f n
    rw [sN, Nat.pow_succ]
    split <;> omega
theorem sN_bit (f : Nat → Bool) : ∀ n i, (sN f n).testBit i = (decide (i < n) && f i)
  | 0, i => by simp [sN]
  | n + 1, i => by
    have ih := sN_bit f n i
    have hlt := sN_lt f n
    rw [sN]
    by_cases hf : f n = true
    · rw [if_pos hf]
      have e : sN f n + 2 ^ n = 2 ^ n * 1 ||| sN f n := by rw [← Nat.two_pow_add_eq_or_of_lt hlt]; omega
      rw [e, Nat.testBit_or, ih, Nat.mul_one, Nat.testBit_two_pow]
      by_cases h : n = i
      · subst h; simp [hf]
      · have h2 : (i < n + 1) = (i < n) := by simp; omega
        simp [h, h2]
    · rw [if_neg hf, Nat.add_zero, ih]
      by_cases h : i = n
      · subst h; simp [hf]
      · have h2 : (i < n + 1) = (i < n) := by simp; omega
        simp [h2]
def sI (f : Nat → Bool) : Int32 := nI (sN f 10)
theorem bt_sI (f : Nat → Bool) (i : Nat) : bt (sI f) i = (decide (i < 10) && f i) := by
  unfold sI
  rw [bt_nI, sN_bit]
  by_cases h : i < 10
  · simp [h, show i < 32 by omega]
  · simp [h]
theorem sI_cong {f g : Nat → Bool} (h : ∀ i, i < 10 → f i = g i) : sI f = sI g := by
  apply b_ext
  intro i _
  rw [bt_sI, bt_sI]
  by_cases hi : i < 10
  · rw [h i hi]
  · simp [hi]
theorem sI_inj {f g : Nat → Bool} : sI f = sI g ↔ ∀ i, i < 10 → f i = g i := by
  constructor
  · intro h i hi
    have := congrArg (fun x => bt x i) h
    simpa [bt_sI, hi] using this
  · exact sI_cong
theorem sI_none : sI (fun _ => false) = 0 := by decide +kernel
theorem sI_z {f : Nat → Bool} : sI f = 0 ↔ ∀ i, i < 10 → f i = false := by
  rw [← sI_none, sI_inj]
theorem sI_or (f g : Nat → Bool) : sI f ||| sI g = sI (fun i => f i || g i) := by
  apply b_ext
  intro i _
  rw [b_or, bt_sI, bt_sI, bt_sI]
  by_cases hi : i < 10 <;> simp [hi]
theorem sI_and (f g : Nat → Bool) : sI f &&& sI g = sI (fun i => f i && g i) := by
  apply b_ext
  intro i _
  rw [b_and, bt_sI, bt_sI, bt_sI]
  by_cases hi : i < 10 <;> simp [hi]
theorem sI_dif (f g : Nat → Bool) : sI f &&& (sI g ^^^ (-1)) = sI (fun i => f i && !g i) := by
  apply b_ext
  intro i hi2
  rw [b_and, b_xor, b_m1 i hi2, bt_sI, bt_sI, bt_sI]
  by_cases hi : i < 10 <;> simp [hi]
theorem sI_bit : ∀ g, g < 10 → (1 : Int32) <<< (nI g &&& 31) = sI (fun i => i == g) := by decide +kernel
theorem sI_all : ∀ n, n < 11 → ((1 : Int32) <<< (nI n &&& 31)) - 1 = sI (fun i => decide (i < n)) := by decide +kernel
/-- one gate's bit -/
theorem sI_andb {f : Nat → Bool} {g : Nat} (hg : g < 10) : (sI f &&& sI (fun i => i == g)) = 0 ↔ f g = false := by
  rw [sI_and, sI_z]
  constructor
  · intro h
    simpa using h g hg
  · intro h i hi
    by_cases e : i = g
    · subst e; simp [h]
    · simp [e]
/-- 'has' -/
theorem sI_has {f : Nat → Bool} {g : Nat} (hg : g < 10) : (sI f >>> (nI g &&& 31)) &&& 1 = if f g then 1 else 0 := by
  apply b_ext
  intro i hi
  rw [b_and, b_sshr g (by omega) _ hi, bt_sI, bt_sI]
  have h1 : bt (1 : Int32) i = decide (i = 0) := (by decide +kernel : ∀ i, i < 32 → bt (1 : Int32) i = decide (i = 0)) i hi
  rw [h1]
  by_cases h0 : i = 0
  · subst h0
    simp only [Nat.add_zero, hg, decide_true, Bool.true_and, Bool.and_true]
    rw [if_pos (by omega)]
    cases f g <;> decide
  · have h2 : bt (if f g = true then (1 : Int32) else 0) i = false := by
      split
      · rw [h1]; simp [h0]
      · exact b_0 i
    rw [h2]; simp [h0]
/-- a fixed number of bits -/
def cN (f : Nat → Bool) : Nat → Nat
  | 0 => 0
  | n + 1 => cN f n + if f n then 1 else 0
theorem cN_le (f : Nat → Bool) : ∀ n, cN f n ≤ n
  | 0 => Nat.le_refl 0
  | n + 1 => by have := cN_le f n; rw [cN]; split <;> omega
theorem cN_cong {f g : Nat → Bool} : ∀ {n : Nat}, (∀ i, i < n → f i = g i) → cN f n = cN g n
  | 0, _ => rfl
  | n + 1, h => by rw [cN, cN, cN_cong (fun i hi => h i (by omega)), h n (by omega)]
theorem cN_zero {f : Nat → Bool} : ∀ {n : Nat}, cN f n = 0 ↔ ∀ i, i < n → f i = false
  | 0 => by simp [cN]
  | n + 1 => by
    have ih := cN_zero (f := f) (n := n)
    rw [cN]
    constructor
    · intro h i hi
      have h1 : cN f n = 0 := by omega
      have h2 : f n = false := by
        cases hf : f n with
        | false => rfl
        | true => rw [hf] at h; simp at h
      rcases Nat.lt_or_ge i n with hl | hl
      · exact ih.mp h1 i hl
      · rw [show i = n by omega]; exact h2
    · intro h
      rw [ih.mpr (fun i hi => h i (by omega)), h n (by omega)]; rfl
def upB (f : Nat → Bool) (k : Nat) (v : Bool) : Nat → Bool := fun j => if j = k then v else f j
def upN (f : Nat → Nat) (k : Nat) (v : Nat) : Nat → Nat := fun j => if j = k then v else f j
theorem upB_s {f : Nat → Bool} {k : Nat} {v : Bool} : upB f k v k = v := if_pos rfl
theorem upB_n {f : Nat → Bool} {k j : Nat} {v : Bool} (h : j ≠ k) : upB f k v j = f j := if_neg h
theorem upN_s {f : Nat → Nat} {k : Nat} {v : Nat} : upN f k v k = v := if_pos rfl
theorem upN_n {f : Nat → Nat} {k j : Nat} {v : Nat} (h : j ≠ k) : upN f k v j = f j := if_neg h
theorem upd_s {f : Nat → Int32} {k : Nat} {x : Int32} : upd f k x k = x := pk_us
theorem upd_n {f : Nat → Int32} {k j : Nat} {x : Int32} (h : j ≠ k) : upd f k x j = f j := pk_un h
/-! ===== the chips of the gates in one int ===== -/
def pN (l : Nat → Nat) : Nat → Nat
  | 0 => 0
  | n + 1 => pN l n + l n * 4 ^ n
def pI (l : Nat → Nat) : Int32 := nI (pN l 10)
theorem pN_lt {l : Nat → Nat} (h : ∀ i, l i < 4) : ∀ n, pN l n < 4 ^ n
  | 0 => Nat.zero_lt_one
  | n + 1 => by
    have ih := pN_lt h n
    have hl := h n
    rw [pN, Nat.pow_succ]
    have : l n * 4 ^ n ≤ 3 * 4 ^ n := Nat.mul_le_mul_right _ (by omega)
    omega
theorem pN_div {l : Nat → Nat} (h : ∀ i, l i < 4) : ∀ n g, g < n → pN l n / 4 ^ g % 4 = l g
  | 0, g, hg => absurd hg (Nat.not_lt_zero g)
  | n + 1, g, hg => by
    have hlt := pN_lt h n
    rw [pN]
    rcases Nat.lt_or_ge g n with hl | hl
    · have e : 4 ^ n = 4 ^ g * (4 * 4 ^ (n - g - 1)) := by
        rw [← Nat.pow_succ', ← Nat.pow_add]; congr 1; omega
      rw [e, show pN l n + l n * (4 ^ g * (4 * 4 ^ (n - g - 1))) = pN l n + 4 ^ g * (4 * (l n * 4 ^ (n - g - 1))) by
        rw [Nat.mul_left_comm, Nat.mul_left_comm (l n) 4], Nat.add_mul_div_left _ _ (Nat.pow_pos (by decide)), Nat.add_mul_mod_self_left]
      exact pN_div h n g hl
    · have e : g = n := by omega
      subst e
      rw [Nat.add_mul_div_right _ _ (Nat.pow_pos (by decide)), Nat.div_eq_of_lt hlt, Nat.zero_add]
      exact Nat.mod_eq_of_lt (h g)
theorem bt_pI {l : Nat → Nat} (h : ∀ i, l i < 4) {i : Nat} (hi : i < 32) : bt (pI l) i = (decide (i < 20) && (l (i / 2)).testBit (i % 2)) := by
  unfold pI
  rw [bt_nI, decide_eq_true hi, Bool.true_and]
  by_cases h20 : i < 20
  · have e := pN_div h 10 (i / 2) (by omega)
    rw [← e, decide_eq_true h20, Bool.true_and, show (4 : Nat) = 2 ^ 2 from rfl, Nat.testBit_mod_two_pow, decide_eq_true (Nat.mod_lt i (by decide) : i % 2 < 2), Bool.true_and, ← Nat.pow_mul, Nat.testBit_div_two_pow]
    congr 1
    omega
  · rw [decide_eq_false h20, Bool.false_and]
    exact Nat.testBit_lt_two_pow (Nat.lt_of_lt_of_le (pN_lt h 10) (by rw [show (4 : Nat) ^ 10 = 2 ^ 20 from rfl]; exact Nat.pow_le_pow_right (by decide) (by omega)))
theorem pI_inj {l l' : Nat → Nat} (h : ∀ i, i < 10 → l i = l' i) : pI l = pI l' := by
  have : ∀ n, n ≤ 10 → pN l n = pN l' n := by
    intro n
    induction n with
    | zero => intro _; rfl
    | succ n ih => intro hn; rw [pN, pN, ih (by omega), h n (by omega)]
  unfold pI
  rw [this 10 (Nat.le_refl _)]
theorem sh2 : ∀ g, g < 10 → ((((2 : Int32) * nI g).toUInt32 &&& Int32.toUInt32 31).toBitVec % 32).toNat = 2 * g := by decide +kernel
theorem pI_chip {l : Nat → Nat} (h : ∀ i, l i < 4) {g : Nat} (hg : g < 10) : ((pI l).toUInt32 >>> (((2 : Int32) * nI g).toUInt32 &&& Int32.toUInt32 31)).toInt32 &&& 3 = nI (l g) := by
  have hlt := pN_lt h 10
  have hlt2 : pN l 10 < 2 ^ 32 := Nat.lt_of_lt_of_le hlt (by decide)
  unfold pI
  rw [pk_ushrN hlt2 _ (2 * g) (sh2 g hg), pk_andN (Nat.lt_of_le_of_lt (Nat.div_le_self _ _) hlt2) 2 (by decide), Nat.pow_mul, show (2 : Nat) ^ 2 = 4 from rfl, pN_div h 10 g hg]
theorem pI_put {l : Nat → Nat} (h : ∀ i, l i < 4) {g c : Nat} (hg : g < 10) (hc : c < 4) : (pI l &&& (((3 : Int32) <<< (((2 : Int32) * nI g) &&& 31)) ^^^ (-1))) ||| ((nI c &&& 3) <<< (((2 : Int32) * nI g) &&& 31)) = pI (upN l g c) := by
  have h' : ∀ i, upN l g c i < 4 := by intro i; unfold upN; split; exact hc; exact h i
  have e1 : (2 : Int32) * nI g = nI (2 * g) := pk_mul 2 g
  have e2 : nI c &&& 3 = nI c := by rw [pk_andN (by omega) 2 (by decide), Nat.mod_eq_of_lt hc]
  rw [e1, e2]
  apply b_ext
  intro i hi
  rw [b_or, b_and, b_xor, b_m1 i hi, b_shl (2 * g) (by omega) _ hi, b_shl (2 * g) (by omega) _ hi, bt_pI h hi, bt_pI h' hi]
  have h3 : ∀ j, j < 32 → bt (3 : Int32) j = decide (j < 2) := by decide +kernel
  rw [h3 (i - 2 * g) (by omega), bt_nI, decide_eq_true (show i - 2 * g < 32 by omega), Bool.true_and]
  by_cases hig : i / 2 = g
  · have h1 : 2 * g ≤ i := by omega
    have h2 : i - 2 * g < 2 := by omega
    have h4 : i - 2 * g = i % 2 := by omega
    have h5 : i < 20 := by omega
    rw [hig, upN_s]
    simp [h1, h2, h4, h5, show i % 2 < 2 by omega]
  · rw [upN_n hig]
    by_cases h1 : 2 * g ≤ i
    · have h2 : ¬ i - 2 * g < 2 := by omega
      have h4 : c.testBit (i - 2 * g) = false := Nat.testBit_lt_two_pow (Nat.lt_of_lt_of_le hc (by rw [show (4 : Nat) = 2 ^ 2 from rfl]; exact Nat.pow_le_pow_right (by decide) (by omega)))
      simp [h1, h2, h4]
    · simp [h1]
/-! ===== leaf methods of the class ===== -/
theorem ev_bit {g : Nat} {Q : Int32 → Prop} (hg : g < 10) (h : Q (sI (fun i => i == g))) : wp_X9_bit (nI g) Q := by
  unfold wp_X9_bit
  refine br_f (nI_pos (by omega)) (br_f ?_ ?_)
  · rw [show (10 : Int32) = nI 10 from rfl, nI_leI (by omega) (by omega)]; omega
  · rw [sI_bit g hg]; exact h
theorem ev_bitN {Q : Int32 → Prop} (h : Q 0) : wp_X9_bit (-9) Q := by
  unfold wp_X9_bit wp_X9_bit_b16
  exact br_t (by decide) h
theorem ev_cell {n j : Nat} {f : Nat → Int32} {Q : Int32 → Prop} (hj : j < n) (hn : n < 2 ^ 31) (h : Q (f j)) : wp_X9_cell n f (nI j) Q := by
  unfold wp_X9_cell
  refine br_f (nI_pos (by omega)) (br_f ?_ ⟨vp_in_nI hj hn, ?_⟩)
  · rw [nI_leI (by omega) (by omega)]; omega
  · rw [nI_clamp (by omega)]; exact h
theorem ev_setCell {n j : Nat} {f : Nat → Int32} {x : Int32} {Q : (Nat → Int32) → Prop} (hj : j < n) (hn : n < 2 ^ 31) (h : Q (upd f j x)) : wp_X9_setCell n f (nI j) x Q := by
  unfold wp_X9_setCell
  refine br_f (nI_pos (by omega)) (br_f ?_ ⟨vp_in_nI hj hn, ?_⟩)
  · rw [nI_leI (by omega) (by omega)]; omega
  · rw [nI_clamp (by omega)]; exact all_e h
theorem ev_chipIn {l : Nat → Nat} {g : Nat} {Q : Int32 → Prop} (hl : ∀ i, l i < 4) (hg : g < 10) (h : Q (nI (l g))) : wp_X9_chipIn (pI l) (nI g) Q := by
  unfold wp_X9_chipIn
  rw [pI_chip hl hg]; exact h
theorem ev_placed {l : Nat → Nat} {g c : Nat} {Q : Int32 → Prop} (hl : ∀ i, l i < 4) (hg : g < 10) (hc : c < 4) (h : Q (pI (upN l g c))) : wp_X9_placed (pI l) (nI g) (nI c) Q := by
  unfold wp_X9_placed
  rw [pI_put hl hg hc]; exact h
theorem ev_valueIn {o u : Nat → Bool} {g : Nat} {Q : Int32 → Prop} (hg : g < 10) (h : Q (nI (if u g then 2 else if o g then 1 else 0))) : wp_X9_valueIn (sI o) (sI u) (nI g) Q := by
  unfold wp_X9_valueIn
  refine ev_bit hg ?_
  by_cases hu : u g = true
  · refine br_f (by rw [sI_andb hg]; simp [hu]) ?_
    rw [if_pos hu] at h; exact h
  · have hu : u g = false := by simpa using hu
    refine br_t (by rw [sI_andb hg]; exact hu) (ev_bit hg ?_)
    by_cases ho : o g = true
    · refine br_f (by rw [sI_andb hg]; simp [ho]) ?_
      rw [if_neg (by simp [hu]), if_pos ho] at h; exact h
    · have ho : o g = false := by simpa using ho
      refine br_t (by rw [sI_andb hg]; exact ho) ?_
      rw [if_neg (by simp [hu]), if_neg (by simp [ho])] at h; exact h
theorem ev_valueInN {x y : Int32} {Q : Int32 → Prop} (h : Q 0) : wp_X9_valueIn x y (-9) Q := by
  unfold wp_X9_valueIn
  refine ev_bitN (br_t (by simp) (ev_bitN (br_t (by simp) h)))
