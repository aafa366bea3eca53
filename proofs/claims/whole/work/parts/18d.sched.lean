/-! ===== the class's whole schedules ===== -/
section
variable {N C : Nat} {kd s1 s2 ck l : Nat → Nat} {kinds firsts seconds sets : Nat → Int32} {p : Nat}
theorem AR.take {x : HX} {t : Nat} {A : Nat → Int32} (hN : N ≤ 10) (hC : 1 ≤ C) (h : AR (fun c' i => avF N x.1 c' i || (snds N C kd s1 s2 l p x.1).1 c' i) A) : AR (avF N (take t (snds N C kd s1 s2 l p x.1).1 x).1) A := by
  have hP := snds_CP (N := N) (C := C) (kd := kd) (s1 := s1) (s2 := s2) (l := l) (p := p) (av := x.1) hN hC
  refine h.cong ?_
  intro c i _ _
  show ((decide (i < N) && x.1 c i) || (snds N C kd s1 s2 l p x.1).1 c i) = (decide (i < N) && (x.1 c i || (snds N C kd s1 s2 l p x.1).1 c i))
  cases hh : (snds N C kd s1 s2 l p x.1).1 c i with
  | false => simp
  | true => simp [(hP.1 c i hh).1]
theorem waF_take {x : HX} {t : Nat} (hN : N ≤ 10) (hC : 1 ≤ C) : sI (waF N kd l (take t (snds N C kd s1 s2 l p x.1).1 x).1) = sI (waF N kd l x.1) := by
  have hP := snds_CP (N := N) (C := C) (kd := kd) (s1 := s1) (s2 := s2) (l := l) (p := p) (av := x.1) hN hC
  apply sI_cong
  intro i _
  show (decide (i < N) && (!stb (kd i) && !(x.1 (l i) i || (snds N C kd s1 s2 l p x.1).1 (l i) i))) = (decide (i < N) && (!stb (kd i) && !x.1 (l i) i))
  cases hh : (snds N C kd s1 s2 l p x.1).1 (l i) i with
  | false => simp
  | true => exact absurd rfl (waP_ne N (hP.1 _ i hh).2.2.2)
theorem run_loop (hO : POK N kd s1 s2 ck) (hA : PA N kd s1 s2 kinds firsts seconds sets) (hl : ∀ i, l i < 4) (hC : 1 ≤ C ∧ C ≤ 4) (hp : p < 100) {inp reg : Int32} {Q : (Nat → Int32) → (Nat → Int32) → Int32 → Int32 → Int32 → Int32 → (Nat → Int32) → Prop} :
    ∀ (d t : Nat) (z : RX) (A Co W : Nat → Int32), t + d = 31 → AR (avF N z.1.1) A → AR (waP kd s1 s2 l N) W → (∀ A Co wt W, Q A Co (sI (run_ N C kd s1 s2 l p d t z).2.2.2) (nI (run_ N C kd s1 s2 l p d t z).2.2.1) (nI (run_ N C kd s1 s2 l p d t z).2.1) wt W) →
      wp_X4_run_h9 (nI C) firsts (nI N) inp reg seconds sets (pI l) (nI p) Q (d + 1) (nI t) A Co (sI z.2.2.2) (nI z.2.2.1) (nI z.2.1) (sI (waF N kd l z.1.1)) W := by
  intro d
  induction d with
  | zero =>
    intro t z A Co W htd h1 h2 hQ
    show wp_X4_run_b9 (nI C) firsts (nI N) inp reg seconds sets (pI l) (nI p) Q _ _ _ _ _ _ _ _ _
    unfold wp_X4_run_b9
    exact pk_le 31 t (fun _ => hQ _ _ _ _) (fun h => absurd h (by omega))
  | succ d ih =>
    intro t z A Co W htd h1 h2 hQ
    show wp_X4_run_b9 (nI C) firsts (nI N) inp reg seconds sets (pI l) (nI p) Q (wp_X4_run_h9 (nI C) firsts (nI N) inp reg seconds sets (pI l) (nI p) Q (d + 1)) _ _ _ _ _ _ _ _
    unfold wp_X4_run_b9
    refine pk_le 31 t (fun h => absurd h (by omega)) (fun _ => ?_)
    refine ev_csettle hO hA hl t h1 (fun A1 hA1 => ev_sends hp hC hA1 h2 (fun Co' A2 hA2 => ?_))
    rw [run_] at hQ
    by_cases h0 : (snds N C kd s1 s2 l p (stl kd s1 s2 l N t z.1).1).2.1 = 0
    · rw [if_pos h0]
      rw [if_pos h0] at hQ
      exact bn_t rfl (hQ _ _ _ _)
    · rw [if_neg h0]
      rw [if_neg h0] at hQ
      refine bn_f (by decide) (all_e ?_)
      rw [nI_1, nI_1, nI_add]
      have := ih (t + 1) (take t (snds N C kd s1 s2 l p (stl kd s1 s2 l N t z.1).1).1 (stl kd s1 s2 l N t z.1), z.2.1 + 1, z.2.2.1 + (snds N C kd s1 s2 l p (stl kd s1 s2 l N t z.1).1).2.1, (snds N C kd s1 s2 l p (stl kd s1 s2 l N t z.1).1).2.2) A2 Co' W (by omega) (AR.take hO.1 hC.1 hA2) h2 hQ
      rw [waF_take hO.1 hC.1] at this
      exact this
theorem ev_run (hO : POK N kd s1 s2 ck) (hA : PA N kd s1 s2 kinds firsts seconds sets) (hl : ∀ i, l i < 4) (hC : 1 ≤ C ∧ C ≤ 4) (hp : p < 100) {A0 Co0 W0 : Nat → Int32} {ls se ta wt : Int32} {Q : (Nat → Int32) → (Nat → Int32) → Int32 → Int32 → Int32 → Int32 → (Nat → Int32) → Prop} (hQ : ∀ A Co wt W, Q A Co (sI (sch N C kd s1 s2 l p).2.2.2) (nI (sch N C kd s1 s2 l p).2.2.1) (nI (sch N C kd s1 s2 l p).2.1) wt W) :
    wp_X4_run A0 Co0 ls se ta wt W0 (nI C) firsts (nI N) (sI (inF N kd)) (sI (reF N kd)) seconds sets (pI l) (nI p) Q := by
  unfold wp_X4_run
  refine ev_begin hO hA hl (fun A W h1 h2 => ⟨32, ?_⟩)
  have := run_loop hO hA hl hC hp (inp := sI (inF N kd)) (reg := sI (reF N kd)) (Q := Q) 31 0 (rx0 kd l) A Co0 W (by omega) h1 h2 hQ
  have e : sI (rx0 kd l).2.2.2 = 0 := sI_none
  rw [e] at this
  exact this
theorem first_loop (hO : POK N kd s1 s2 ck) (hA : PA N kd s1 s2 kinds firsts seconds sets) (hl : ∀ i, l i < 4) (hC : 1 ≤ C ∧ C ≤ 4) (hp : p < 100) {c g : Nat} (hc : c < 4) (hg : g < N) {inp reg : Int32} {Q : Int32 → (Nat → Int32) → (Nat → Int32) → Int32 → Int32 → Int32 → Int32 → (Nat → Int32) → Prop} :
    ∀ (d t : Nat) (x : HX) (A Co W : Nat → Int32) (ls se ta : Int32), t + d = 31 → AR (avF N x.1) A → AR (waP kd s1 s2 l N) W → (∀ A Co ls se ta wt W, Q (stI (fst_ N C kd s1 s2 l p c g d t x)) A Co ls se ta wt W) →
      wp_X4_firstSlot_h12 (nI C) firsts (nI N) inp reg seconds sets (nI p) (pI l) (nI g) (nI c) Q (d + 1) (nI t) A Co ls se ta (sI (waF N kd l x.1)) W := by
  have hN := hO.1
  intro d
  induction d with
  | zero =>
    intro t x A Co W ls se ta htd h1 h2 hQ
    show wp_X4_firstSlot_b12 (nI C) firsts (nI N) inp reg seconds sets (nI p) (pI l) (nI g) (nI c) Q _ _ _ _ _ _ _ _ _
    unfold wp_X4_firstSlot_b12
    exact pk_le 31 t (fun _ => hQ _ _ _ _ _ _ _) (fun h => absurd h (by omega))
  | succ d ih =>
    intro t x A Co W ls se ta htd h1 h2 hQ
    show wp_X4_firstSlot_b12 (nI C) firsts (nI N) inp reg seconds sets (nI p) (pI l) (nI g) (nI c) Q (wp_X4_firstSlot_h12 (nI C) firsts (nI N) inp reg seconds sets (nI p) (pI l) (nI g) (nI c) Q (d + 1)) _ _ _ _ _ _ _ _
    unfold wp_X4_firstSlot_b12
    refine pk_le 31 t (fun h => absurd h (by omega)) (fun _ => ?_)
    refine ev_csettle hO hA hl t h1 (fun A1 hA1 => ev_cell hc (by omega) (ev_bit (by omega) ?_))
    rw [hA1 c hc]
    rw [fst_] at hQ
    have e : avF N (stl kd s1 s2 l N t x).1 c g = (stl kd s1 s2 l N t x).1 c g := by unfold avF; simp [hg]
    cases hav : (stl kd s1 s2 l N t x).1 c g with
    | true =>
      rw [if_pos hav] at hQ
      exact br_f (by rw [sI_andb (by omega), e, hav]; decide) (hQ _ _ _ _ _ _ _)
    | false =>
      rw [if_neg (by rw [hav]; decide)] at hQ
      refine br_t (by rw [sI_andb (by omega), e, hav]) (ev_sends hp hC hA1 h2 (fun Co' A2 hA2 => ?_))
      by_cases h0 : (snds N C kd s1 s2 l p (stl kd s1 s2 l N t x).1).2.1 = 0
      · rw [if_pos h0]
        rw [if_pos h0] at hQ
        exact bn_t rfl (hQ _ _ _ _ _ _ _)
      · rw [if_neg h0]
        rw [if_neg h0] at hQ
        refine bn_f (by decide) (all_e ?_)
        rw [nI_1]
        rw [← waF_take (x := stl kd s1 s2 l N t x) (t := t) (C := C) (p := p) (s1 := s1) (s2 := s2) hO.1 hC.1]
        exact ih (t + 1) (take t (snds N C kd s1 s2 l p (stl kd s1 s2 l N t x).1).1 (stl kd s1 s2 l N t x)) A2 Co' W _ _ _ (by omega) (AR.take hO.1 hC.1 hA2) h2 hQ
/-- the class's answer: the first slot -/
def fsl (N C : Nat) (kd s1 s2 l : Nat → Nat) (p c g : Nat) : Option Nat := fst_ N C kd s1 s2 l p c g 31 0 (hx0 kd l)
theorem ev_firstSlot (hO : POK N kd s1 s2 ck) (hA : PA N kd s1 s2 kinds firsts seconds sets) (hl : ∀ i, l i < 4) (hC : 1 ≤ C ∧ C ≤ 4) (hp : p < 100) {c g : Nat} (hc : c < 4) (hg : g < N) {A0 Co0 W0 : Nat → Int32} {ls se ta wt : Int32} {Q : Int32 → (Nat → Int32) → (Nat → Int32) → Int32 → Int32 → Int32 → Int32 → (Nat → Int32) → Prop} (hQ : ∀ A Co ls se ta wt W, Q (stI (fsl N C kd s1 s2 l p c g)) A Co ls se ta wt W) :
    wp_X4_firstSlot A0 Co0 ls se ta wt W0 (nI C) firsts (nI N) (sI (inF N kd)) (sI (reF N kd)) seconds sets (nI p) (pI l) (nI g) (nI c) Q := by
  unfold wp_X4_firstSlot
  refine ev_begin hO hA hl (fun A W h1 h2 => ⟨32, ?_⟩)
  exact first_loop hO hA hl hC hp hc hg 31 0 (hx0 kd l) A Co0 W _ _ _ (by omega) h1 h2 hQ
theorem fsl_sch (hN : N ≤ 10) (hl : ∀ i, l i < 4) (hC : 1 ≤ C ∧ C ≤ 4) {c g : Nat} : fsl N C kd s1 s2 l p c g = if (sch N C kd s1 s2 l p).1.1 c g = true then some ((sch N C kd s1 s2 l p).1.2 c g) else none :=
  fst_run hN hC 31 0 (rx0 kd l) (by have := pot_le (l := l) (av := (rx0 kd l).1.1) hl; omega) (fun _ => rfl)
/-! the greatest of a set -/
def mx (f : Nat → Bool) : Nat → Int32
  | 0 => -9
  | n + 1 => if f n then nI n else mx f n
theorem greatest_loop {f : Nat → Bool} {Q : Int32 → Prop} : ∀ (n : Nat), n ≤ 10 → Q (mx f n) → wp_X9_greatestOf_h3 (sI f) Q (n + 1) (nI n - 1) := by
  intro n
  induction n with
  | zero =>
    intro _ hq
    show wp_X9_greatestOf_b3 _ _ _ _
    unfold wp_X9_greatestOf_b3
    exact br_t (by decide) hq
  | succ n ih =>
    intro hn hq
    show wp_X9_greatestOf_b3 _ _ (wp_X9_greatestOf_h3 (sI f) Q (n + 1)) _
    unfold wp_X9_greatestOf_b3
    have e : nI (n + 1) - 1 = nI n := pk_sub (a := n + 1) (b := 1) (by omega)
    rw [e]
    refine br_f (nI_pos (by omega)) (ev_bit (by omega) ?_)
    rw [mx] at hq
    cases hf : f n with
    | true =>
      rw [hf, if_pos rfl] at hq
      exact br_f (by rw [sI_andb (by omega), hf]; decide) hq
    | false =>
      rw [hf, if_neg (by decide)] at hq
      refine br_t (by rw [sI_andb (by omega)]; exact hf) (all_e ?_)
      have e2 : nI n + (-1) = nI n - 1 := by rw [Int32.sub_eq_add_neg]
      rw [e2]
      exact ih (by omega) hq
theorem ev_greatestOf {f : Nat → Bool} {Q : Int32 → Prop} (hq : Q (mx f 10)) : wp_X9_greatestOf (sI f) Q := ⟨11, greatest_loop 10 (by omega) hq⟩
theorem mx_cases (f : Nat → Bool) : ∀ n, (mx f n = -9 ∧ ∀ i, i < n → f i = false) ∨ ∃ j, j < n ∧ mx f n = nI j ∧ f j = true ∧ ∀ i, j < i → i < n → f i = false
  | 0 => Or.inl ⟨rfl, fun i hi => absurd hi (Nat.not_lt_zero i)⟩
  | n + 1 => by
    rw [mx]
    cases hf : f n with
    | true => exact Or.inr ⟨n, by omega, by rw [if_pos rfl], hf, fun i h1 h2 => absurd h1 (by omega)⟩
    | false =>
      rw [if_neg (by decide)]
      rcases mx_cases f n with ⟨h1, h2⟩ | ⟨j, hj, h1, h2, h3⟩
      · refine Or.inl ⟨h1, fun i hi => ?_⟩
        by_cases e : i = n
        · rw [e]; exact hf
        · exact h2 i (by omega)
      · refine Or.inr ⟨j, by omega, h1, h2, fun i h4 h5 => ?_⟩
        by_cases e : i = n
        · rw [e]; exact hf
        · exact h3 i h4 (by omega)
theorem mx_cong {f g : Nat → Bool} : ∀ {n : Nat}, (∀ i, i < n → f i = g i) → mx f n = mx g n
  | 0, _ => rfl
  | n + 1, h => by rw [mx, mx, mx_cong (fun i hi => h i (by omega)), h n (by omega)]
/-- one more -/
theorem mx_add {f f' : Nat → Bool} {x : Nat} (hx : x < 10) (h : ∀ i, i < 10 → f' i = (f i || i == x)) : mx f' 10 = if mx f 10 < nI x then nI x else mx f 10 := by
  have u : ∀ {h : Nat → Bool} {j : Nat}, j < 10 → h j = true → (∀ i, j < i → i < 10 → h i = false) → mx h 10 = nI j := by
    intro h j hj h1 h2
    rcases mx_cases h 10 with ⟨_, h3⟩ | ⟨j', hj', h3, h4, h5⟩
    · rw [h3 j hj] at h1; cases h1
    · rw [h3]
      have : j = j' := by
        rcases Nat.lt_trichotomy j j' with hh | hh | hh
        · rw [h2 j' hh hj'] at h4; cases h4
        · exact hh
        · rw [h5 j hh hj] at h1; cases h1
      rw [this]
  rcases mx_cases f 10 with ⟨h3, h4⟩ | ⟨j, hj, h3, h4, h5⟩
  · rw [h3, if_pos (by rw [lt_lit (by omega)]; have : (-9 : Int32).toInt = -9 := by decide
                       omega)]
    refine u hx (by rw [h x hx]; simp) (fun i h1 h2 => ?_)
    rw [h i h2, h4 i h2, show (i == x) = false by simp; omega]; rfl
  · rw [h3]
    by_cases hjx : j < x
    · rw [if_pos (by rw [nI_ltI (by omega) (by omega)]; exact hjx)]
      refine u hx (by rw [h x hx]; simp) (fun i h1 h2 => ?_)
      rw [h i h2, h5 i (by omega) h2, show (i == x) = false by simp; omega]; rfl
    · rw [if_neg (by rw [nI_ltI (by omega) (by omega)]; exact hjx)]
      refine u hj (by rw [h j hj, h4]; rfl) (fun i h1 h2 => ?_)
      rw [h i h2, h5 i (by omega) h2, show (i == x) = false by simp; omega]; rfl
end
