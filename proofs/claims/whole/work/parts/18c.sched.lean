/-! ===== a whole schedule ===== -/
abbrev RX : Type := HX × Nat × Nat × (Nat → Bool)
def run_ (N C : Nat) (kd s1 s2 l : Nat → Nat) (p : Nat) : Nat → Nat → RX → RX
  | 0, _, z => z
  | n + 1, t, z => if (snds N C kd s1 s2 l p (stl kd s1 s2 l N t z.1).1).2.1 = 0 then (stl kd s1 s2 l N t z.1, z.2) else run_ N C kd s1 s2 l p n (t + 1) (take t (snds N C kd s1 s2 l p (stl kd s1 s2 l N t z.1).1).1 (stl kd s1 s2 l N t z.1), z.2.1 + 1, z.2.2.1 + (snds N C kd s1 s2 l p (stl kd s1 s2 l N t z.1).1).2.1, (snds N C kd s1 s2 l p (stl kd s1 s2 l N t z.1).1).2.2)
def rx0 (kd l : Nat → Nat) : RX := (hx0 kd l, 1, 0, fun _ => false)
def sch (N C : Nat) (kd s1 s2 l : Nat → Nat) (p : Nat) : RX := run_ N C kd s1 s2 l p 31 0 (rx0 kd l)
def fst_ (N C : Nat) (kd s1 s2 l : Nat → Nat) (p c g : Nat) : Nat → Nat → HX → Option Nat
  | 0, _, _ => none
  | n + 1, t, x => if (stl kd s1 s2 l N t x).1 c g = true then some t else if (snds N C kd s1 s2 l p (stl kd s1 s2 l N t x).1).2.1 = 0 then none else fst_ N C kd s1 s2 l p c g n (t + 1) (take t (snds N C kd s1 s2 l p (stl kd s1 s2 l N t x).1).1 (stl kd s1 s2 l N t x))
/-- what can come -/
def CP (N C : Nat) (kd s1 s2 l : Nat → Nat) (av : Nat → Nat → Bool) (y : CX) : Prop := (∀ c g, y.1 c g = true → g < N ∧ c < C ∧ av c g = false ∧ waP kd s1 s2 l N c g = true) ∧ (y.2.1 = 0 ↔ ∀ c g, y.1 c g = false) ∧ ∀ g, y.2.2 g = true → g < N
theorem wn_ne {kd s1 s2 l : Nat → Nat} {r c g : Nat} (h : wn kd s1 s2 l r c g = true) : c ≠ l g := by
  unfold wn at h
  rw [Bool.and_eq_true] at h
  have h2 := h.2
  split at h2
  · omega
  · rw [Bool.and_eq_true, decide_eq_true_iff] at h2; omega
theorem waP_ne {kd s1 s2 l : Nat → Nat} {c g : Nat} : ∀ (n : Nat), waP kd s1 s2 l n c g = true → c ≠ l g
  | 0, h => by cases h
  | n + 1, h => by
    rw [waP, Bool.or_eq_true] at h
    rcases h with h | h
    · exact waP_ne n h
    · exact wn_ne h
section
variable {N C : Nat} {kd s1 s2 ck l : Nat → Nat} {p : Nat} {av : Nat → Nat → Bool}
theorem ofr_t {a b g : Nat} (h : ofr N kd s1 s2 l p av a b g = true) : g < N ∧ av b g = false ∧ waP kd s1 s2 l N b g = true := by
  unfold ofr low at h
  simp only [Bool.and_eq_true, decide_eq_true_iff, Bool.not_eq_true'] at h
  exact ⟨h.1.1, h.1.2.2.1, h.1.2.2.2⟩
theorem s1c_CP (hN : N ≤ 10) {c : Nat} (hc : c + 1 < C) {y : CX} (h : CP N C kd s1 s2 l av y) : CP N C kd s1 s2 l av (s1c N kd s1 s2 l p av c y) := by
  obtain ⟨h1, h2, h3⟩ := h
  refine ⟨fun c' g hy => ?_, ?_, fun g hy => ?_⟩
  · have hy2 : (y.1 c' g || ((c' == c + 1 && ofr N kd s1 s2 l p av c (c + 1) g) || (c' == c && ofr N kd s1 s2 l p av (c + 1) c g))) = true := hy
    clear hy
    simp only [Bool.or_eq_true, Bool.and_eq_true, beq_iff_eq] at hy2
    rcases hy2 with hy | ⟨rfl, hy⟩ | ⟨rfl, hy⟩
    · exact h1 c' g hy
    · have := ofr_t hy; exact ⟨this.1, hc, this.2⟩
    · have := ofr_t hy; exact ⟨this.1, by omega, this.2⟩
  · show y.2.1 + (cN (ofr N kd s1 s2 l p av c (c + 1)) 10 + cN (ofr N kd s1 s2 l p av (c + 1) c) 10) = 0 ↔ ∀ c' g, (y.1 c' g || ((c' == c + 1 && ofr N kd s1 s2 l p av c (c + 1) g) || (c' == c && ofr N kd s1 s2 l p av (c + 1) c g))) = false
    constructor
    · intro h c' g
      have e1 := h2.mp (by omega) c' g
      have e2 : ofr N kd s1 s2 l p av c (c + 1) g = false := by
        cases hh : ofr N kd s1 s2 l p av c (c + 1) g with
        | false => rfl
        | true => rw [← hh]; exact cN_zero.mp (show cN (ofr N kd s1 s2 l p av c (c + 1)) 10 = 0 by omega) g (by have := (ofr_t hh).1; omega)
      have e3 : ofr N kd s1 s2 l p av (c + 1) c g = false := by
        cases hh : ofr N kd s1 s2 l p av (c + 1) c g with
        | false => rfl
        | true => rw [← hh]; exact cN_zero.mp (show cN (ofr N kd s1 s2 l p av (c + 1) c) 10 = 0 by omega) g (by have := (ofr_t hh).1; omega)
      rw [e1, e2, e3]; simp
    · intro h
      have e1 := h2.mpr (fun c' g => by have := h c' g; rw [Bool.or_eq_false_iff] at this; exact this.1)
      have e2 : cN (ofr N kd s1 s2 l p av c (c + 1)) 10 = 0 := cN_zero.mpr (fun g _ => by have := h (c + 1) g; simp only [Bool.or_eq_false_iff, BEq.rfl, Bool.true_and] at this; exact this.2.1)
      have e3 : cN (ofr N kd s1 s2 l p av (c + 1) c) 10 = 0 := cN_zero.mpr (fun g _ => by have := h c g; simp only [Bool.or_eq_false_iff, BEq.rfl, Bool.true_and] at this; exact this.2.2)
      omega
  · have hy : (y.2.2 g || (ofr N kd s1 s2 l p av c (c + 1) g || ofr N kd s1 s2 l p av (c + 1) c g)) = true := hy
    simp only [Bool.or_eq_true] at hy
    rcases hy with hy | hy | hy
    · exact h3 g hy
    · exact (ofr_t hy).1
    · exact (ofr_t hy).1
theorem scs_CP (hN : N ≤ 10) : ∀ (d c : Nat) {y : CX}, c + d + 1 ≤ C → CP N C kd s1 s2 l av y → CP N C kd s1 s2 l av (scs N kd s1 s2 l p av c d y)
  | 0, _, _, _, h => h
  | d + 1, c, _, hc, h => scs_CP hN d (c + 1) (by omega) (s1c_CP hN (by omega) h)
theorem snds_CP (hN : N ≤ 10) (hC : 1 ≤ C) : CP N C kd s1 s2 l av (snds N C kd s1 s2 l p av) :=
  scs_CP hN (C - 1) 0 (by omega) (by
    refine ⟨?_, ?_, ?_⟩
    · intro c g h; exact absurd (show false = true from h) (by decide)
    · exact ⟨fun _ _ _ => rfl, fun _ => rfl⟩
    · intro g h; exact absurd (show false = true from h) (by decide))
theorem snds_le : (snds N C kd s1 s2 l p av).2.1 ≤ 20 * (C - 1) := by
  have : ∀ (d c : Nat) (y : CX), (scs N kd s1 s2 l p av c d y).2.1 ≤ y.2.1 + 20 * d := by
    intro d
    induction d with
    | zero => intro c y; exact Nat.le_refl _
    | succ d ih =>
      intro c y
      have h1 := ih (c + 1) (s1c N kd s1 s2 l p av c y)
      have h2 := s1c_n (N := N) (kd := kd) (s1 := s1) (s2 := s2) (l := l) (p := p) (av := av) (c := c) (y := y)
      show (scs N kd s1 s2 l p av (c + 1) d _).2.1 ≤ _
      omega
  have h := this (C - 1) 0 cx0
  have e : cx0.2.1 = 0 := rfl
  unfold snds
  omega
/-- settling touches the own chips only, and keeps what stands -/
theorem r1_ne {t g c i : Nat} {x : HX} (h : c ≠ l i) : (r1 kd s1 s2 l t g x).1 c i = x.1 c i := by
  unfold r1
  split
  · exact up2_n (fun z => h (by rw [z.2]; exact z.1))
  · rfl
theorem rsf_ne {t c i : Nat} (h : c ≠ l i) : ∀ (d g : Nat) (x : HX), (rsf kd s1 s2 l t g d x).1 c i = x.1 c i
  | 0, _, _ => rfl
  | d + 1, g, x => by show (rsf kd s1 s2 l t (g + 1) d _).1 c i = _; rw [rsf_ne h d, r1_ne h]
theorem rit_ne {t c i : Nat} (h : c ≠ l i) : ∀ (n : Nat) (x : HX), (rit kd s1 s2 l N t n x).1 c i = x.1 c i
  | 0, _ => rfl
  | n + 1, x => by show (rit kd s1 s2 l N t n _).1 c i = _; rw [rit_ne h n, rsf_ne h]
theorem stl_ne {t c i : Nat} (h : c ≠ l i) (x : HX) : (stl kd s1 s2 l N t x).1 c i = x.1 c i := rit_ne h N x
theorem r1_keep {t g c i : Nat} {x : HX} (h : x.1 c i = true) : (r1 kd s1 s2 l t g x).2 c i = x.2 c i := by
  unfold r1
  split
  · rename_i hc
    exact up2_n (fun z => by rw [z.1, z.2, hc.2.1] at h; cases h)
  · rfl
theorem rsf_keep {t c i : Nat} : ∀ (d g : Nat) {x : HX}, x.1 c i = true → (rsf kd s1 s2 l t g d x).2 c i = x.2 c i
  | 0, _, _, _ => rfl
  | d + 1, g, x, h => by show (rsf kd s1 s2 l t (g + 1) d _).2 c i = _; rw [rsf_keep d (g + 1) (r1_mono h), r1_keep h]
theorem rit_keep {t c i : Nat} : ∀ (n : Nat) {x : HX}, x.1 c i = true → (rit kd s1 s2 l N t n x).2 c i = x.2 c i
  | 0, _, _ => rfl
  | n + 1, x, h => by show (rit kd s1 s2 l N t n _).2 c i = _; rw [rit_keep n (rsf_mono N 0 h), rsf_keep N 0 h]
/-- what is new has the slot's number -/
theorem r1_new {t g c i : Nat} {x : HX} (h : (r1 kd s1 s2 l t g x).1 c i = true) (h0 : x.1 c i = true → x.2 c i = t) : (r1 kd s1 s2 l t g x).2 c i = t := by
  unfold r1 at h ⊢
  split
  · rename_i hc
    rw [if_pos hc] at h
    by_cases e : c = l g ∧ i = g
    · obtain ⟨rfl, rfl⟩ := e; exact up2_s
    · have h : up2 x.1 (l g) g true c i = true := h
      rw [up2_n e] at h
      show up2 x.2 (l g) g t c i = t
      rw [up2_n e]; exact h0 h
  · rename_i hc
    rw [if_neg hc] at h
    exact h0 h
theorem rsf_new {t c i : Nat} : ∀ (d g : Nat) {x : HX}, (x.1 c i = true → x.2 c i = t) → (rsf kd s1 s2 l t g d x).1 c i = true → (rsf kd s1 s2 l t g d x).2 c i = t
  | 0, _, _, h, h1 => h h1
  | d + 1, g, x, h, h1 => rsf_new d (g + 1) (x := r1 kd s1 s2 l t g x) (fun z => r1_new z h) h1
theorem rit_new {t c i : Nat} : ∀ (n : Nat) {x : HX}, (x.1 c i = true → x.2 c i = t) → (rit kd s1 s2 l N t n x).1 c i = true → (rit kd s1 s2 l N t n x).2 c i = t
  | 0, _, h, h1 => h h1
  | n + 1, x, h, h1 => rit_new n (x := rsf kd s1 s2 l t 0 N x) (fun z => rsf_new N 0 h z) h1
/-- how much can still come -/
def pot (l : Nat → Nat) (av : Nat → Nat → Bool) : Nat := cN (fun i => !(i % 4 == l (i / 4)) && !av (i % 4) (i / 4)) 40
theorem cN_mono {f g : Nat → Bool} : ∀ {n : Nat}, (∀ i, i < n → f i = true → g i = true) → cN f n ≤ cN g n
  | 0, _ => Nat.le_refl _
  | n + 1, h => by
    have ih := cN_mono (f := f) (g := g) (n := n) (fun i hi => h i (by omega))
    have h1 := h n (by omega)
    rw [cN, cN]
    cases hf : f n with
    | false => simp; omega
    | true => rw [h1 hf]; simp; omega
theorem cN_lt {f g : Nat → Bool} : ∀ {n : Nat} (_ : ∀ i, i < n → f i = true → g i = true) (j : Nat) (_ : j < n) (_ : f j = false) (_ : g j = true), cN f n < cN g n
  | 0, _, j, hj, _, _ => absurd hj (Nat.not_lt_zero j)
  | n + 1, h, j, hj, hf, hg => by
    rw [cN, cN]
    by_cases e : j = n
    · subst e
      have := cN_mono (f := f) (g := g) (n := j) (fun i hi => h i (by omega))
      rw [hf, hg]; simp; omega
    · have ih := cN_lt (f := f) (g := g) (n := n) (fun i hi => h i (by omega)) j (by omega) hf hg
      have h1 := h n (by omega)
      cases hfn : f n with
      | false => simp; omega
      | true => rw [h1 hfn]; simp; omega
theorem pot_le (hl : ∀ i, l i < 4) : pot l av ≤ 30 := by
  have : ∀ n, cN (fun i => !(i % 4 == l (i / 4)) && !av (i % 4) (i / 4)) (4 * n) ≤ 3 * n := by
    intro n
    induction n with
    | zero => exact Nat.le_refl _
    | succ n ih =>
      have hln := hl n
      rw [show 4 * (n + 1) = 4 * n + 1 + 1 + 1 + 1 by omega, cN, cN, cN, cN]
      have m0 : (4 * n) % 4 = 0 := by omega
      have m1 : (4 * n + 1) % 4 = 1 := by omega
      have m2 : (4 * n + 1 + 1) % 4 = 2 := by omega
      have m3 : (4 * n + 1 + 1 + 1) % 4 = 3 := by omega
      have d0 : (4 * n) / 4 = n := by omega
      have d1 : (4 * n + 1) / 4 = n := by omega
      have d2 : (4 * n + 1 + 1) / 4 = n := by omega
      have d3 : (4 * n + 1 + 1 + 1) / 4 = n := by omega
      rw [m0, m1, m2, m3, d0, d1, d2, d3]
      have b : ∀ (b : Bool), (if b = true then 1 else 0) ≤ 1 := by intro b; cases b <;> decide
      have b0 := b (!(0 == l n) && !av 0 n)
      have b1 := b (!(1 == l n) && !av 1 n)
      have b2 := b (!(2 == l n) && !av 2 n)
      have b3 := b (!(3 == l n) && !av 3 n)
      rcases (show l n = 0 ∨ l n = 1 ∨ l n = 2 ∨ l n = 3 by omega) with e | e | e | e
      · have z : (if (!(0 == l n) && !av 0 n) = true then 1 else 0) = 0 := by rw [e]; rfl
        omega
      · have z : (if (!(1 == l n) && !av 1 n) = true then 1 else 0) = 0 := by rw [e]; rfl
        omega
      · have z : (if (!(2 == l n) && !av 2 n) = true then 1 else 0) = 0 := by rw [e]; rfl
        omega
      · have z : (if (!(3 == l n) && !av 3 n) = true then 1 else 0) = 0 := by rw [e]; rfl
        omega
  exact this 10
theorem pot_stl {t : Nat} {x : HX} : pot l (stl kd s1 s2 l N t x).1 = pot l x.1 := by
  unfold pot
  apply cN_cong
  intro i _
  by_cases e : i % 4 = l (i / 4)
  · simp [e]
  · rw [stl_ne e]
theorem pot_take (hN : N ≤ 10) (hC : 1 ≤ C ∧ C ≤ 4) {t : Nat} {x : HX} (h : (snds N C kd s1 s2 l p x.1).2.1 ≠ 0) : pot l (take t (snds N C kd s1 s2 l p x.1).1 x).1 < pot l x.1 := by
  have hP := snds_CP (N := N) (C := C) (kd := kd) (s1 := s1) (s2 := s2) (l := l) (p := p) (av := x.1) hN hC.1
  have hex : ∃ c g, (snds N C kd s1 s2 l p x.1).1 c g = true := by
    apply Classical.byContradiction
    intro hno
    apply h
    rw [hP.2.1]
    intro c g
    cases hh : (snds N C kd s1 s2 l p x.1).1 c g with
    | false => rfl
    | true => exact absurd ⟨c, g, hh⟩ hno
  obtain ⟨c, g, hcg⟩ := hex
  obtain ⟨hg, hc, ha, hw⟩ := hP.1 c g hcg
  have hne := waP_ne N hw
  have e1 : (4 * g + c) % 4 = c := by omega
  have e2 : (4 * g + c) / 4 = g := by omega
  refine cN_lt (fun i _ hi => ?_) (4 * g + c) (by omega) ?_ ?_
  · show (!(i % 4 == l (i / 4)) && !x.1 (i % 4) (i / 4)) = true
    have hi : (!(i % 4 == l (i / 4)) && !(x.1 (i % 4) (i / 4) || (snds N C kd s1 s2 l p x.1).1 (i % 4) (i / 4))) = true := hi
    simp only [Bool.and_eq_true, Bool.not_eq_true', Bool.or_eq_false_iff] at hi ⊢
    exact ⟨hi.1, hi.2.1⟩
  · show (!((4 * g + c) % 4 == l ((4 * g + c) / 4)) && !(x.1 ((4 * g + c) % 4) ((4 * g + c) / 4) || (snds N C kd s1 s2 l p x.1).1 ((4 * g + c) % 4) ((4 * g + c) / 4))) = false
    rw [e1, e2, hcg]; simp
  · show (!((4 * g + c) % 4 == l ((4 * g + c) / 4)) && !x.1 ((4 * g + c) % 4) ((4 * g + c) / 4)) = true
    rw [e1, e2, ha, show (c == l g) = false by simpa using hne]; rfl
/-- the first slot of a value is what the whole schedule notes -/
theorem run_keep (hN : N ≤ 10) (hC : 1 ≤ C) {c g : Nat} : ∀ (n t : Nat) (z : RX), z.1.1 c g = true → (run_ N C kd s1 s2 l p n t z).1.1 c g = true ∧ (run_ N C kd s1 s2 l p n t z).1.2 c g = z.1.2 c g
  | 0, _, z, h => ⟨h, rfl⟩
  | n + 1, t, z, h => by
    have h1 : (stl kd s1 s2 l N t z.1).1 c g = true := rit_mono N h
    have h2 : (stl kd s1 s2 l N t z.1).2 c g = z.1.2 c g := rit_keep N h
    rw [run_]
    split
    · exact ⟨h1, h2⟩
    · have hP := snds_CP (N := N) (C := C) (kd := kd) (s1 := s1) (s2 := s2) (l := l) (p := p) (av := (stl kd s1 s2 l N t z.1).1) hN hC
      have hco : (snds N C kd s1 s2 l p (stl kd s1 s2 l N t z.1).1).1 c g = false := by
        cases hh : (snds N C kd s1 s2 l p (stl kd s1 s2 l N t z.1).1).1 c g with
        | false => rfl
        | true => have := (hP.1 c g hh).2.2.1; rw [h1] at this; cases this
      have := run_keep hN hC (c := c) (g := g) n (t + 1) (take t (snds N C kd s1 s2 l p (stl kd s1 s2 l N t z.1).1).1 (stl kd s1 s2 l N t z.1), z.2.1 + 1, z.2.2.1 + (snds N C kd s1 s2 l p (stl kd s1 s2 l N t z.1).1).2.1, (snds N C kd s1 s2 l p (stl kd s1 s2 l N t z.1).1).2.2) (by show (_ || _) = true; rw [h1]; rfl)
      refine ⟨this.1, this.2.trans ?_⟩
      show (if _ then _ else _) = _
      rw [hco, if_neg (by decide)]; exact h2
theorem fst_run (hN : N ≤ 10) (hC : 1 ≤ C ∧ C ≤ 4) {c g : Nat} : ∀ (n t : Nat) (z : RX), pot l z.1.1 < n → (z.1.1 c g = true → z.1.2 c g = t) → fst_ N C kd s1 s2 l p c g n t z.1 = if (run_ N C kd s1 s2 l p n t z).1.1 c g = true then some ((run_ N C kd s1 s2 l p n t z).1.2 c g) else none
  | 0, _, _, h, _ => absurd h (Nat.not_lt_zero _)
  | n + 1, t, z, hp, h => by
    rw [fst_]
    have hk : (stl kd s1 s2 l N t z.1).1 c g = true → (run_ N C kd s1 s2 l p (n + 1) t z).1.1 c g = true ∧ (run_ N C kd s1 s2 l p (n + 1) t z).1.2 c g = t := by
      intro h1
      have h2 : (stl kd s1 s2 l N t z.1).2 c g = t := rit_new N h h1
      rw [run_]
      split
      · exact ⟨h1, h2⟩
      · have hP := snds_CP (N := N) (C := C) (kd := kd) (s1 := s1) (s2 := s2) (l := l) (p := p) (av := (stl kd s1 s2 l N t z.1).1) hN hC.1
        have hco : (snds N C kd s1 s2 l p (stl kd s1 s2 l N t z.1).1).1 c g = false := by
          cases hh : (snds N C kd s1 s2 l p (stl kd s1 s2 l N t z.1).1).1 c g with
          | false => rfl
          | true => have := (hP.1 c g hh).2.2.1; rw [h1] at this; cases this
        have := run_keep (N := N) (C := C) (kd := kd) (s1 := s1) (s2 := s2) (l := l) (p := p) hN hC.1 (c := c) (g := g) n (t + 1) (take t (snds N C kd s1 s2 l p (stl kd s1 s2 l N t z.1).1).1 (stl kd s1 s2 l N t z.1), z.2.1 + 1, z.2.2.1 + (snds N C kd s1 s2 l p (stl kd s1 s2 l N t z.1).1).2.1, (snds N C kd s1 s2 l p (stl kd s1 s2 l N t z.1).1).2.2) (by show (_ || _) = true; rw [h1]; rfl)
        refine ⟨this.1, this.2.trans ?_⟩
        show (if _ then _ else _) = _
        rw [hco, if_neg (by decide)]; exact h2
    by_cases h1 : (stl kd s1 s2 l N t z.1).1 c g = true
    · rw [if_pos h1, if_pos (hk h1).1, (hk h1).2]
    · rw [if_neg h1]
      by_cases h0 : (snds N C kd s1 s2 l p (stl kd s1 s2 l N t z.1).1).2.1 = 0
      · rw [if_pos h0, run_, if_pos h0, if_neg h1]
      · rw [if_neg h0, run_, if_neg h0]
        have hpt := pot_take (l := l) (N := N) (C := C) (kd := kd) (s1 := s1) (s2 := s2) (p := p) hN hC (t := t) h0
        rw [pot_stl] at hpt
        refine fst_run hN hC n (t + 1) (take t (snds N C kd s1 s2 l p (stl kd s1 s2 l N t z.1).1).1 (stl kd s1 s2 l N t z.1), z.2.1 + 1, z.2.2.1 + (snds N C kd s1 s2 l p (stl kd s1 s2 l N t z.1).1).2.1, (snds N C kd s1 s2 l p (stl kd s1 s2 l N t z.1).1).2.2) ?_ ?_
        · exact Nat.lt_of_lt_of_le hpt (by omega)
        · intro hh
          have hh : ((stl kd s1 s2 l N t z.1).1 c g || (snds N C kd s1 s2 l p (stl kd s1 s2 l N t z.1).1).1 c g) = true := hh
          have h1' : (stl kd s1 s2 l N t z.1).1 c g = false := by simpa using h1
          rw [h1', Bool.false_or] at hh
          show (if _ then _ else _) = _
          rw [if_pos hh]
end
