/-! ===== the reference's schedules ===== -/
section
variable {N C : Nat} {kd s1 s2 ck l : Nat → Nat} {kind source second r : Nat → Int32} {p : Nat}
theorem run_bd (n : Nat) : ∀ (t : Nat) (z : RX), z.2.1 ≤ (run_ N C kd s1 s2 l p n t z).2.1 ∧ (run_ N C kd s1 s2 l p n t z).2.1 ≤ z.2.1 + n ∧ (run_ N C kd s1 s2 l p n t z).2.2.1 ≤ z.2.2.1 + n * (20 * (C - 1)) := by
  induction n with
  | zero => intro t z; exact ⟨Nat.le_refl _, Nat.le_refl _, by rw [Nat.zero_mul]; exact Nat.le_refl _⟩
  | succ n ih =>
    intro t z
    rw [run_]
    split
    · exact ⟨Nat.le_refl _, Nat.le_add_right _ _, Nat.le_add_right _ _⟩
    · have hs := snds_le (N := N) (C := C) (kd := kd) (s1 := s1) (s2 := s2) (l := l) (p := p) (av := (stl kd s1 s2 l N t z.1).1)
      obtain ⟨h1, h2, h3⟩ := ih (t + 1) (take t (snds N C kd s1 s2 l p (stl kd s1 s2 l N t z.1).1).1 (stl kd s1 s2 l N t z.1), z.2.1 + 1, z.2.2.1 + (snds N C kd s1 s2 l p (stl kd s1 s2 l N t z.1).1).2.1, (snds N C kd s1 s2 l p (stl kd s1 s2 l N t z.1).1).2.2)
      refine ⟨Nat.le_trans (Nat.le_succ _) h1, Nat.le_trans h2 (by show z.2.1 + 1 + n ≤ _; omega), Nat.le_trans h3 ?_⟩
      show z.2.2.1 + _ + n * (20 * (C - 1)) ≤ _
      rw [show (n + 1) * (20 * (C - 1)) = n * (20 * (C - 1)) + 20 * (C - 1) from Nat.succ_mul _ _]; omega
theorem sch_bd (hC : C ≤ 4) : 1 ≤ (sch N C kd s1 s2 l p).2.1 ∧ (sch N C kd s1 s2 l p).2.1 ≤ 32 ∧ (sch N C kd s1 s2 l p).2.2.1 ≤ 1860 := by
  obtain ⟨h1, h2, h3⟩ := run_bd (N := N) (C := C) (kd := kd) (s1 := s1) (s2 := s2) (l := l) (p := p) 31 0 (rx0 kd l)
  refine ⟨h1, h2, Nat.le_trans h3 ?_⟩
  show 0 + 31 * (20 * (C - 1)) ≤ 1860
  omega
theorem init1 {F : Nat} {cr last ln tk p2 p3 : Int32} {goes : Nat → Int32} {Q : Int32 → (Nat → Int32) → (Nat → Int32) → Int32 → Int32 → Int32 → Prop} (hQ : ∀ hand, (∀ j, j < 40 → hand j = -9) → ∃ n, wp_X10_laySchedule_h28 (nI C) (nI N) kind second source r p2 p3 (nI F) Q n 0 cr goes hand last ln tk) :
    ∀ (d i : Nat) (hand : Nat → Int32), i + d = 40 → (∀ j, j < i → hand j = -9) → wp_X10_laySchedule_h3 (nI C) (nI N) kind second source r p2 p3 (nI F) Q (d + 1) (nI i) cr goes hand last ln tk := by
  intro d
  induction d with
  | zero =>
    intro i hand hid h1
    show wp_X10_laySchedule_b3 (nI C) (nI N) kind second source r p2 p3 (nI F) Q _ _ _ _ _ _ _ _
    unfold wp_X10_laySchedule_b3
    exact pk_le 40 i (fun _ => hQ hand (fun j hj => h1 j (by omega))) (fun h => absurd h (by omega))
  | succ d ih =>
    intro i hand hid h1
    show wp_X10_laySchedule_b3 (nI C) (nI N) kind second source r p2 p3 (nI F) Q (wp_X10_laySchedule_h3 (nI C) (nI N) kind second source r p2 p3 (nI F) Q (d + 1)) _ _ _ _ _ _ _
    unfold wp_X10_laySchedule_b3
    have hi : vp_in (nI i) 40 := vp_in_nI (by omega) (by omega)
    refine pk_le 40 i (fun h => absurd h (by omega)) (fun _ => ⟨hi, all_e (all_e ?_)⟩)
    rw [nI_1, nI_clamp (by omega)]
    refine ih (i + 1) _ (by omega) (fun j hj => ?_)
    by_cases e : j = i
    · rw [e, upd_s]
    · rw [upd_n e]; exact h1 j (by omega)
theorem init2 (hO : POK N kd s1 s2 ck) (hB : PB N kd s1 s2 kind source second) (hl : ∀ i, l i < 4) (hR : RLy N l r) {F : Nat} {cr last ln tk p2 p3 : Int32} {goes : Nat → Int32} {Q : Int32 → (Nat → Int32) → (Nat → Int32) → Int32 → Int32 → Int32 → Prop} (hQ : ∀ hand, HR N (hx0 kd l) hand → ∃ n, wp_X10_laySchedule_h97 (nI C) (nI N) kind second source r p2 p3 (nI F) Q n 1 0 0 goes hand (-9) ln 0) :
    ∀ (d g : Nat) (hand : Nat → Int32), g + d = N → (∀ i, i < N → ∀ c, c < 4 → hand (4 * i + c) = if (decide (i < g) && (hx0 kd l).1 c i) = true then 0 else -9) → wp_X10_laySchedule_h28 (nI C) (nI N) kind second source r p2 p3 (nI F) Q (d + 1) (nI g) cr goes hand last ln tk := by
  have hN := hO.1
  intro d
  induction d with
  | zero =>
    intro g hand hgd h1
    show wp_X10_laySchedule_b28 (nI C) (nI N) kind second source r p2 p3 (nI F) Q _ _ _ _ _ _ _ _
    unfold wp_X10_laySchedule_b28
    refine pk_le N g (fun _ => hQ hand ⟨fun i hi c hc => ?_, fun c i => Nat.zero_le _⟩) (fun h => absurd h (by omega))
    rw [h1 i hi c hc]
    simp [show i < g by omega]
    rfl
  | succ d ih =>
    intro g hand hgd h1
    show wp_X10_laySchedule_b28 (nI C) (nI N) kind second source r p2 p3 (nI F) Q (wp_X10_laySchedule_h28 (nI C) (nI N) kind second source r p2 p3 (nI F) Q (d + 1)) _ _ _ _ _ _ _
    unfold wp_X10_laySchedule_b28 wp_X10_laySchedule_b68
    have hg : g < N := by omega
    have hlg := hl g
    rw [ix10, nI_clamp (by omega), hR g hg, ix40, nI_clamp (by omega)]
    have next : ∀ w : Int32, w = (if stb (kd g) = true then 0 else -9) → ∀ v, v = nI g + 1 → wp_X10_laySchedule_h28 (nI C) (nI N) kind second source r p2 p3 (nI F) Q (d + 1) v cr goes (upd hand (4 * g + l g) w) last ln tk := by
      intro w hw v hv
      rw [hv, nI_1]
      refine ih (g + 1) _ (by omega) (fun i hi c hc => ?_)
      by_cases e : 4 * i + c = 4 * g + l g
      · have e1 : i = g := by omega
        have e2 : c = l g := by omega
        subst e1; subst e2
        rw [upd_s, hw]
        show _ = if (decide (i < i + 1) && (stb (kd i) && l i == l i)) = true then _ else _
        simp
      · rw [upd_n e, h1 i hi c hc]
        show (if (decide (i < g) && (stb (kd i) && c == l i)) = true then _ else _) = if (decide (i < g + 1) && (stb (kd i) && c == l i)) = true then _ else _
        by_cases e1 : i = g
        · have e2 : (c == l i) = false := by rw [e1]; simp; omega
          rw [e2]; simp
        · have : (i < g + 1) = (i < g) := by simp; omega
          simp only [this]
    refine pk_le N g (fun h => absurd h (by omega)) (fun _ => ⟨vp_in_nI (by omega) (by omega), ev_stands (by omega) (hB g hg).1 (hO.2 g hg).1 ?_⟩)
    cases hs : stb (kd g) with
    | false => exact br_t rfl ⟨vp_in_nI (by omega) (by omega), all_e (next _ (by rw [hs]; rfl))⟩
    | true => exact br_f (by decide) ⟨vp_in_nI (by omega) (by omega), all_e (next _ (by rw [hs]; rfl))⟩
theorem norm_loop (hO : POK N kd s1 s2 ck) (hB : PB N kd s1 s2 kind source second) (hl : ∀ i, l i < 4) (hR : RLy N l r) (hC : 1 ≤ C ∧ C ≤ 4) (hp : p < 100) {Q : Int32 → (Nat → Int32) → (Nat → Int32) → Int32 → Int32 → Int32 → Prop} :
    ∀ (d t : Nat) (z : RX) (tk w : Nat) (hand goes : Nat → Int32) (ln : Int32), pot l z.1.1 < d → t + d ≤ 90 → (0 < w ∨ t = 0) → w < 2 ^ 20 → z.2.1 = tk + 1 → HR N z.1 hand → (∀ goes hand ln, HR N (run_ N C kd s1 s2 l p d t z).1 hand → Q (nI (run_ N C kd s1 s2 l p d t z).2.2.1) goes hand (mx (run_ N C kd s1 s2 l p d t z).2.2.2 10) ln (nI (run_ N C kd s1 s2 l p d t z).2.1)) →
      wp_X10_laySchedule_h97 (nI C) (nI N) kind second source r (nI p) 0 (nI 0) Q (d + 1) (nI w) (nI t) (nI z.2.2.1) goes hand (mx z.2.2.2 10) ln (nI tk) := by
  intro d
  induction d with
  | zero => intro t z tk w hand goes ln hpt; exact absurd hpt (Nat.not_lt_zero _)
  | succ d ih =>
    intro t z tk w hand goes ln hpt htd hw hw2 htk hH hQ
    show wp_X10_laySchedule_b97 (nI C) (nI N) kind second source r (nI p) 0 (nI 0) Q (wp_X10_laySchedule_h97 (nI C) (nI N) kind second source r (nI p) 0 (nI 0) Q (d + 1)) _ _ _ _ _ _ _ _
    unfold wp_X10_laySchedule_b97
    have slot : wp_X10_laySchedule_b116 (nI C) (nI N) kind second source r (nI p) 0 (nI 0) Q (wp_X10_laySchedule_h97 (nI C) (nI N) kind second source r (nI p) 0 (nI 0) Q (d + 1)) (nI t) (nI z.2.2.1) goes hand (mx z.2.2.2 10) ln (nI tk) := by
      have e0 : (0 : Int32) = sI (fun _ => false) := sI_none.symm
      rw [e0]
      refine ev_slot (F := 0) (fl := fun _ => false) hO hB hl hR hC hp (by omega) hH (by omega) (fun goes hand ln => ?_)
      rw [← e0]
      have e1 : (decide (t < 0) && false) = false := by simp
      rw [e1]
      show HR N (take t (snds N C kd s1 s2 l p (stl kd s1 s2 l N t z.1).1).1 (stl kd s1 s2 l N t z.1)) hand → wp_X10_laySchedule_h97 (nI C) (nI N) kind second source r (nI p) 0 (nI 0) Q (d + 1) (nI (snds N C kd s1 s2 l p (stl kd s1 s2 l N t z.1).1).2.1) (nI (t + 1)) (nI (z.2.2.1 + (snds N C kd s1 s2 l p (stl kd s1 s2 l N t z.1).1).2.1)) goes hand (if (snds N C kd s1 s2 l p (stl kd s1 s2 l N t z.1).1).2.1 = 0 then (mx z.2.2.2 10) else mx (snds N C kd s1 s2 l p (stl kd s1 s2 l N t z.1).1).2.2 10) ln (nI (tk + 1))
      intro hH'
      rw [run_] at hQ
      by_cases h0 : (snds N C kd s1 s2 l p (stl kd s1 s2 l N t z.1).1).2.1 = 0
      · rw [if_pos h0] at hQ
        rw [h0, if_pos rfl, Nat.add_zero]
        have hco := (snds_CP (N := N) (C := C) (kd := kd) (s1 := s1) (s2 := s2) (l := l) (p := p) (av := (stl kd s1 s2 l N t z.1).1) hO.1 hC.1).2.1.mp h0
        have e2 : (snds N C kd s1 s2 l p (stl kd s1 s2 l N t z.1).1).1 = fun _ _ => false := by
          funext c g; exact hco c g
        rw [e2, take_none] at hH'
        show wp_X10_laySchedule_b97 (nI C) (nI N) kind second source r (nI p) 0 (nI 0) Q _ _ _ _ _ _ _ _ _
        unfold wp_X10_laySchedule_b97
        refine pk_le 99 (t + 1) (fun h => absurd h (by omega)) (fun _ => pk_lt 0 0 (fun h => absurd h (by omega)) (fun _ => pk_lt 0 (t + 1) (fun _ => ?_) (fun h => absurd h (by omega))))
        rw [← htk]
        exact hQ goes hand ln hH'
      · rw [if_neg h0] at hQ
        rw [if_neg h0]
        have hpt2 := pot_take (l := l) (N := N) (C := C) (kd := kd) (s1 := s1) (s2 := s2) (p := p) hO.1 hC (t := t) h0
        rw [pot_stl] at hpt2
        have hsl := snds_le (N := N) (C := C) (kd := kd) (s1 := s1) (s2 := s2) (l := l) (p := p) (av := (stl kd s1 s2 l N t z.1).1)
        exact ih (t + 1) (take t (snds N C kd s1 s2 l p (stl kd s1 s2 l N t z.1).1).1 (stl kd s1 s2 l N t z.1), z.2.1 + 1, z.2.2.1 + (snds N C kd s1 s2 l p (stl kd s1 s2 l N t z.1).1).2.1, (snds N C kd s1 s2 l p (stl kd s1 s2 l N t z.1).1).2.2) (tk + 1) _ hand goes ln (Nat.lt_of_lt_of_le hpt2 (by omega)) (by omega) (Or.inl (by omega)) (by omega) (by show z.2.1 + 1 = _; omega) hH' hQ
    refine pk_le 99 t (fun h => absurd h (by omega)) (fun _ => ?_)
    by_cases h0 : 0 < w
    · exact pk_lt 0 w (fun _ => slot) (fun h => absurd h (by omega))
    · have ht0 : t = 0 := by omega
      exact pk_lt 0 w (fun _ => slot) (fun _ => pk_lt 0 t (fun h => absurd h (by omega)) (fun _ => slot))
theorem ev_laySchedule (hO : POK N kd s1 s2 ck) (hB : PB N kd s1 s2 kind source second) (hl : ∀ i, l i < 4) (hR : RLy N l r) (hC : 1 ≤ C ∧ C ≤ 4) (hp : p < 100) {cr last ln tk : Int32} {goes hand : Nat → Int32} {Q : Int32 → (Nat → Int32) → (Nat → Int32) → Int32 → Int32 → Int32 → Prop}
    (hQ : ∀ goes hand ln, HR N (sch N C kd s1 s2 l p).1 hand → Q (nI (sch N C kd s1 s2 l p).2.2.1) goes hand (mx (sch N C kd s1 s2 l p).2.2.2 10) ln (nI (sch N C kd s1 s2 l p).2.1)) :
    wp_X10_laySchedule (nI C) cr (nI N) goes hand kind last ln second source tk r (nI p) 0 0 Q := by
  refine ⟨41, init1 (F := 0) (fun hand h1 => ⟨N + 1, init2 (F := 0) hO hB hl hR (fun hand hH => ⟨32, ?_⟩) N 0 hand (by omega) (fun i hi c hc => ?_)⟩) 40 0 hand (by omega) (fun j hj => absurd hj (by omega))⟩
  · exact norm_loop hO hB hl hR hC hp 31 0 (rx0 kd l) 0 1 hand goes ln (by have := pot_le (l := l) (av := (rx0 kd l).1.1) hl; omega) (by omega) (Or.inl (by omega)) (by omega) rfl hH hQ
  · rw [h1 _ (by have := hO.1; omega)]; simp
/-! slots that fail -/
def rfx (N C : Nat) (kd s1 s2 l : Nat → Nat) (p F : Nat) (fl : Nat → Bool) : Nat → HX
  | 0 => hx0 kd l
  | t + 1 => take t (if (decide (t < F) && fl t) = true then cx0 else snds N C kd s1 s2 l p (stl kd s1 s2 l N t (rfx N C kd s1 s2 l p F fl t)).1).1 (stl kd s1 s2 l N t (rfx N C kd s1 s2 l p F fl t))
theorem fail_B (hO : POK N kd s1 s2 ck) (hB : PB N kd s1 s2 kind source second) (hl : ∀ i, l i < 4) (hR : RLy N l r) (hC : 1 ≤ C ∧ C ≤ 4) (hp : p < 100) {F : Nat} (hF : F ≤ 8) {fl : Nat → Bool} {Q : Int32 → (Nat → Int32) → (Nat → Int32) → Int32 → Int32 → Int32 → Prop} (hQ : ∀ T, F < T → ∀ cr goes hand last ln tk, HR N (rfx N C kd s1 s2 l p F fl T) hand → Q cr goes hand last ln tk) :
    ∀ (d t w cr tk : Nat) (hand goes : Nat → Int32) (last ln : Int32), pot l (rfx N C kd s1 s2 l p F fl t).1 < d → F < t → t + d ≤ 90 → w < 2 ^ 20 → HR N (rfx N C kd s1 s2 l p F fl t) hand →
      wp_X10_laySchedule_h97 (nI C) (nI N) kind second source r (nI p) (sI fl) (nI F) Q (d + 1) (nI w) (nI t) (nI cr) goes hand last ln (nI tk) := by
  intro d
  induction d with
  | zero => intro t w cr tk hand goes last ln hpt; exact absurd hpt (Nat.not_lt_zero _)
  | succ d ih =>
    intro t w cr tk hand goes last ln hpt hFt htd hw2 hH
    show wp_X10_laySchedule_b97 (nI C) (nI N) kind second source r (nI p) (sI fl) (nI F) Q (wp_X10_laySchedule_h97 (nI C) (nI N) kind second source r (nI p) (sI fl) (nI F) Q (d + 1)) _ _ _ _ _ _ _ _
    unfold wp_X10_laySchedule_b97
    refine pk_le 99 t (fun h => absurd h (by omega)) (fun _ => pk_lt 0 w (fun _ => ?_) (fun _ => pk_lt F t (fun _ => hQ t hFt _ _ _ _ _ _ hH) (fun h => absurd h (by omega))))
    refine ev_slot hO hB hl hR hC hp (by omega) hH hF (fun goes hand ln => ?_)
    show HR N (rfx N C kd s1 s2 l p F fl (t + 1)) hand → _
    have e1 : (decide (t < F) && fl t) = false := by
      rw [decide_eq_false (by omega)]; rfl
    have e2 : rfx N C kd s1 s2 l p F fl (t + 1) = take t (snds N C kd s1 s2 l p (stl kd s1 s2 l N t (rfx N C kd s1 s2 l p F fl t)).1).1 (stl kd s1 s2 l N t (rfx N C kd s1 s2 l p F fl t)) := by
      rw [rfx, e1]; rfl
    rw [e1]
    intro hH'
    show wp_X10_laySchedule_h97 (nI C) (nI N) kind second source r (nI p) (sI fl) (nI F) Q (d + 1) (nI (snds N C kd s1 s2 l p (stl kd s1 s2 l N t (rfx N C kd s1 s2 l p F fl t)).1).2.1) (nI (t + 1)) (nI (cr + (snds N C kd s1 s2 l p (stl kd s1 s2 l N t (rfx N C kd s1 s2 l p F fl t)).1).2.1)) goes hand _ ln (nI (tk + 1))
    have hsl := snds_le (N := N) (C := C) (kd := kd) (s1 := s1) (s2 := s2) (l := l) (p := p) (av := (stl kd s1 s2 l N t (rfx N C kd s1 s2 l p F fl t)).1)
    by_cases h0 : (snds N C kd s1 s2 l p (stl kd s1 s2 l N t (rfx N C kd s1 s2 l p F fl t)).1).2.1 = 0
    · rw [h0]
      show wp_X10_laySchedule_b97 (nI C) (nI N) kind second source r (nI p) (sI fl) (nI F) Q _ _ _ _ _ _ _ _ _
      unfold wp_X10_laySchedule_b97
      exact pk_le 99 (t + 1) (fun h => absurd h (by omega)) (fun _ => pk_lt 0 0 (fun h => absurd h (by omega)) (fun _ => pk_lt F (t + 1) (fun _ => hQ (t + 1) (by omega) _ _ _ _ _ _ hH') (fun h => absurd h (by omega))))
    · have hpt2 := pot_take (l := l) (N := N) (C := C) (kd := kd) (s1 := s1) (s2 := s2) (p := p) hO.1 hC (t := t) h0
      rw [pot_stl] at hpt2
      exact ih (t + 1) _ _ _ hand goes _ ln (by rw [e2]; omega) (by omega) (by omega) (by omega) hH'
theorem fail_A (hO : POK N kd s1 s2 ck) (hB : PB N kd s1 s2 kind source second) (hl : ∀ i, l i < 4) (hR : RLy N l r) (hC : 1 ≤ C ∧ C ≤ 4) (hp : p < 100) {F : Nat} (hF : F ≤ 8) {fl : Nat → Bool} {Q : Int32 → (Nat → Int32) → (Nat → Int32) → Int32 → Int32 → Int32 → Prop} (hQ : ∀ T, F < T → ∀ cr goes hand last ln tk, HR N (rfx N C kd s1 s2 l p F fl T) hand → Q cr goes hand last ln tk) :
    ∀ (d t w cr tk : Nat) (hand goes : Nat → Int32) (last ln : Int32), t + d = F + 1 → w < 2 ^ 20 → HR N (rfx N C kd s1 s2 l p F fl t) hand →
      wp_X10_laySchedule_h97 (nI C) (nI N) kind second source r (nI p) (sI fl) (nI F) Q (d + 32) (nI w) (nI t) (nI cr) goes hand last ln (nI tk) := by
  intro d
  induction d with
  | zero =>
    intro t w cr tk hand goes last ln htd hw hH
    exact fail_B hO hB hl hR hC hp hF hQ 31 t w cr tk hand goes last ln (by have := pot_le (l := l) (av := (rfx N C kd s1 s2 l p F fl t).1) hl; omega) (by omega) (by omega) hw hH
  | succ d ih =>
    intro t w cr tk hand goes last ln htd hw hH
    rw [show d + 1 + 32 = (d + 32) + 1 by omega]
    show wp_X10_laySchedule_b97 (nI C) (nI N) kind second source r (nI p) (sI fl) (nI F) Q (wp_X10_laySchedule_h97 (nI C) (nI N) kind second source r (nI p) (sI fl) (nI F) Q (d + 32)) _ _ _ _ _ _ _ _
    unfold wp_X10_laySchedule_b97
    have slot : wp_X10_laySchedule_b116 (nI C) (nI N) kind second source r (nI p) (sI fl) (nI F) Q (wp_X10_laySchedule_h97 (nI C) (nI N) kind second source r (nI p) (sI fl) (nI F) Q (d + 32)) (nI t) (nI cr) goes hand last ln (nI tk) := by
      refine ev_slot hO hB hl hR hC hp (by omega) hH hF (fun goes hand ln => ?_)
      intro y hH'
      refine ih (t + 1) _ _ _ hand goes _ ln (by omega) ?_ hH'
      show (if (decide (t < F) && fl t) = true then cx0 else snds N C kd s1 s2 l p (stl kd s1 s2 l N t (rfx N C kd s1 s2 l p F fl t)).1).2.1 < _
      split
      · exact (by decide : (0 : Nat) < 2 ^ 20)
      · have hsl := snds_le (N := N) (C := C) (kd := kd) (s1 := s1) (s2 := s2) (l := l) (p := p) (av := (stl kd s1 s2 l N t (rfx N C kd s1 s2 l p F fl t)).1)
        omega
    exact pk_le 99 t (fun h => absurd h (by omega)) (fun _ => pk_lt 0 w (fun _ => slot) (fun _ => pk_lt F t (fun h => absurd h (by omega)) (fun _ => slot)))
theorem ev_layFails (hO : POK N kd s1 s2 ck) (hB : PB N kd s1 s2 kind source second) (hl : ∀ i, l i < 4) (hR : RLy N l r) (hC : 1 ≤ C ∧ C ≤ 4) (hp : p < 100) {F : Nat} (hF : F ≤ 8) {fl : Nat → Bool} {cr last ln tk : Int32} {goes hand : Nat → Int32} {Q : Int32 → (Nat → Int32) → (Nat → Int32) → Int32 → Int32 → Int32 → Prop}
    (hQ : ∀ T, F < T → ∀ cr goes hand last ln tk, HR N (rfx N C kd s1 s2 l p F fl T) hand → Q cr goes hand last ln tk) :
    wp_X10_laySchedule (nI C) cr (nI N) goes hand kind last ln second source tk r (nI p) (sI fl) (nI F) Q := by
  refine ⟨41, init1 (F := F) (fun hand h1 => ⟨N + 1, init2 (F := F) hO hB hl hR (fun hand hH => ⟨F + 1 + 32, ?_⟩) N 0 hand (by omega) (fun i hi c hc => ?_)⟩) 40 0 hand (by omega) (fun j hj => absurd hj (by omega))⟩
  · exact fail_A hO hB hl hR hC hp hF hQ (F + 1) 0 1 0 0 hand goes _ ln (by omega) (by omega) hH
  · rw [h1 _ (by have := hO.1; omega)]; simp
end
