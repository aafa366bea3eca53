/-! ===== the values of gates: both sides sweep in the same order ===== -/
def two (k : Nat) : Bool := k == 2 || k == 3 || k == 4
def stb (k : Nat) : Bool := k == 0 || k == 5
def fI (kd s1 : Nat → Nat) (g : Nat) : Int32 := if kd g = 0 then -9 else nI (s1 g)
def eI (kd s2 : Nat → Nat) (g : Nat) : Int32 := if two (kd g) = true then nI (s2 g) else -9
def cI_ (kd ck : Nat → Nat) (g : Nat) : Int32 := if kd g = 5 then nI (ck g) else -9
def tF (kd s1 s2 : Nat → Nat) (g : Nat) : Nat → Bool := fun i => (!(kd g == 0) && i == s1 g) || (two (kd g) && i == s2 g)
def POK (N : Nat) (kd s1 s2 ck : Nat → Nat) : Prop := N ≤ 10 ∧ ∀ g, g < N → kd g ≤ 5 ∧ (kd g ≠ 0 → s1 g < N) ∧ (two (kd g) = true → s2 g < N) ∧ (kd g = 5 → ck g < 2)
/-- the class's arrays, the reference's arrays -/
def PA (N : Nat) (kd s1 s2 : Nat → Nat) (kinds firsts seconds sets : Nat → Int32) : Prop := ∀ g, g < N → kinds g = nI (kd g) ∧ firsts g = fI kd s1 g ∧ seconds g = eI kd s2 g ∧ sets g = sI (tF kd s1 s2 g)
def PB (N : Nat) (kd s1 s2 : Nat → Nat) (kind source second : Nat → Int32) : Prop := ∀ g, g < N → kind g = nI (kd g) ∧ source g = fI kd s1 g ∧ second g = eI kd s2 g
def gval (k a b : Nat) : Nat :=
  if k = 1 then (if a = 2 then 2 else 1 - a)
  else if k = 2 then (if a = 0 ∨ b = 0 then 0 else if a = 2 ∨ b = 2 then 2 else 1)
  else if k = 3 then (if a = 1 ∨ b = 1 then 1 else if a = 2 ∨ b = 2 then 2 else 0)
  else (if a = 2 ∨ b = 2 then 2 else if a = b then 0 else 1)
theorem gval_le (k a b : Nat) : gval k a b ≤ 2 := by
  unfold gval
  repeat' split
  all_goals omega
abbrev LX : Type := (Nat → Bool) × (Nat → Nat)
def l1 (kd s1 s2 : Nat → Nat) (g : Nat) (x : LX) : LX :=
  if x.1 g = false ∧ x.1 (s1 g) = true ∧ (two (kd g) = true → x.1 (s2 g) = true) then (upB x.1 g true, upN x.2 g (gval (kd g) (x.2 (s1 g)) (if two (kd g) = true then x.2 (s2 g) else 0))) else x
def lsf (kd s1 s2 : Nat → Nat) : Nat → Nat → LX → LX
  | _, 0, x => x
  | g, d + 1, x => lsf kd s1 s2 (g + 1) d (l1 kd s1 s2 g x)
def lit (kd s1 s2 : Nat → Nat) (N : Nat) : Nat → LX → LX
  | 0, x => x
  | t + 1, x => lit kd s1 s2 N t (lsf kd s1 s2 0 N x)
/-- the start: what is stored, and the stuck gate -/
def l0 (kd : Nat → Nat) (v : Nat → Nat) (stuck : Option Nat) : LX := (fun g => decide (stuck = some g) || stb (kd g), fun g => if stuck = some g then 0 else if stb (kd g) = true then v g else 2)
def kF (N : Nat) (x : LX) : Nat → Bool := fun i => decide (i < N) && x.1 i
def oF (N : Nat) (x : LX) : Nat → Bool := fun i => decide (i < N) && (x.1 i && x.2 i == 1)
def uF (N : Nat) (x : LX) : Nat → Bool := fun i => decide (i < N) && (x.1 i && x.2 i == 2)
/-- what every stage keeps: values up to 2, storing gates known, the unknown at 2 -/
def LG (N : Nat) (kd : Nat → Nat) (x : LX) : Prop := (∀ i, x.2 i ≤ 2) ∧ (∀ i, i < N → stb (kd i) = true → x.1 i = true) ∧ ∀ i, x.1 i = false → x.2 i = 2
section
variable {N : Nat} {kd s1 s2 ck : Nat → Nat}
theorem l1_LG {x : LX} (h : LG N kd x) (g : Nat) : LG N kd (l1 kd s1 s2 g x) := by
  unfold l1
  split
  · refine ⟨fun i => ?_, fun i hi hs => ?_, fun i hi => ?_⟩
    · show upN _ _ _ i ≤ 2
      unfold upN; split
      · exact gval_le _ _ _
      · exact h.1 i
    · show upB _ _ _ i = true
      unfold upB; split
      · rfl
      · exact h.2.1 i hi hs
    · have hi' : upB x.1 g true i = false := hi
      show upN _ _ _ i = 2
      by_cases e : i = g
      · subst e; rw [upB_s] at hi'; cases hi'
      · rw [upB_n e] at hi'
        rw [upN_n e]; exact h.2.2 i hi'
  · exact h
theorem lsf_LG : ∀ (d g : Nat) {x : LX}, LG N kd x → LG N kd (lsf kd s1 s2 g d x)
  | 0, _, _, h => h
  | d + 1, g, _, h => lsf_LG d (g + 1) (l1_LG h g)
theorem lit_LG : ∀ (t : Nat) {x : LX}, LG N kd x → LG N kd (lit kd s1 s2 N t x)
  | 0, _, h => h
  | t + 1, _, h => lit_LG t (lsf_LG N 0 h)
theorem l0_LG {v : Nat → Nat} {stuck : Option Nat} (hv : ∀ i, v i ≤ 2) : LG N kd (l0 kd v stuck) := by
  refine ⟨fun i => ?_, fun i _ hs => ?_, fun i hi => ?_⟩
  · show (if _ then _ else _) ≤ 2
    split
    · omega
    · split
      · exact hv i
      · omega
  · show (_ || _) = true
    rw [hs, Bool.or_true]
  · have hi' : (decide (stuck = some i) || stb (kd i)) = false := hi
    rw [Bool.or_eq_false_iff, decide_eq_false_iff_not] at hi'
    show (if _ then _ else _) = 2
    rw [if_neg hi'.1, if_neg (by rw [hi'.2]; decide)]
/-- known stays known -/
theorem l1_mono {x : LX} {g i : Nat} (h : x.1 i = true) : (l1 kd s1 s2 g x).1 i = true := by
  unfold l1
  split
  · show upB _ _ _ i = true
    unfold upB; split
    · rfl
    · exact h
  · exact h
theorem lsf_mono : ∀ (d g : Nat) {x : LX} {i : Nat}, x.1 i = true → (lsf kd s1 s2 g d x).1 i = true
  | 0, _, _, _, h => h
  | d + 1, g, _, _, h => lsf_mono d (g + 1) (l1_mono h)
theorem l1_id {x : LX} {g : Nat} (h : (l1 kd s1 s2 g x).1 g = x.1 g) : l1 kd s1 s2 g x = x := by
  unfold l1 at h ⊢
  split
  · rename_i hc
    rw [if_pos hc] at h
    have h : upB x.1 g true g = x.1 g := h
    rw [upB_s, hc.1] at h
    cases h
  · rfl
theorem lsf_id : ∀ (d g : Nat) {x : LX}, (∀ i, g ≤ i → i < g + d → (lsf kd s1 s2 g d x).1 i = x.1 i) → lsf kd s1 s2 g d x = x
  | 0, _, _, _ => rfl
  | d + 1, g, x, h => by
    have e : l1 kd s1 s2 g x = x := by
      apply l1_id
      have h1 : (lsf kd s1 s2 (g + 1) d (l1 kd s1 s2 g x)).1 g = x.1 g := h g (Nat.le_refl g) (by omega)
      cases hx : x.1 g with
      | true => exact l1_mono hx
      | false =>
        cases hl : (l1 kd s1 s2 g x).1 g with
        | false => rfl
        | true => rw [lsf_mono d (g + 1) hl, hx] at h1; cases h1
    show lsf kd s1 s2 (g + 1) d (l1 kd s1 s2 g x) = x
    rw [e]
    apply lsf_id d (g + 1)
    intro i h1 h2
    have := h i (by omega) (by omega)
    have this : (lsf kd s1 s2 (g + 1) d (l1 kd s1 s2 g x)).1 i = x.1 i := this
    rw [e] at this
    exact this
theorem lit_id : ∀ (t : Nat) {x : LX}, lsf kd s1 s2 0 N x = x → lit kd s1 s2 N t x = x
  | 0, _, _ => rfl
  | t + 1, x, h => by show lit kd s1 s2 N t (lsf kd s1 s2 0 N x) = x; rw [h]; exact lit_id t h
theorem l1_known {x : LX} {g : Nat} (h : x.1 g = true) : l1 kd s1 s2 g x = x := by
  unfold l1
  rw [if_neg (by rw [h]; simp)]
theorem lsf_known : ∀ (d g : Nat) {x : LX}, (∀ i, g ≤ i → i < g + d → x.1 i = true) → lsf kd s1 s2 g d x = x
  | 0, _, _, _ => rfl
  | d + 1, g, x, h => by
    show lsf kd s1 s2 (g + 1) d (l1 kd s1 s2 g x) = x
    rw [l1_known (h g (Nat.le_refl g) (by omega))]
    exact lsf_known d (g + 1) (fun i h1 h2 => h i (by omega) (by omega))
end
/-! the class's own steps -/
theorem ev_kindOf {f : Nat → Int32} {g : Nat} {Q : Int32 → Prop} (hg : g < 10) (h : Q (f g)) : wp_X2_kindOf f (nI g) Q := ev_cell hg (by omega) h
theorem ev_firstOf {f : Nat → Int32} {g : Nat} {Q : Int32 → Prop} (hg : g < 10) (h : Q (f g)) : wp_X2_firstOf f (nI g) Q := ev_cell hg (by omega) h
theorem ev_secondOf {f : Nat → Int32} {g : Nat} {Q : Int32 → Prop} (hg : g < 10) (h : Q (f g)) : wp_X2_secondOf f (nI g) Q := ev_cell hg (by omega) h
theorem ev_clockOf {f : Nat → Int32} {g : Nat} {Q : Int32 → Prop} (hg : g < 10) (h : Q (f g)) : wp_X2_clockOf f (nI g) Q := ev_cell hg (by omega) h
theorem ev_sourcesOf {f : Nat → Int32} {g : Nat} {Q : Int32 → Prop} (hg : g < 10) (h : Q (f g)) : wp_X2_sourcesOf f (nI g) Q := ev_cell hg (by omega) h
def d3 (P : Nat → Prop) : Prop := P 0 ∧ P 1 ∧ P 2
theorem le3 {P : Nat → Prop} (h : d3 P) {a : Nat} (ha : a ≤ 2) : P a := by
  obtain ⟨h0, h1, h2⟩ := h
  rcases (show a = 0 ∨ a = 1 ∨ a = 2 by omega) with rfl | rfl | rfl <;> assumption
theorem ev_outcome {k a b : Nat} {Q : Int32 → Prop} (hk : 1 ≤ k ∧ k ≤ 4) (ha : a ≤ 2) (hb : b ≤ 2) (hb0 : k = 1 → b = 0) (h : Q (nI (gval k a b))) : wp_X1_outcome (nI k) (nI a) (nI b) Q := by
  unfold wp_X1_outcome wp_X1_outcome_b10 wp_X1_outcome_b15 wp_X1_outcome_b69 wp_X1_outcome_b93
  rcases (show k = 1 ∨ k = 2 ∨ k = 3 ∨ k = 4 by omega) with rfl | rfl | rfl | rfl <;> rcases (show a = 0 ∨ a = 1 ∨ a = 2 by omega) with rfl | rfl | rfl <;> rcases (show b = 0 ∨ b = 1 ∨ b = 2 by omega) with rfl | rfl | rfl <;> first | (exfalso; exact absurd (hb0 rfl) (by decide)) | (simp (decide := true) only [nI, gval, true_implies, false_implies, and_true, true_and, if_true, if_false] at h ⊢; exact h)
theorem ev_setValue {o u : Nat → Bool} {g v : Nat} {Q : Int32 → Int32 → Prop} (hg : g < 10) (hv : v ≤ 2) (h : Q (sI (fun i => o i || (v == 1 && i == g))) (sI (fun i => u i || (v == 2 && i == g)))) : wp_X1_setValue (sI o) (sI u) (nI g) (nI v) Q := by
  unfold wp_X1_setValue wp_X1_setValue_b18
  rcases (show v = 0 ∨ v = 1 ∨ v = 2 by omega) with rfl | rfl | rfl
  · refine bn_f (by decide) (bn_f (by decide) ?_)
    simpa using h
  · refine bn_t (by decide) (ev_bit hg (all_e (bn_f (by decide) ?_)))
    rw [sI_or]
    simpa using h
  · refine bn_f (by decide) (bn_t (by decide) (ev_bit hg (all_e ?_)))
    rw [sI_or]
    simpa using h
section
variable {N : Nat} {kd s1 s2 ck : Nat → Nat} {kinds firsts seconds sets : Nat → Int32}
theorem vX {x : LX} {j : Nat} (hx : LG N kd x) (hj : j < N) (hk : x.1 j = true) : (if uF N x j then 2 else if oF N x j then 1 else 0) = x.2 j := by
  have := hx.1 j
  unfold uF oF
  simp only [hj, hk, decide_true, Bool.true_and, beq_iff_eq]
  split
  · omega
  · split <;> omega
/-- the sources of a gate are known -/
theorem srcK {x : LX} {g : Nat} (hO : POK N kd s1 s2 ck) (hg : g < N) (hk0 : kd g ≠ 0) : (sI (tF kd s1 s2 g) &&& (sI (kF N x) ^^^ (-1))) = 0 ↔ x.1 (s1 g) = true ∧ (two (kd g) = true → x.1 (s2 g) = true) := by
  obtain ⟨hN, hO⟩ := hO
  obtain ⟨_, h1, h2, _⟩ := hO g hg
  rw [sI_dif, sI_z]
  have hs1 := h1 hk0
  constructor
  · intro h
    refine ⟨?_, fun ht => ?_⟩
    · have := h (s1 g) (by omega)
      simpa [tF, kF, hk0, hs1] using this
    · have hs2 := h2 ht
      have := h (s2 g) (by omega)
      simpa [tF, kF, ht, hs2] using this
  · intro ⟨ha, hb⟩ i hi
    by_cases e1 : i = s1 g
    · subst e1; simp [kF, ha, hs1]
    · by_cases ht : two (kd g) = true
      · by_cases e2 : i = s2 g
        · subst e2; simp [kF, hb ht, h2 ht]
        · simp [tF, e1, e2]
      · simp [tF, e1, ht]
theorem settle_loop (hO : POK N kd s1 s2 ck) (hA : PA N kd s1 s2 kinds firsts seconds sets) {Q : Int32 → Int32 → Int32 → Prop} :
    ∀ (d g : Nat) (x : LX), g + d = N → LG N kd x → Q (sI (oF N (lsf kd s1 s2 g d x))) (sI (kF N (lsf kd s1 s2 g d x))) (sI (uF N (lsf kd s1 s2 g d x))) → wp_X1_settle_h2 firsts (nI N) kinds seconds sets Q (d + 1) (nI g) (sI (oF N x)) (sI (kF N x)) (sI (uF N x)) := by
  have hN := hO.1
  intro d
  induction d with
  | zero =>
    intro g x hgd hx hq
    show wp_X1_settle_b2 _ _ _ _ _ _ _ _ _ _ _
    unfold wp_X1_settle_b2
    exact pk_le N g (fun _ => hq) (fun h => absurd h (by omega))
  | succ d ih =>
    intro g x hgd hx hq
    show wp_X1_settle_b2 _ _ _ _ _ _ (wp_X1_settle_h2 firsts (nI N) kinds seconds sets Q (d + 1)) _ _ _ _
    unfold wp_X1_settle_b2 wp_X1_settle_b101
    have hg : g < N := by omega
    have hg10 : g < 10 := by omega
    have hq : Q (sI (oF N (lsf kd s1 s2 (g + 1) d (l1 kd s1 s2 g x)))) (sI (kF N (lsf kd s1 s2 (g + 1) d (l1 kd s1 s2 g x)))) (sI (uF N (lsf kd s1 s2 (g + 1) d (l1 kd s1 s2 g x)))) := hq
    refine pk_le N g (fun h => absurd h (by omega)) (fun _ => ?_)
    refine ev_bit hg10 ?_
    have next : ∀ y : LX, y = l1 kd s1 s2 g x → ∀ v1, v1 = nI g + 1 → wp_X1_settle_h2 firsts (nI N) kinds seconds sets Q (d + 1) v1 (sI (oF N y)) (sI (kF N y)) (sI (uF N y)) := by
      intro y hy v1 hv1
      rw [hv1, nI_1]
      subst hy
      exact ih (g + 1) _ (by omega) (l1_LG hx g) hq
    cases hK : x.1 g with
    | true =>
      refine bn_f (by rw [sI_andb hg10]; simp [kF, hg, hK]) ?_
      exact next x (l1_known hK).symm
    | false =>
      refine bn_t (by rw [sI_andb hg10]; simp [kF, hK]) ?_
      refine ev_sourcesOf hg10 ?_
      obtain ⟨hkd, hs1, hs2, _⟩ := hO.2 g hg
      obtain ⟨a1, a2, a3, a4⟩ := hA g hg
      have hk0 : kd g ≠ 0 := fun h => by have := hx.2.1 g hg (by rw [h]; rfl); rw [hK] at this; cases this
      have hk5 : kd g ≠ 5 := fun h => by have := hx.2.1 g hg (by rw [h]; rfl); rw [hK] at this; cases this
      rw [a4]
      by_cases hr : x.1 (s1 g) = true ∧ (two (kd g) = true → x.1 (s2 g) = true)
      · refine bn_t ((srcK hO hg hk0).mpr hr) ?_
        refine ev_firstOf hg10 ?_
        rw [a2, fI, if_neg hk0]
        have h1N := hs1 hk0
        refine ev_valueIn (by omega) ?_
        rw [vX hx h1N hr.1]
        refine ev_secondOf hg10 ?_
        rw [a3, eI]
        have fin : ∀ b : Nat, b = (if two (kd g) = true then x.2 (s2 g) else 0) → wp_X2_kindOf kinds (nI g) (fun r11 => wp_X1_outcome r11 (nI (x.2 (s1 g))) (nI b) (fun r12 => wp_X1_setValue (sI (oF N x)) (sI (uF N x)) (nI g) r12 (fun y14 y15 => wp_X9_bit (nI g) (fun r16 => ∀ v17, v17 = (sI (kF N x) ||| r16) → (∀ v1, v1 = nI g + 1 → wp_X1_settle_h2 firsts (nI N) kinds seconds sets Q (d + 1) v1 y14 v17 y15))))) := by
          intro b hb
          refine ev_kindOf hg10 ?_
          rw [a1]
          have hb2 : b ≤ 2 := by rw [hb]; split; exact hx.1 _; omega
          refine ev_outcome ⟨by omega, by omega⟩ (hx.1 _) hb2 (fun h => by rw [hb, h]; rfl) ?_
          refine ev_setValue hg10 (gval_le _ _ _) ?_
          refine ev_bit hg10 (all_e ?_)
          have e : l1 kd s1 s2 g x = (upB x.1 g true, upN x.2 g (gval (kd g) (x.2 (s1 g)) b)) := by
            rw [hb]; unfold l1; rw [if_pos ⟨hK, hr.1, hr.2⟩]
          have n := next _ rfl
          rw [e] at n
          rw [sI_or]
          have c1 : sI (fun i => kF N x i || i == g) = sI (kF N (upB x.1 g true, upN x.2 g (gval (kd g) (x.2 (s1 g)) b))) := by
            apply sI_cong
            intro i _
            unfold kF
            by_cases e : i = g
            · subst e; simp [upB_s, hg]
            · simp [upB_n e, e]
          have c2 : sI (fun i => oF N x i || (gval (kd g) (x.2 (s1 g)) b == 1 && i == g)) = sI (oF N (upB x.1 g true, upN x.2 g (gval (kd g) (x.2 (s1 g)) b))) := by
            apply sI_cong
            intro i _
            unfold oF
            by_cases e : i = g
            · subst e; simp [upB_s, upN_s, hg, hK]
            · simp [upB_n e, upN_n e, e]
          have c3 : sI (fun i => uF N x i || (gval (kd g) (x.2 (s1 g)) b == 2 && i == g)) = sI (uF N (upB x.1 g true, upN x.2 g (gval (kd g) (x.2 (s1 g)) b))) := by
            apply sI_cong
            intro i _
            unfold uF
            by_cases e : i = g
            · subst e; simp [upB_s, upN_s, hg, hK]
            · simp [upB_n e, upN_n e, e]
          rw [c1, c2, c3]
          exact n
        by_cases ht : two (kd g) = true
        · rw [if_pos ht]
          have h2N := hs2 ht
          refine ev_valueIn (by omega) ?_
          rw [vX hx h2N (hr.2 ht)]
          exact fin _ (by rw [if_pos ht])
        · rw [if_neg ht]
          exact ev_valueInN (fin 0 (by rw [if_neg ht]))
      · refine bn_f (fun h => hr ((srcK hO hg hk0).mp h)) ?_
        have e : l1 kd s1 s2 g x = x := by unfold l1; rw [if_neg (fun h => hr h.2)]
        exact next x e.symm
theorem ev_settle (hO : POK N kd s1 s2 ck) (hA : PA N kd s1 s2 kinds firsts seconds sets) {Q : Int32 → Int32 → Int32 → Prop} {x : LX} (hx : LG N kd x) (h : Q (sI (oF N (lsf kd s1 s2 0 N x))) (sI (kF N (lsf kd s1 s2 0 N x))) (sI (uF N (lsf kd s1 s2 0 N x)))) : wp_X1_settle (sI (oF N x)) (sI (kF N x)) (sI (uF N x)) firsts (nI N) kinds seconds sets Q :=
  ⟨N + 1, settle_loop hO hA N 0 x (by omega) hx h⟩
theorem ev_all {Q : Int32 → Prop} (hN : N ≤ 10) (h : Q (sI (fun i => decide (i < N)))) : wp_X2_all (nI N) Q := by
  unfold wp_X2_all
  rw [sI_all N (by omega)]; exact h
/-- the values of all gates: ones and unknowns as compute leaves them -/
def vO (N : Nat) (w : Nat → Nat) : Nat → Bool := fun i => decide (i < N) && w i == 1
def vU (N : Nat) (w : Nat → Nat) : Nat → Bool := fun i => decide (i < N) && w i == 2
theorem fin_u {x : LX} (hx : LG N kd x) : sI (uF N x) ||| (sI (fun i => decide (i < N)) &&& (sI (kF N x) ^^^ (-1))) = sI (vU N x.2) := by
  rw [sI_dif, sI_or]
  apply sI_cong
  intro i _
  unfold uF kF vU
  by_cases hi : i < N
  · cases hk : x.1 i with
    | true => simp [hi]
    | false => simp [hi, hx.2.2 i hk]
  · simp [hi]
theorem fin_o {x : LX} (hx : LG N kd x) : sI (oF N x) = sI (vO N x.2) := by
  apply sI_cong
  intro i _
  unfold oF vO
  by_cases hi : i < N
  · cases hk : x.1 i with
    | true => simp [hi]
    | false => simp [hi, hx.2.2 i hk]
  · simp [hi]
theorem compute_loop (hO : POK N kd s1 s2 ck) (hA : PA N kd s1 s2 kinds firsts seconds sets) {inp reg so su p3 : Int32} {Q : Int32 → Int32 → Int32 → Prop} :
    ∀ (d t : Nat) (x : LX), t + d = N → LG N kd x → (∀ z, Q (sI (vO N (lit kd s1 s2 N d x).2)) z (sI (vU N (lit kd s1 s2 N d x).2))) → wp_X1_compute_h46 firsts (nI N) inp kinds reg seconds sets so su p3 Q (d + 1) (nI t) (sI (oF N x)) (sI (kF N x)) (sI (uF N x)) := by
  have hN := hO.1
  intro d
  induction d with
  | zero =>
    intro t x htd hx hq
    show wp_X1_compute_b46 _ _ _ _ _ _ _ _ _ _ _ _ _ _ _ _
    unfold wp_X1_compute_b46 wp_X1_compute_b95
    refine pk_le N t (fun _ => ev_all hN (all_e ?_)) (fun h => absurd h (by omega))
    rw [fin_u hx, fin_o hx]; exact hq _
  | succ d ih =>
    intro t x htd hx hq
    show wp_X1_compute_b46 _ _ _ _ _ _ _ _ _ _ _ (wp_X1_compute_h46 firsts (nI N) inp kinds reg seconds sets so su p3 Q (d + 1)) _ _ _ _
    unfold wp_X1_compute_b46 wp_X1_compute_b95
    refine pk_le N t (fun h => absurd h (by omega)) (fun _ => ev_settle hO hA hx ?_)
    have hx' : LG N kd (lsf kd s1 s2 0 N x) := lsf_LG N 0 hx
    have done : lsf kd s1 s2 0 N (lsf kd s1 s2 0 N x) = lsf kd s1 s2 0 N x → wp_X2_all (nI N) (fun r1 => ∀ v2, v2 = (sI (uF N (lsf kd s1 s2 0 N x)) ||| (r1 &&& (sI (kF N (lsf kd s1 s2 0 N x)) ^^^ (-1 : Int32)))) → (Q (sI (oF N (lsf kd s1 s2 0 N x))) (sI (kF N (lsf kd s1 s2 0 N x))) v2)) := by
      intro e
      refine ev_all hN (all_e ?_)
      rw [fin_u hx', fin_o hx']
      have q := hq (sI (kF N (lsf kd s1 s2 0 N x)))
      have q2 : lit kd s1 s2 N (d + 1) x = lsf kd s1 s2 0 N x := lit_id d e
      rw [q2] at q
      exact q
    by_cases he : sI (kF N (lsf kd s1 s2 0 N x)) = sI (kF N x)
    · refine br_t he (done ?_)
      have e : lsf kd s1 s2 0 N x = x := by
        apply lsf_id
        intro i _ hi
        have := sI_inj.mp he i (by omega)
        simpa [kF, show i < N by omega] using this
      rw [e]; exact e
    · refine br_f he (ev_all hN ?_)
      by_cases ha : sI (kF N (lsf kd s1 s2 0 N x)) = sI (fun i => decide (i < N))
      · refine bn_t ha (done ?_)
        apply lsf_known
        intro i _ hi
        have := sI_inj.mp ha i (by omega)
        simpa [kF, show i < N by omega] using this
      · refine bn_f ha (fun v hv => ?_)
        rw [hv, nI_1]
        exact ih (t + 1) _ (by omega) hx' hq
/-- the stored values of a state as bits -/
def sO (N : Nat) (kd v : Nat → Nat) : Nat → Bool := fun i => decide (i < N) && (stb (kd i) && v i == 1)
def sU (N : Nat) (kd v : Nat → Nat) : Nat → Bool := fun i => decide (i < N) && (stb (kd i) && v i == 2)
def inF (N : Nat) (kd : Nat → Nat) : Nat → Bool := fun i => decide (i < N) && kd i == 0
def reF (N : Nat) (kd : Nat → Nat) : Nat → Bool := fun i => decide (i < N) && kd i == 5
def slF (N : Nat) (kd ck : Nat → Nat) : Nat → Bool := fun i => decide (i < N) && (kd i == 5 && ck i == 1)
/-- the values of all gates -/
def lv_ (N : Nat) (kd s1 s2 v : Nat → Nat) (stuck : Option Nat) : Nat → Nat := (lit kd s1 s2 N N (l0 kd v stuck)).2
def stI : Option Nat → Int32
  | none => -9
  | some g => nI g
theorem ev_compute (hO : POK N kd s1 s2 ck) (hA : PA N kd s1 s2 kinds firsts seconds sets) {lo lk lu : Int32} {v : Nat → Nat} (hv : ∀ i, v i ≤ 2) {stuck : Option Nat} (hs : ∀ g, stuck = some g → g < N) {Q : Int32 → Int32 → Int32 → Prop} (h : ∀ z, Q (sI (vO N (lv_ N kd s1 s2 v stuck))) z (sI (vU N (lv_ N kd s1 s2 v stuck)))) :
    wp_X1_compute lo lk lu firsts (nI N) (sI (inF N kd)) kinds (sI (reF N kd)) seconds sets (sI (sO N kd v)) (sI (sU N kd v)) (stI stuck) Q := by
  have hN := hO.1
  unfold wp_X1_compute wp_X2_storing
  have hb : ∀ Q : Int32 → Prop, Q (sI (fun i => decide (stuck = some i))) → wp_X9_bit (stI stuck) Q := by
    intro Q hq
    cases stuck with
    | none => exact ev_bitN (by simpa [sI_none] using hq)
    | some g =>
      refine ev_bit (by have := hs g rfl; omega) ?_
      have : (fun i => decide (some g = some i)) = (fun i : Nat => i == g) := by
        funext i
        by_cases e : i = g
        · subst e; simp
        · have : ¬ g = i := fun h => e h.symm
          simp [e, this]
      rw [this] at hq
      exact hq
  refine hb _ (all_e (hb _ (all_e (hb _ (all_e ?_)))))
  have hx := l0_LG (N := N) (kd := kd) (stuck := stuck) hv
  have c1 : (sI (inF N kd) ||| sI (reF N kd)) ||| sI (fun i => decide (stuck = some i)) = sI (kF N (l0 kd v stuck)) := by
    rw [sI_or, sI_or]
    apply sI_cong
    intro i _
    unfold kF inF reF l0 stb
    by_cases hi : i < N
    · simp [hi, Bool.or_comm, Bool.or_left_comm]
    · by_cases e : stuck = some i
      · exact absurd (hs i e) hi
      · simp [hi, e]
  have c2 : sI (sO N kd v) &&& (sI (fun i => decide (stuck = some i)) ^^^ (-1)) = sI (oF N (l0 kd v stuck)) := by
    rw [sI_dif]
    apply sI_cong
    intro i _
    unfold sO oF l0
    by_cases e : stuck = some i
    · simp [e]
    · by_cases hs : stb (kd i) = true
      · simp [e, hs]
      · simp [e, hs]
  have c3 : sI (sU N kd v) &&& (sI (fun i => decide (stuck = some i)) ^^^ (-1)) = sI (uF N (l0 kd v stuck)) := by
    rw [sI_dif]
    apply sI_cong
    intro i _
    unfold sU uF l0
    by_cases e : stuck = some i
    · simp [e]
    · by_cases hs : stb (kd i) = true
      · simp [e, hs]
      · simp [e, hs]
  rw [c1, c2, c3]
  exact ⟨N + 1, compute_loop hO hA N 0 _ (by omega) hx h⟩
end
