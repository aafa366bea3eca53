/-! ===== schedules: what both sides do ===== -/
def up2 {α : Type} (f : Nat → Nat → α) (c g : Nat) (v : α) : Nat → Nat → α := fun c' g' => if c' = c ∧ g' = g then v else f c' g'
theorem up2_s {α : Type} {f : Nat → Nat → α} {c g : Nat} {v : α} : up2 f c g v c g = v := if_pos ⟨rfl, rfl⟩
theorem up2_n {α : Type} {f : Nat → Nat → α} {c g c' g' : Nat} {v : α} (h : ¬ (c' = c ∧ g' = g)) : up2 f c g v c' g' = f c' g' := if_neg h
/-- where a gate is available, and since which slot -/
abbrev HX : Type := (Nat → Nat → Bool) × (Nat → Nat → Nat)
def r1 (kd s1 s2 l : Nat → Nat) (t g : Nat) (x : HX) : HX :=
  if stb (kd g) = false ∧ x.1 (l g) g = false ∧ x.1 (l g) (s1 g) = true ∧ (two (kd g) = true → x.1 (l g) (s2 g) = true) then (up2 x.1 (l g) g true, up2 x.2 (l g) g t) else x
def rsf (kd s1 s2 l : Nat → Nat) (t : Nat) : Nat → Nat → HX → HX
  | _, 0, x => x
  | g, d + 1, x => rsf kd s1 s2 l t (g + 1) d (r1 kd s1 s2 l t g x)
def rit (kd s1 s2 l : Nat → Nat) (N t : Nat) : Nat → HX → HX
  | 0, x => x
  | n + 1, x => rit kd s1 s2 l N t n (rsf kd s1 s2 l t 0 N x)
/-- one reader wants the value of g on chip c -/
def wn (kd s1 s2 l : Nat → Nat) (r c g : Nat) : Bool := tF kd s1 s2 r g && (if l g < c then decide (c ≤ l r) else (decide (c < l g) && decide (l r ≤ c)))
def waP (kd s1 s2 l : Nat → Nat) : Nat → Nat → Nat → Bool
  | 0, _, _ => false
  | n + 1, c, g => waP kd s1 s2 l n c g || wn kd s1 s2 l n c g
/-- the lowest p of a set -/
def low (f : Nat → Bool) (p : Nat) : Nat → Bool := fun g => f g && decide (cN f g < p)
def ofr (N : Nat) (kd s1 s2 l : Nat → Nat) (p : Nat) (av : Nat → Nat → Bool) (a b : Nat) : Nat → Bool := low (fun g => decide (g < N) && (av a g && (!av b g && waP kd s1 s2 l N b g))) p
/-- what comes, how many, which -/
abbrev CX : Type := (Nat → Nat → Bool) × Nat × (Nat → Bool)
def s1c (N : Nat) (kd s1 s2 l : Nat → Nat) (p : Nat) (av : Nat → Nat → Bool) (c : Nat) (y : CX) : CX :=
  let R := ofr N kd s1 s2 l p av c (c + 1)
  let L := ofr N kd s1 s2 l p av (c + 1) c
  (fun c' g => y.1 c' g || ((c' == c + 1 && R g) || (c' == c && L g)), y.2.1 + (cN R 10 + cN L 10), fun g => y.2.2 g || (R g || L g))
def scs (N : Nat) (kd s1 s2 l : Nat → Nat) (p : Nat) (av : Nat → Nat → Bool) : Nat → Nat → CX → CX
  | _, 0, y => y
  | c, d + 1, y => scs N kd s1 s2 l p av (c + 1) d (s1c N kd s1 s2 l p av c y)
def cx0 : CX := (fun _ _ => false, 0, fun _ => false)
def snds (N C : Nat) (kd s1 s2 l : Nat → Nat) (p : Nat) (av : Nat → Nat → Bool) : CX := scs N kd s1 s2 l p av 0 (C - 1) cx0
/-- slot t: all that comes is available from slot t + 1 -/
def take (t : Nat) (co : Nat → Nat → Bool) (x : HX) : HX := (fun c g => x.1 c g || co c g, fun c g => if co c g = true then t + 1 else x.2 c g)
def hx0 (kd l : Nat → Nat) : HX := (fun c g => stb (kd g) && c == l g, fun _ _ => 0)
section
variable {N C : Nat} {kd s1 s2 ck l : Nat → Nat} {t : Nat}
theorem r1_mono {x : HX} {g c i : Nat} (h : x.1 c i = true) : (r1 kd s1 s2 l t g x).1 c i = true := by
  unfold r1
  split
  · show up2 _ _ _ _ c i = true
    unfold up2; split
    · rfl
    · exact h
  · exact h
theorem rsf_mono : ∀ (d g : Nat) {x : HX} {c i : Nat}, x.1 c i = true → (rsf kd s1 s2 l t g d x).1 c i = true
  | 0, _, _, _, _, h => h
  | d + 1, g, _, _, _, h => rsf_mono d (g + 1) (r1_mono h)
theorem rit_mono : ∀ (n : Nat) {x : HX} {c i : Nat}, x.1 c i = true → (rit kd s1 s2 l N t n x).1 c i = true
  | 0, _, _, _, h => h
  | n + 1, _, _, _, h => rit_mono n (rsf_mono N 0 h)
theorem r1_id {x : HX} {g : Nat} (h : (r1 kd s1 s2 l t g x).1 (l g) g = x.1 (l g) g) : r1 kd s1 s2 l t g x = x := by
  unfold r1 at h ⊢
  split
  · rename_i hc
    rw [if_pos hc] at h
    have h : up2 x.1 (l g) g true (l g) g = x.1 (l g) g := h
    rw [up2_s, hc.2.1] at h
    cases h
  · rfl
theorem r1_skip {x : HX} {g : Nat} (h : stb (kd g) = true ∨ x.1 (l g) g = true) : r1 kd s1 s2 l t g x = x := by
  unfold r1
  rw [if_neg]
  rintro ⟨h1, h2, _⟩
  rcases h with h | h
  · rw [h] at h1; cases h1
  · rw [h] at h2; cases h2
theorem rsf_id : ∀ (d g : Nat) {x : HX}, (∀ i, g ≤ i → i < g + d → stb (kd i) = false → (rsf kd s1 s2 l t g d x).1 (l i) i = x.1 (l i) i) → rsf kd s1 s2 l t g d x = x
  | 0, _, _, _ => rfl
  | d + 1, g, x, h => by
    have e : r1 kd s1 s2 l t g x = x := by
      cases hs : stb (kd g) with
      | true => exact r1_skip (Or.inl hs)
      | false =>
        apply r1_id
        have h1 : (rsf kd s1 s2 l t (g + 1) d (r1 kd s1 s2 l t g x)).1 (l g) g = x.1 (l g) g := h g (Nat.le_refl g) (by omega) hs
        cases hx : x.1 (l g) g with
        | true => exact r1_mono hx
        | false =>
          cases hl : (r1 kd s1 s2 l t g x).1 (l g) g with
          | false => rfl
          | true => rw [rsf_mono d (g + 1) hl, hx] at h1; cases h1
    show rsf kd s1 s2 l t (g + 1) d (r1 kd s1 s2 l t g x) = x
    rw [e]
    apply rsf_id d (g + 1)
    intro i h1 h2 hs
    have this : (rsf kd s1 s2 l t (g + 1) d (r1 kd s1 s2 l t g x)).1 (l i) i = x.1 (l i) i := h i (by omega) (by omega) hs
    rw [e] at this
    exact this
theorem rit_id : ∀ (n : Nat) {x : HX}, rsf kd s1 s2 l t 0 N x = x → rit kd s1 s2 l N t n x = x
  | 0, _, _ => rfl
  | n + 1, x, h => by show rit kd s1 s2 l N t n (rsf kd s1 s2 l t 0 N x) = x; rw [h]; exact rit_id n h
theorem rsf_skip : ∀ (d g : Nat) {x : HX}, (∀ i, g ≤ i → i < g + d → stb (kd i) = true ∨ x.1 (l i) i = true) → rsf kd s1 s2 l t g d x = x
  | 0, _, _, _ => rfl
  | d + 1, g, x, h => by
    show rsf kd s1 s2 l t (g + 1) d (r1 kd s1 s2 l t g x) = x
    rw [r1_skip (h g (Nat.le_refl g) (by omega))]
    exact rsf_skip d (g + 1) (fun i h1 h2 => h i (by omega) (by omega))
end
/-! arrays of sets of the class -/
def AR (f : Nat → Nat → Bool) (A : Nat → Int32) : Prop := ∀ c, c < 4 → A c = sI (f c)
theorem AR.cong {f f' : Nat → Nat → Bool} {A : Nat → Int32} (h : AR f A) (e : ∀ c i, c < 4 → i < 10 → f c i = f' c i) : AR f' A := fun c hc => by rw [h c hc]; exact sI_cong (fun i hi => e c i hc hi)
theorem ev_add {f : Nat → Nat → Bool} {A : Nat → Int32} {c g : Nat} {Q : (Nat → Int32) → Prop} (hA : AR f A) (hc : c < 4) (hg : g < 10) (hQ : ∀ A', AR (up2 f c g true) A' → Q A') : wp_X4_add 4 A (nI c) (nI g) Q := by
  unfold wp_X4_add
  refine ev_cell hc (by omega) (ev_bit hg (ev_setCell hc (by omega) (hQ _ ?_)))
  intro c' hc'
  by_cases e : c' = c
  · subst e
    rw [upd_s, hA _ hc, sI_or]
    apply sI_cong
    intro i _
    unfold up2
    by_cases ei : i = g
    · simp [ei]
    · simp [ei]
  · rw [upd_n e, hA c' hc']
    apply sI_cong
    intro i _
    unfold up2
    rw [if_neg (fun h => e h.1)]
section
variable {N C : Nat} {kd s1 s2 ck l : Nat → Nat} {kinds firsts seconds sets : Nat → Int32}
theorem mark_loop {own last g : Nat} {p1 p2 : Int32} (ho : own < 4) (hl : last < 4) (hg : g < 10) {Q : (Nat → Int32) → Prop} :
    ∀ (d c : Nat) (f : Nat → Nat → Bool) (A : Nat → Int32), c + d = last + 1 → AR f A → (∀ A', AR (fun c' i => f c' i || (i == g && (decide (c ≤ c') && decide (c' ≤ last) && !(c' == own)))) A' → Q A') → wp_X4_markWanted_h30 p1 (nI g) p2 Q (d + 1) (nI own) (nI last) (nI c) A := by
  intro d
  induction d with
  | zero =>
    intro c f A hcd hA hQ
    show wp_X4_markWanted_b30 p1 (nI g) p2 Q _ _ _ _ _
    unfold wp_X4_markWanted_b30
    refine pk_lt last c (fun _ => hQ A (hA.cong ?_)) (fun h => absurd h (by omega))
    intro c' i _ _
    have : ¬ (c ≤ c' ∧ c' ≤ last) := by omega
    by_cases h1 : c ≤ c'
    · simp [h1, show ¬ c' ≤ last by omega]
    · simp [h1]
  | succ d ih =>
    intro c f A hcd hA hQ
    show wp_X4_markWanted_b30 p1 (nI g) p2 Q (wp_X4_markWanted_h30 p1 (nI g) p2 Q (d + 1)) _ _ _ _
    unfold wp_X4_markWanted_b30 wp_X4_markWanted_b54
    refine pk_lt last c (fun h => absurd h (by omega)) (fun _ => ?_)
    refine pk_eq c own (fun e => ?_) (fun e => ?_)
    · refine all_e ?_
      rw [nI_1]
      refine ih (c + 1) f A (by omega) hA (fun A' hA' => hQ A' (hA'.cong ?_))
      intro c' i _ _
      by_cases e2 : c' = c
      · subst e2; simp [e]
      · have : (c + 1 ≤ c') = (c ≤ c') := by simp; omega
        simp [this]
    · refine ev_add hA (by omega) hg (fun A' hA' => all_e ?_)
      rw [nI_1]
      refine ih (c + 1) _ A' (by omega) hA' (fun A2 hA2 => hQ A2 (hA2.cong ?_))
      intro c' i _ _
      unfold up2
      by_cases e2 : c' = c
      · subst e2
        by_cases ei : i = g
        · simp [ei, e]; omega
        · rw [show (i == g) = false by simpa using ei]; simp [ei]
      · have : (c + 1 ≤ c') = (c ≤ c') := by simp; omega
        simp [this, e2]
theorem ev_mark {f : Nat → Nat → Bool} {A : Nat → Int32} {g rc : Nat} {Q : (Nat → Int32) → Prop} (hl : ∀ i, l i < 4) (hA : AR f A) (hg : g < 10) (hr : rc < 4) (hQ : ∀ A', AR (fun c i => f c i || (i == g && (if l i < c then decide (c ≤ rc) else (decide (c < l i) && decide (rc ≤ c))))) A' → Q A') : wp_X4_markWanted A (pI l) (nI g) (nI rc) Q := by
  have hlg := hl g
  unfold wp_X4_markWanted
  refine bn_f (nI_ne9 (by omega)) (ev_chipIn hl hg ?_)
  have e1 : (if nI (l g) < nI rc then nI rc else nI (l g)) = nI (max (l g) rc) := by
    by_cases h : l g < rc
    · rw [if_pos (by rw [nI_ltI (by omega) (by omega)]; exact h), Nat.max_eq_right (by omega)]
    · rw [if_neg (by rw [nI_ltI (by omega) (by omega)]; exact h), Nat.max_eq_left (by omega)]
  have e2 : (if nI rc < nI (l g) then nI rc else nI (l g)) = nI (min (l g) rc) := by
    by_cases h : rc < l g
    · rw [if_pos (by rw [nI_ltI (by omega) (by omega)]; exact h), Nat.min_eq_right (by omega)]
    · rw [if_neg (by rw [nI_ltI (by omega) (by omega)]; exact h), Nat.min_eq_left (by omega)]
  rw [e1, e2]
  refine all_e (all_e ⟨max (l g) rc + 1 - min (l g) rc + 1, ?_⟩)
  refine mark_loop hlg (by omega) hg _ _ f A (by omega) hA (fun A' hA' => hQ A' (hA'.cong ?_))
  intro c i _ _
  by_cases ei : i = g
  · subst ei
    congr 1
    by_cases h1 : l i < c
    · by_cases h2 : c ≤ rc
      · have a1 : min (l i) rc ≤ c := by omega
        have a2 : c ≤ max (l i) rc := by omega
        have a3 : ¬ c = l i := by omega
        simp [h1, h2, a1, a2, a3]
      · have a2 : ¬ c ≤ max (l i) rc := by omega
        simp [h1, h2, a2]
    · by_cases h2 : c = l i
      · simp [h2]
      · by_cases h3 : rc ≤ c
        · have a1 : min (l i) rc ≤ c := by omega
          have a2 : c ≤ max (l i) rc := by omega
          have a4 : c < l i := by omega
          simp [h1, h2, h3, a1, a2, a4]
        · have a1 : ¬ min (l i) rc ≤ c := by omega
          simp [h1, h3, a1]
  · rw [show (i == g) = false by simpa using ei]; simp
/-- the start of a schedule -/
def avF (N : Nat) (av : Nat → Nat → Bool) : Nat → Nat → Bool := fun c i => decide (i < N) && av c i
def waF (N : Nat) (kd l : Nat → Nat) (av : Nat → Nat → Bool) : Nat → Bool := fun i => decide (i < N) && (!stb (kd i) && !av (l i) i)
theorem begin2 (hO : POK N kd s1 s2 ck) (hA : PA N kd s1 s2 kinds firsts seconds sets) (hl : ∀ i, l i < 4) {inp reg ls se ta : Int32} {Q : (Nat → Int32) → Int32 → Int32 → Int32 → Int32 → (Nat → Int32) → Prop} (hQ : ∀ A W, AR (avF N (hx0 kd l).1) A → AR (waP kd s1 s2 l N) W → Q A ls se ta (sI (waF N kd l (hx0 kd l).1)) W) :
    ∀ (d g : Nat) (A W : Nat → Int32), g + d = N → AR (avF g (hx0 kd l).1) A → AR (waP kd s1 s2 l g) W → wp_X4_begin_h59 firsts (nI N) inp reg seconds (pI l) Q (d + 1) (nI g) A ls se ta (sI (waF N kd l (hx0 kd l).1)) W := by
  have hN := hO.1
  intro d
  induction d with
  | zero =>
    intro g A W hgd h1 h2
    show wp_X4_begin_b59 firsts (nI N) inp reg seconds (pI l) Q _ _ _ _ _ _ _ _
    unfold wp_X4_begin_b59
    have e : g = N := by omega
    subst e
    exact pk_le g g (fun _ => hQ A W h1 h2) (fun h => absurd h (by omega))
  | succ d ih =>
    intro g A W hgd h1 h2
    show wp_X4_begin_b59 firsts (nI N) inp reg seconds (pI l) Q (wp_X4_begin_h59 firsts (nI N) inp reg seconds (pI l) Q (d + 1)) _ _ _ _ _ _ _
    unfold wp_X4_begin_b59
    have hg : g < N := by omega
    have hg10 : g < 10 := by omega
    obtain ⟨hk, hs1, hs2, _⟩ := hO.2 g hg
    obtain ⟨a1, a2, a3, a4⟩ := hA g hg
    have hlg := hl g
    refine pk_le N g (fun h => absurd h (by omega)) (fun _ => ev_chipIn hl hg10 (ev_bit hg10 ?_))
    have next : ∀ A', AR (avF (g + 1) (hx0 kd l).1) A' → wp_X4_begin_b96 firsts (nI N) inp reg seconds (pI l) Q (wp_X4_begin_h59 firsts (nI N) inp reg seconds (pI l) Q (d + 1)) (nI g) (nI (l g)) A' ls se ta (sI (waF N kd l (hx0 kd l).1)) W := by
      intro A' hA'
      unfold wp_X4_begin_b96
      refine ev_firstOf hg10 ?_
      rw [a2]
      have sec : ∀ W', AR (fun c i => waP kd s1 s2 l g c i || ((!(kd g == 0) && i == s1 g) && (if l i < c then decide (c ≤ l g) else (decide (c < l i) && decide (l g ≤ c))))) W' → wp_X2_secondOf seconds (nI g) (fun r4 => wp_X4_markWanted W' (pI l) r4 (nI (l g)) (fun y6 => ∀ v7, v7 = nI g + 1 → (wp_X4_begin_h59 firsts (nI N) inp reg seconds (pI l) Q (d + 1) v7 A' ls se ta (sI (waF N kd l (hx0 kd l).1)) y6))) := by
        intro W' hW'
        refine ev_secondOf hg10 ?_
        rw [a3, eI]
        by_cases ht : two (kd g) = true
        · rw [if_pos ht]
          refine ev_mark hl hW' (by have := hs2 ht; omega) hlg (fun W2 hW2 => all_e ?_)
          rw [nI_1]
          refine ih (g + 1) A' W2 (by omega) hA' (hW2.cong ?_)
          intro c i _ _
          show _ = (waP kd s1 s2 l g c i || wn kd s1 s2 l g c i)
          unfold wn tF
          rw [ht, Bool.true_and]
          cases (!(kd g == 0) && i == s1 g) <;> cases (i == s2 g) <;> simp
        · rw [if_neg ht]
          unfold wp_X4_markWanted
          refine bn_t rfl (all_e ?_)
          rw [nI_1]
          refine ih (g + 1) A' W' (by omega) hA' (hW'.cong ?_)
          intro c i _ _
          show _ = (waP kd s1 s2 l g c i || wn kd s1 s2 l g c i)
          unfold wn tF
          have ht' : two (kd g) = false := by simpa using ht
          rw [ht', Bool.false_and, Bool.or_false]
      rw [fI]
      by_cases h0 : kd g = 0
      · rw [if_pos h0]
        unfold wp_X4_markWanted
        refine bn_t rfl (sec W (h2.cong ?_))
        intro c i _ _
        simp [h0]
      · rw [if_neg h0]
        refine ev_mark hl h2 (by have := hs1 h0; omega) hlg (fun W2 hW2 => sec W2 (hW2.cong ?_))
        intro c i _ _
        have h0' : (kd g == 0) = false := by simpa using h0
        rw [h0']; simp
    cases hb : stb (kd g) with
    | false =>
      refine bn_f (by rw [sI_andb hg10]; simp [waF, hx0, hg, hb]) ?_
      refine next A (h1.cong ?_)
      intro c i _ _
      unfold avF hx0
      by_cases e : i = g
      · subst e; simp [hb]
      · have : (i < g + 1) = (i < g) := by simp; omega
        simp [this]
    | true =>
      refine bn_t (by rw [sI_andb hg10]; simp [waF, hb]) ?_
      refine ev_add h1 hlg hg10 (fun A' hA' => next A' (hA'.cong ?_))
      intro c i _ _
      unfold up2 avF hx0
      by_cases e : i = g
      · subst e
        by_cases ec : c = l i
        · simp [ec, hb]
        · simp [ec]
      · have : (i < g + 1) = (i < g) := by simp; omega
        simp [this, e]
theorem begin1 {inp reg ls se ta wt : Int32} {Q : (Nat → Int32) → Int32 → Int32 → Int32 → Int32 → (Nat → Int32) → Prop} (hQ : ∀ A W, (∀ c, c < 4 → A c = 0) → (∀ c, c < 4 → W c = 0) → ∃ n, wp_X4_begin_h59 firsts (nI N) inp reg seconds (pI l) Q n 0 A ls se ta wt W) :
    ∀ (d c : Nat) (A W : Nat → Int32), c + d = 4 → (∀ i, i < c → A i = 0) → (∀ i, i < c → W i = 0) → wp_X4_begin_h32 firsts (nI N) inp reg seconds (pI l) Q (d + 1) (nI c) A ls se ta wt W := by
  intro d
  induction d with
  | zero =>
    intro c A W hcd h1 h2
    show wp_X4_begin_b32 firsts (nI N) inp reg seconds (pI l) Q _ _ _ _ _ _ _ _
    unfold wp_X4_begin_b32
    exact pk_le 4 c (fun _ => hQ A W (fun i hi => h1 i (by omega)) (fun i hi => h2 i (by omega))) (fun h => absurd h (by omega))
  | succ d ih =>
    intro c A W hcd h1 h2
    show wp_X4_begin_b32 firsts (nI N) inp reg seconds (pI l) Q (wp_X4_begin_h32 firsts (nI N) inp reg seconds (pI l) Q (d + 1)) _ _ _ _ _ _ _
    unfold wp_X4_begin_b32
    have hc : vp_in (nI c) 4 := vp_in_nI (by omega) (by omega)
    refine pk_le 4 c (fun h => absurd h (by omega)) (fun _ => ⟨hc, all_e ⟨hc, all_e (all_e ?_)⟩⟩)
    rw [nI_1, nI_clamp (by omega)]
    refine ih (c + 1) _ _ (by omega) (fun i hi => ?_) (fun i hi => ?_)
    · by_cases e : i = c
      · rw [e, upd_s]
      · rw [upd_n e]; exact h1 i (by omega)
    · by_cases e : i = c
      · rw [e, upd_s]
      · rw [upd_n e]; exact h2 i (by omega)
theorem ev_begin (hO : POK N kd s1 s2 ck) (hA : PA N kd s1 s2 kinds firsts seconds sets) (hl : ∀ i, l i < 4) {A0 W0 : Nat → Int32} {ls se ta wt : Int32} {Q : (Nat → Int32) → Int32 → Int32 → Int32 → Int32 → (Nat → Int32) → Prop} (hQ : ∀ A W, AR (avF N (hx0 kd l).1) A → AR (waP kd s1 s2 l N) W → Q A 0 0 1 (sI (waF N kd l (hx0 kd l).1)) W) :
    wp_X4_begin A0 ls se ta wt W0 firsts (nI N) (sI (inF N kd)) (sI (reF N kd)) seconds (pI l) Q := by
  have hN := hO.1
  unfold wp_X4_begin wp_X2_storing
  refine ev_all hN (all_e ?_)
  have e : sI (fun i => decide (i < N)) &&& ((sI (inF N kd) ||| sI (reF N kd)) ^^^ (-1)) = sI (waF N kd l (hx0 kd l).1) := by
    rw [sI_or, sI_dif]
    apply sI_cong
    intro i _
    unfold inF reF waF hx0 stb
    by_cases hi : i < N
    · simp [hi]
    · simp [hi]
  rw [e]
  refine ⟨5, begin1 (fun A W h1 h2 => ⟨N + 1, ?_⟩) 4 0 A0 W0 (by omega) (fun i hi => absurd hi (by omega)) (fun i hi => absurd hi (by omega))⟩
  refine begin2 hO hA hl hQ N 0 A W (by omega) (fun c hc => ?_) (fun c hc => ?_)
  · rw [h1 c hc, ← sI_none]; apply sI_cong; intro i _; unfold avF; simp
  · rw [h2 c hc, ← sI_none]; apply sI_cong; intro i _; rfl
end
