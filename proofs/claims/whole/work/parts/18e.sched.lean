/-! ===== schedules: the reference ===== -/
def HR (N : Nat) (x : HX) (hand : Nat → Int32) : Prop := (∀ g, g < N → ∀ c, c < 4 → hand (4 * g + c) = if x.1 c g = true then nI (x.2 c g) else -9) ∧ ∀ c g, x.2 c g ≤ 200
def RLy (N : Nat) (l : Nat → Nat) (r : Nat → Int32) : Prop := ∀ g, g < N → r (10 + g) = nI (l g)
def GR (co : Nat → Nat → Bool) (goes : Nat → Int32) : Prop := ∀ g, g < 10 → ∀ c, c < 4 → goes (4 * g + c) = if co c g = true then 1 else 0
theorem ix40 (g c : Nat) : (4 : Int32) * nI g + nI c = nI (4 * g + c) := by rw [show (4 : Int32) * nI g = nI (4 * g) from pk_mul 4 g, nI_add]
theorem ix10 (g : Nat) : (10 : Int32) + nI g = nI (10 + g) := nI_add 10 g
section
variable {N C : Nat} {kd s1 s2 ck l : Nat → Nat} {kind source second r : Nat → Int32} {p : Nat}
theorem HR.cong {x y : HX} {hand : Nat → Int32} (h : HR N x hand) (e : x = y) : HR N y hand := e ▸ h
theorem ev_isAt {x : HX} {hand : Nat → Int32} {g c : Nat} {Q : Int32 → Prop} (hH : HR N x hand) (hN : N ≤ 10) (hg : g < N) (hc : c < 4) (hQ : Q (if x.1 c g = true then 1 else 0)) : wp_X10_isAt hand (nI g) (nI c) Q := by
  unfold wp_X10_isAt
  have hb := hH.2 c g
  rw [ix40, nI_clamp (by omega), hH.1 g hg c hc]
  refine ⟨vp_in_nI (by omega) (by omega), ?_⟩
  cases hx : x.1 c g with
  | true =>
    rw [hx] at hQ
    refine br_f ?_ hQ
    rw [if_pos rfl]; exact nI_ne9 (by omega)
  | false =>
    rw [hx] at hQ
    exact br_t rfl hQ
theorem wanted_loop (hO : POK N kd s1 s2 ck) (hB : PB N kd s1 s2 kind source second) (hl : ∀ i, l i < 4) (hR : RLy N l r) {g c : Nat} (hg : g < N) (hc : c < 4) {Q : Int32 → Prop} (hQ : Q (if waP kd s1 s2 l N c g = true then 1 else 0)) :
    ∀ (d i : Nat), i + d = N → wp_X10_isWanted_h14 (nI N) second source r (nI g) (nI c) Q (d + 1) (nI (l g)) (if waP kd s1 s2 l i c g = true then 1 else 0) (nI i) := by
  have hN := hO.1
  have hlg := hl g
  intro d
  induction d with
  | zero =>
    intro i hid
    show wp_X10_isWanted_b14 _ _ _ _ _ _ _ _ _ _ _
    unfold wp_X10_isWanted_b14
    have e : i = N := by omega
    subst e
    refine pk_le i i (fun _ => ⟨?_, hQ⟩) (fun h => absurd h (by omega))
    split
    · exact Or.inr rfl
    · exact Or.inl rfl
  | succ d ih =>
    intro i hid
    show wp_X10_isWanted_b14 _ _ _ _ _ _ _ (wp_X10_isWanted_h14 (nI N) second source r (nI g) (nI c) Q (d + 1)) _ _ _
    unfold wp_X10_isWanted_b14
    have hi : i < N := by omega
    have hli := hl i
    have hi10 : vp_in (nI i) 10 := vp_in_nI (by omega) (by omega)
    rw [ix10, nI_clamp (by omega), nI_clamp (by omega), hR i hi, (hB i hi).2.1, (hB i hi).2.2]
    have next : ∀ b : Int32, b = (if waP kd s1 s2 l (i + 1) c g = true then 1 else 0) → ∀ v1, v1 = nI i + 1 → wp_X10_isWanted_h14 (nI N) second source r (nI g) (nI c) Q (d + 1) (nI (l g)) b v1 := by
      intro b hb v1 hv1
      rw [hv1, nI_1, hb]
      exact ih (i + 1) (by omega)
    refine pk_le N i (fun h => absurd h (by omega)) (fun _ => ⟨vp_in_nI (by omega) (by omega), all_e ?_⟩)
    cases hw : waP kd s1 s2 l i c g with
    | true =>
      refine bn_f (by decide) (next 1 ?_)
      rw [if_pos]; rw [waP, hw]; rfl
    | false =>
      refine bn_t (by rfl) ⟨hi10, ?_⟩
      obtain ⟨hk, h1, h2, _⟩ := hO.2 i hi
      have a1 : fI kd s1 i = nI g ↔ kd i ≠ 0 ∧ g = s1 i := by
        unfold fI
        by_cases h0 : kd i = 0
        · rw [if_pos h0]; exact ⟨fun e => absurd e.symm (nI_ne9 (by omega)), fun e => absurd h0 e.1⟩
        · rw [if_neg h0, nI_eq (by have := h1 h0; omega) (by omega)]; exact ⟨fun e => ⟨h0, e.symm⟩, fun e => e.2.symm⟩
      have a2 : eI kd s2 i = nI g ↔ two (kd i) = true ∧ g = s2 i := by
        unfold eI
        by_cases h0 : two (kd i) = true
        · rw [if_pos h0, nI_eq (by have := h2 h0; omega) (by omega)]; exact ⟨fun e => ⟨h0, e.symm⟩, fun e => e.2.symm⟩
        · rw [if_neg h0]; exact ⟨fun e => absurd e.symm (nI_ne9 (by omega)), fun e => absurd e.1 h0⟩
      have yes : tF kd s1 s2 i g = true → wp_X10_isWanted_b59 (nI N) second source r (nI g) (nI c) Q (wp_X10_isWanted_h14 (nI N) second source r (nI g) (nI c) Q (d + 1)) (nI (l g)) (nI i) (nI (l i)) := by
        intro ht
        unfold wp_X10_isWanted_b59 wp_X10_isWanted_b90 wp_X10_isWanted_b86 wp_X10_isWanted_b91
        have w1 : ∀ b : Bool, (if l g < c then decide (c ≤ l i) else (decide (c < l g) && decide (l i ≤ c))) = b → waP kd s1 s2 l (i + 1) c g = b := by
          intro b hb
          rw [waP, hw, Bool.false_or, wn, ht, Bool.true_and]; exact hb
        refine pk_le c (l g) (fun h3 => ?_) (fun h3 => ?_)
        · refine pk_le (l g) c (fun h4 => next 0 ?_) (fun h4 => pk_lt c (l i) (fun h5 => next 0 ?_) (fun h5 => next 1 ?_))
          · rw [w1 false (by rw [if_neg (by omega)]; simp; omega)]; rfl
          · rw [w1 false (by rw [if_neg (by omega)]; simp; omega)]; rfl
          · rw [w1 true (by rw [if_neg (by omega)]; simp; omega)]; rfl
        · refine pk_lt (l i) c (fun h5 => next 0 ?_) (fun h5 => next 1 ?_)
          · rw [w1 false (by rw [if_pos (by omega)]; simp; omega)]; rfl
          · rw [w1 true (by rw [if_pos (by omega)]; simp; omega)]; rfl
      by_cases e1 : fI kd s1 i = nI g
      · refine br_t e1 (yes ?_)
        have := a1.mp e1
        unfold tF; simp [this.1, this.2]
      · refine br_f e1 ⟨hi10, ?_⟩
        by_cases e2 : eI kd s2 i = nI g
        · refine bn_t e2 (yes ?_)
          have := a2.mp e2
          unfold tF; simp [this.1, this.2]
        · refine bn_f e2 ?_
          unfold wp_X10_isWanted_b90 wp_X10_isWanted_b91
          refine next 0 ?_
          have ht : tF kd s1 s2 i g = false := by
            unfold tF
            have n1 := fun h => e1 (a1.mpr h)
            have n2 := fun h => e2 (a2.mpr h)
            by_cases x1 : kd i = 0
            · by_cases x2 : two (kd i) = true
              · have : ¬ g = s2 i := fun e => n2 ⟨x2, e⟩
                simp [x1, this]
              · have x2' : two (kd i) = false := by simpa using x2
                rw [x2', x1]; simp
            · have y1 : ¬ g = s1 i := fun e => n1 ⟨x1, e⟩
              by_cases x2 : two (kd i) = true
              · have : ¬ g = s2 i := fun e => n2 ⟨x2, e⟩
                simp [y1, this]
              · simp [y1, x2]
          rw [waP, hw, wn, ht]; rfl
theorem ev_isWanted (hO : POK N kd s1 s2 ck) (hB : PB N kd s1 s2 kind source second) (hl : ∀ i, l i < 4) (hR : RLy N l r) {g c : Nat} (hg : g < N) (hc : c < 4) {Q : Int32 → Prop} (hQ : Q (if waP kd s1 s2 l N c g = true then 1 else 0)) : wp_X10_isWanted (nI N) second source r (nI g) (nI c) Q := by
  have hN := hO.1
  unfold wp_X10_isWanted
  rw [ix10, nI_clamp (by omega), hR g hg]
  exact ⟨vp_in_nI (by omega) (by omega), all_e ⟨N + 1, wanted_loop hO hB hl hR hg hc hQ N 0 (by omega)⟩⟩
/-! ready gates -/
theorem ready_in (hO : POK N kd s1 s2 ck) (hB : PB N kd s1 s2 kind source second) (hl : ∀ i, l i < 4) (hR : RLy N l r) {t : Nat} (ht : t ≤ 150) {x3 : Int32} {Q : (Nat → Int32) → Prop} {k2 : Int32 → (Nat → Int32) → Prop} :
    ∀ (d g : Nat) (x : HX) (hand : Nat → Int32), g + d = N → HR N x hand → (∀ h', HR N (rsf kd s1 s2 l t g d x) h' → ∀ v5, v5 = x3 + 1 → k2 v5 h') → wp_X10_layReady_h13 (nI N) kind second source r (nI t) Q k2 (d + 1) x3 (nI g) hand := by
  have hN := hO.1
  intro d
  induction d with
  | zero =>
    intro g x hand hgd hH hQ
    show wp_X10_layReady_b13 _ _ _ _ _ _ _ _ _ _ _ _
    unfold wp_X10_layReady_b13
    exact pk_le N g (fun _ => hQ hand hH) (fun h => absurd h (by omega))
  | succ d ih =>
    intro g x hand hgd hH hQ
    show wp_X10_layReady_b13 _ _ _ _ _ _ _ _ (wp_X10_layReady_h13 (nI N) kind second source r (nI t) Q k2 (d + 1)) _ _ _
    unfold wp_X10_layReady_b13
    have hg : g < N := by omega
    have hlg := hl g
    have hb := hH.2
    have ig : vp_in (nI g) 10 := vp_in_nI (by omega) (by omega)
    obtain ⟨hk, h1, h2, _⟩ := hO.2 g hg
    rw [ix10, nI_clamp (by omega), nI_clamp (by omega), hR g hg, (hB g hg).2.1, (hB g hg).2.2]
    have next : ∀ h', HR N (r1 kd s1 s2 l t g x) h' → ∀ v2, v2 = nI g + 1 → wp_X10_layReady_h13 (nI N) kind second source r (nI t) Q k2 (d + 1) x3 v2 h' := by
      intro h' hH' v2 hv2
      rw [hv2, nI_1]
      exact ih (g + 1) _ h' (by omega) hH' hQ
    have no : r1 kd s1 s2 l t g x = x → wp_X10_layReady_b99 (nI N) kind second source r (nI t) Q k2 (wp_X10_layReady_h13 (nI N) kind second source r (nI t) Q k2 (d + 1)) x3 (nI g) (nI (l g)) hand := by
      intro e
      unfold wp_X10_layReady_b99 wp_X10_layReady_b100 wp_X10_layReady_b134
      rw [ix40, nI_clamp (by omega)]
      refine br_t rfl ⟨vp_in_nI (by omega) (by omega), vp_in_nI (by omega) (by omega), all_e (next _ ?_)⟩
      rw [e]
      refine ⟨fun i hi c hc => ?_, hb⟩
      by_cases e2 : 4 * i + c = 4 * g + l g
      · rw [e2, upd_s, ← e2]; exact hH.1 i hi c hc
      · rw [upd_n e2]; exact hH.1 i hi c hc
    have yes : r1 kd s1 s2 l t g x = (up2 x.1 (l g) g true, up2 x.2 (l g) g t) → wp_X10_layReady_b95 (nI N) kind second source r (nI t) Q k2 (wp_X10_layReady_h13 (nI N) kind second source r (nI t) Q k2 (d + 1)) x3 (nI g) (nI (l g)) hand := by
      intro e
      unfold wp_X10_layReady_b95 wp_X10_layReady_b100 wp_X10_layReady_b134
      rw [ix40, nI_clamp (by omega)]
      refine br_f (by decide) ⟨vp_in_nI (by omega) (by omega), all_e (next _ ?_)⟩
      rw [e]
      refine ⟨fun i hi c hc => ?_, fun c i => ?_⟩
      · show upd _ _ _ _ = if up2 x.1 (l g) g true c i = true then nI (up2 x.2 (l g) g t c i) else -9
        by_cases e2 : c = l g ∧ i = g
        · obtain ⟨rfl, rfl⟩ := e2
          rw [upd_s, up2_s, up2_s, if_pos rfl]
        · rw [up2_n e2, up2_n e2, upd_n (by omega)]; exact hH.1 i hi c hc
      · show up2 _ _ _ _ c i ≤ 200
        unfold up2; split
        · omega
        · exact hb c i
    refine pk_le N g (fun h => absurd h (by omega)) (fun _ => ⟨vp_in_nI (by omega) (by omega), all_e (ev_stands (by omega) (hB g hg).1 hk ?_)⟩)
    cases hs : stb (kd g) with
    | true => exact bn_f (by decide) (no (r1_skip (Or.inl hs)))
    | false =>
      refine bn_t rfl (ev_isAt hH hN hg hlg ?_)
      have hk0 : kd g ≠ 0 := fun h => by rw [h] at hs; cases hs
      cases ha : x.1 (l g) g with
      | true => exact bn_f (by decide) (no (r1_skip (Or.inr ha)))
      | false =>
        refine bn_t rfl ⟨ig, ?_⟩
        rw [fI, if_neg hk0]
        refine ev_isAt hH hN (h1 hk0) hlg ?_
        have nr : ¬ (x.1 (l g) (s1 g) = true ∧ (two (kd g) = true → x.1 (l g) (s2 g) = true)) → r1 kd s1 s2 l t g x = x := by
          intro h; unfold r1; rw [if_neg (fun z => h z.2.2)]
        cases hb1 : x.1 (l g) (s1 g) with
        | false => exact br_t rfl (no (nr (by rw [hb1]; simp)))
        | true =>
          refine br_f (by decide) ⟨ig, ?_⟩
          have yr : (two (kd g) = true → x.1 (l g) (s2 g) = true) → r1 kd s1 s2 l t g x = (up2 x.1 (l g) g true, up2 x.2 (l g) g t) := by
            intro h; unfold r1; rw [if_pos ⟨hs, ha, hb1, h⟩]
          rw [eI]
          by_cases ht2 : two (kd g) = true
          · rw [if_pos ht2]
            refine br_f (nI_ne9 (by have := h2 ht2; omega)) ⟨ig, ev_isAt hH hN (h2 ht2) hlg ?_⟩
            cases hb2 : x.1 (l g) (s2 g) with
            | false => exact br_t rfl (no (nr (by rw [hb2, ht2]; simp)))
            | true => exact br_f (by decide) (yes (yr (fun _ => hb2)))
          · rw [if_neg ht2]
            exact br_t rfl (yes (yr (fun h => absurd h ht2)))
theorem ready_out (hO : POK N kd s1 s2 ck) (hB : PB N kd s1 s2 kind source second) (hl : ∀ i, l i < 4) (hR : RLy N l r) {t : Nat} (ht : t ≤ 150) {Q : (Nat → Int32) → Prop} :
    ∀ (d n : Nat) (x : HX) (hand : Nat → Int32), n + d = N → HR N x hand → (∀ h', HR N (rit kd s1 s2 l N t d x) h' → Q h') → wp_X10_layReady_h2 (nI N) kind second source r (nI t) Q (d + 1) (nI n) hand := by
  have hN := hO.1
  intro d
  induction d with
  | zero =>
    intro n x hand hnd hH hQ
    show wp_X10_layReady_b2 _ _ _ _ _ _ _ _ _ _
    unfold wp_X10_layReady_b2
    exact pk_le N n (fun _ => hQ hand hH) (fun h => absurd h (by omega))
  | succ d ih =>
    intro n x hand hnd hH hQ
    show wp_X10_layReady_b2 _ _ _ _ _ _ _ (wp_X10_layReady_h2 (nI N) kind second source r (nI t) Q (d + 1)) _ _
    unfold wp_X10_layReady_b2
    refine pk_le N n (fun h => absurd h (by omega)) (fun _ => ⟨N + 1, ready_in hO hB hl hR ht N 0 x hand (by omega) hH (fun h' hH' v5 h5 => ?_)⟩)
    rw [h5, nI_1]
    exact ih (n + 1) _ h' (by omega) hH' hQ
theorem ev_layReady (hO : POK N kd s1 s2 ck) (hB : PB N kd s1 s2 kind source second) (hl : ∀ i, l i < 4) (hR : RLy N l r) {t : Nat} (ht : t ≤ 150) {x : HX} {hand : Nat → Int32} {Q : (Nat → Int32) → Prop} (hH : HR N x hand) (hQ : ∀ h', HR N (stl kd s1 s2 l N t x) h' → Q h') : wp_X10_layReady (nI N) hand kind second source r (nI t) Q :=
  ⟨N + 1, ready_out hO hB hl hR ht N 0 x hand (by omega) hH hQ⟩
/-! what goes from one chip to the next -/
theorem low_c (f : Nat → Bool) (p : Nat) : ∀ g, cN (low f p) g = min (cN f g) p
  | 0 => by simp [cN]
  | g + 1 => by
    have ih := low_c f p g
    rw [cN, cN, ih]
    unfold low
    cases hf : f g with
    | false => simp
    | true =>
      by_cases h : cN f g < p
      · simp [h]; omega
      · simp [h]; omega
theorem going_loop (hO : POK N kd s1 s2 ck) (hB : PB N kd s1 s2 kind source second) (hl : ∀ i, l i < 4) (hR : RLy N l r) {x : HX} {hand : Nat → Int32} (hH : HR N x hand) {a b : Nat} (ha : a < 4) (hb : b < 4) (hp : p < 100) {co : Nat → Nat → Bool} {al : Nat → Bool} {Q : Int32 → (Nat → Int32) → Int32 → Prop}
    (hQ : ∀ goes, GR (fun c g => co c g || (c == b && ofr N kd s1 s2 l p x.1 a b g)) goes → Q (nI (cN (ofr N kd s1 s2 l p x.1 a b) 10)) goes (mx (fun g => al g || ofr N kd s1 s2 l p x.1 a b g) 10)) :
    ∀ (d g : Nat) (goes : Nat → Int32), g + d = N → GR (fun c i => co c i || (c == b && pre (ofr N kd s1 s2 l p x.1 a b) g i)) goes → wp_X10_layGoing_h6 (nI N) hand second source r (nI p) (nI a) (nI b) Q (d + 1) (nI (cN (ofr N kd s1 s2 l p x.1 a b) g)) (nI g) goes (mx (fun i => al i || pre (ofr N kd s1 s2 l p x.1 a b) g i) 10) := by
  have hN := hO.1
  have hz : ∀ i, N ≤ i → ofr N kd s1 s2 l p x.1 a b i = false := by
    intro i hi
    cases hh : ofr N kd s1 s2 l p x.1 a b i with
    | false => rfl
    | true => have := (ofr_t hh).1; omega
  have preN : ∀ i, pre (ofr N kd s1 s2 l p x.1 a b) N i = ofr N kd s1 s2 l p x.1 a b i := by
    intro i
    unfold pre
    by_cases h : i < N
    · simp [h]
    · simp [h, hz i (by omega)]
  have cNN : cN (ofr N kd s1 s2 l p x.1 a b) N = cN (ofr N kd s1 s2 l p x.1 a b) 10 := by
    have : ∀ e, cN (ofr N kd s1 s2 l p x.1 a b) (N + e) = cN (ofr N kd s1 s2 l p x.1 a b) N := by
      intro e
      induction e with
      | zero => rfl
      | succ e ih => rw [← Nat.add_assoc, cN, ih, hz _ (by omega)]; rfl
    rw [← this (10 - N)]; congr 1; omega
  intro d
  induction d with
  | zero =>
    intro g goes hgd hG
    show wp_X10_layGoing_b6 (nI N) hand second source r (nI p) (nI a) (nI b) Q _ _ _ _ _
    unfold wp_X10_layGoing_b6
    have e : g = N := by omega
    subst e
    refine pk_le g g (fun _ => ?_) (fun h => absurd h (by omega))
    have q := hQ goes (by intro i hi c hc; rw [hG i hi c hc]; simp only [preN])
    rw [cNN]
    simp only [preN]
    exact q
  | succ d ih =>
    intro g goes hgd hG
    show wp_X10_layGoing_b6 (nI N) hand second source r (nI p) (nI a) (nI b) Q (wp_X10_layGoing_h6 (nI N) hand second source r (nI p) (nI a) (nI b) Q (d + 1)) _ _ _ _
    unfold wp_X10_layGoing_b6
    have hg : g < N := by omega
    refine pk_le N g (fun h => absurd h (by omega)) (fun _ => ?_)
    have hcl := cN_le (ofr N kd s1 s2 l p x.1 a b) g
    have go : ∀ bb : Bool, ofr N kd s1 s2 l p x.1 a b g = bb → wp_X10_layGoing_b59 (nI N) hand second source r (nI p) (nI a) (nI b) Q (wp_X10_layGoing_h6 (nI N) hand second source r (nI p) (nI a) (nI b) Q (d + 1)) (nI (cN (ofr N kd s1 s2 l p x.1 a b) g)) (nI g) (if bb = true then 1 else 0) goes (mx (fun i => al i || pre (ofr N kd s1 s2 l p x.1 a b) g i) 10) := by
      intro bb hbb
      unfold wp_X10_layGoing_b59 wp_X10_layGoing_b92
      have hGg : goes (4 * g + b) = if co b g = true then 1 else 0 := by
        rw [hG g (by omega) b hb]
        simp [pre]
      rw [ix40, nI_clamp (by omega), hGg]
      have i40 : vp_in (nI (4 * g + b)) 40 := vp_in_nI (by omega) (by omega)
      have hpg : pre (ofr N kd s1 s2 l p x.1 a b) g g = false := by unfold pre; simp
      have psucc : ∀ i, i ≠ g → pre (ofr N kd s1 s2 l p x.1 a b) (g + 1) i = pre (ofr N kd s1 s2 l p x.1 a b) g i := by
        intro i hi
        unfold pre
        have : (i < g + 1) = (i < g) := by simp; omega
        simp [this]
      have pg1 : pre (ofr N kd s1 s2 l p x.1 a b) (g + 1) g = bb := by unfold pre; simp [hbb]
      have mxs : bb = false → mx (fun i => al i || pre (ofr N kd s1 s2 l p x.1 a b) (g + 1) i) 10 = mx (fun i => al i || pre (ofr N kd s1 s2 l p x.1 a b) g i) 10 := by
        intro h
        apply mx_cong
        intro i _
        by_cases e : i = g
        · subst e; rw [pg1, h, hpg]
        · rw [psucc i e]
      have mxt : bb = true → mx (fun i => al i || pre (ofr N kd s1 s2 l p x.1 a b) (g + 1) i) 10 = if mx (fun i => al i || pre (ofr N kd s1 s2 l p x.1 a b) g i) 10 < nI g then nI g else mx (fun i => al i || pre (ofr N kd s1 s2 l p x.1 a b) g i) 10 := by
        intro h
        refine mx_add (by omega) (fun i _ => ?_)
        by_cases e : i = g
        · subst e; rw [pg1, h]; simp
        · rw [psucc i e, show (i == g) = false by simpa using e, Bool.or_false]
      have gs : ∀ w : Int32, w = (if (co b g || bb) = true then 1 else 0) → GR (fun c i => co c i || (c == b && pre (ofr N kd s1 s2 l p x.1 a b) (g + 1) i)) (upd goes (4 * g + b) w) := by
        intro w hw i hi c hc
        show _ = if (co c i || (c == b && pre (ofr N kd s1 s2 l p x.1 a b) (g + 1) i)) = true then 1 else 0
        by_cases e : 4 * i + c = 4 * g + b
        · have e1 : i = g := by omega
          have e2 : c = b := by omega
          subst e1; subst e2
          rw [upd_s, pg1, hw]; simp
        · rw [upd_n e, hG i hi c hc]
          show (if (co c i || (c == b && pre (ofr N kd s1 s2 l p x.1 a b) g i)) = true then 1 else 0) = _
          by_cases e1 : i = g
          · have e2 : (c == b) = false := by simp; omega
            rw [e2]; simp
          · rw [psucc i e1]
      have csf : bb = false → nI (cN (ofr N kd s1 s2 l p x.1 a b) g) + 0 = nI (cN (ofr N kd s1 s2 l p x.1 a b) (g + 1)) := by
        intro h
        rw [cN, hbb, h, ← nI_add]; rfl
      have cst : bb = true → nI (cN (ofr N kd s1 s2 l p x.1 a b) g) + 1 = nI (cN (ofr N kd s1 s2 l p x.1 a b) (g + 1)) := by
        intro h
        rw [cN, hbb, h, ← nI_add]; rfl
      refine ⟨i40, ?_⟩
      have fin : ∀ w : Int32, w = (if (co b g || bb) = true then 1 else 0) → wp_X10_layGoing_b97 (nI N) hand second source r (nI p) (nI a) (nI b) Q (wp_X10_layGoing_h6 (nI N) hand second source r (nI p) (nI a) (nI b) Q (d + 1)) (nI (cN (ofr N kd s1 s2 l p x.1 a b) g)) (nI g) (if bb = true then 1 else 0) (nI (4 * g + b)) w goes (mx (fun i => al i || pre (ofr N kd s1 s2 l p x.1 a b) g i) 10) := by
        unfold wp_X10_layGoing_b97 wp_X10_layGoing_b110 wp_X10_layGoing_b133 wp_X10_layGoing_b137
        rw [nI_clamp (by omega)]
        intro w hw
        refine ⟨by rw [hw]; split; exact Or.inr rfl; exact Or.inl rfl, i40, all_e ?_⟩
        have step := ih (g + 1) (upd goes (4 * g + b) w) (by omega) (gs w hw)
        cases bb with
        | false =>
          rw [if_neg (by decide)]
          refine br_t rfl (all_e (br_t rfl (all_e ?_)))
          rw [nI_1, csf rfl]
          rw [mxs rfl] at step
          exact step
        | true =>
          rw [if_pos rfl]
          refine br_f (by decide) (all_e (br_f (by decide) ?_))
          rw [mxt rfl] at step
          rw [cst rfl]
          by_cases hle : nI g ≤ mx (fun i => al i || pre (ofr N kd s1 s2 l p x.1 a b) g i) 10
          · refine br_t hle (all_e ?_)
            rw [nI_1]
            rw [if_neg (by rw [Int32.lt_iff_toInt_lt]; rw [Int32.le_iff_toInt_le] at hle; omega)] at step
            exact step
          · refine br_f hle (all_e ?_)
            rw [nI_1]
            rw [if_pos (by rw [Int32.lt_iff_toInt_lt]; rw [Int32.le_iff_toInt_le] at hle; omega)] at step
            exact step
      cases hcb : co b g with
      | true => exact bn_f (by decide) (fin 1 (by rw [hcb]; rfl))
      | false =>
        refine bn_t rfl ?_
        cases bb with
        | false => exact br_t rfl (fin 0 (by rw [hcb]; rfl))
        | true => exact br_f (by decide) (fin 1 (by rw [hcb]; rfl))
    have hlow : ofr N kd s1 s2 l p x.1 a b g = (decide (g < N) && (x.1 a g && (!x.1 b g && waP kd s1 s2 l N b g)) && decide (cN (ofr N kd s1 s2 l p x.1 a b) g < p)) := by
      unfold ofr
      rw [low_c]
      unfold low
      congr 1
      simp; omega
    refine pk_le p (cN (ofr N kd s1 s2 l p x.1 a b) g) (fun h => ?_) (fun h => ?_)
    · refine go false ?_
      rw [hlow]; simp; omega
    · refine ev_isAt hH hN hg ha ?_
      cases h1 : x.1 a g with
      | false => exact br_t rfl (go false (by rw [hlow, h1]; simp))
      | true =>
        refine br_f (by decide) (ev_isAt hH hN hg hb ?_)
        cases h2 : x.1 b g with
        | true => exact bn_f (by decide) (go false (by rw [hlow, h2]; simp))
        | false =>
          refine bn_t rfl (ev_isWanted hO hB hl hR hg hb ?_)
          cases h3 : waP kd s1 s2 l N b g with
          | false => exact br_t rfl (go false (by rw [hlow, h3]; simp))
          | true => exact br_f (by decide) (go true (by rw [hlow, h1, h2, h3]; simp [hg, h]))
end
