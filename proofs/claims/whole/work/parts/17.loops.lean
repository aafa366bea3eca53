/-! ===== copies ===== -/
theorem trial_loop {page : Nat → Int32} {Q : (Nat → Int32) → Prop} (hQ : ∀ t', (∀ i, i < 22 → t' i = page i) → Q t') :
    ∀ (d i : Nat) (b : Nat → Int32), i + d = 22 → (∀ j, j < i → b j = page j) → wp_X10_layTrial_h2 page Q (d + 1) (nI i) b := by
  intro d
  induction d with
  | zero =>
    intro i b hid h1
    show wp_X10_layTrial_b2 _ _ _ _ _
    unfold wp_X10_layTrial_b2
    exact pk_le 22 i (fun _ => hQ b (fun j hj => h1 j (by omega))) (fun h => absurd h (by omega))
  | succ d ih =>
    intro i b hid h1
    show wp_X10_layTrial_b2 _ _ (wp_X10_layTrial_h2 page Q (d + 1)) _ _
    unfold wp_X10_layTrial_b2
    have hi : vp_in (nI i) 22 := vp_in_nI (by omega) (by omega)
    refine pk_le 22 i (fun h => absurd h (by omega)) (fun _ => ⟨hi, all_e ⟨hi, all_e (all_e ?_)⟩⟩)
    rw [nI_1, nI_clamp (by omega)]
    refine ih (i + 1) _ (by omega) (fun j hj => ?_)
    by_cases ej : j = i
    · rw [ej, upd_s]
    · rw [upd_n ej]; exact h1 j (by omega)
theorem ev_layTrial {page trial : Nat → Int32} {Q : (Nat → Int32) → Prop} (hQ : ∀ t', (∀ i, i < 22 → t' i = page i) → Q t') : wp_X10_layTrial page trial Q :=
  ⟨23, trial_loop hQ 22 0 trial (by omega) (fun j hj => absurd hj (by omega))⟩
theorem undo_loop {book : Nat → Int32} {h : Nat} (hh : h ≤ 13) {th : Int32} {Q : Int32 → Int32 → (Nat → Int32) → Int32 → Prop} (hQ : ∀ t', (∀ i, i < 22 → t' i = book (22 * h + i)) → Q (nI h) (nI h) t' th) :
    ∀ (d i : Nat) (b : Nat → Int32), i + d = 22 → (∀ j, j < i → b j = book (22 * h + j)) → wp_X10_undo_h27 book Q (d + 1) (nI i) (nI h) b th := by
  intro d
  induction d with
  | zero =>
    intro i b hid h1
    show wp_X10_undo_b27 _ _ _ _ _ _ _
    unfold wp_X10_undo_b27
    exact pk_le 22 i (fun _ => hQ b (fun j hj => h1 j (by omega))) (fun h => absurd h (by omega))
  | succ d ih =>
    intro i b hid h1
    show wp_X10_undo_b27 _ _ (wp_X10_undo_h27 book Q (d + 1)) _ _ _ _
    unfold wp_X10_undo_b27
    have hi : vp_in (nI i) 22 := vp_in_nI (by omega) (by omega)
    have e : ((22 : Int32) * nI h) + nI i = nI (22 * h + i) := by rw [show (22 : Int32) * nI h = nI (22 * h) from pk_mul 22 h, nI_add]
    rw [e, nI_clamp (by omega)]
    refine pk_le 22 i (fun h => absurd h (by omega)) (fun _ => ⟨vp_in_nI (by omega) (by omega), all_e ⟨hi, all_e (all_e ?_)⟩⟩)
    rw [nI_1, nI_clamp (by omega)]
    refine ih (i + 1) _ (by omega) (fun j hj => ?_)
    by_cases ej : j = i
    · rw [ej, upd_s]
    · rw [upd_n ej]; exact h1 j (by omega)
theorem keep_loop {page : Nat → Int32} {s : Nat} (hs : s < 2) {th : Int32} {isK k0 : Nat → Int32} {Q : Int32 → (Nat → Int32) → (Nat → Int32) → Int32 → Prop} (hQ : ∀ k', (∀ i, i < 22 → k' (22 * s + i) = page i) → (∀ j, j < 22 * s ∨ 22 * s + 22 ≤ j → k' j = k0 j) → Q (page 21) isK k' th) :
    ∀ (d i : Nat) (b : Nat → Int32), i + d = 22 → (∀ j, j < i → b (22 * s + j) = page j) → (∀ j, j < 22 * s ∨ 22 * s + 22 ≤ j → b j = k0 j) → wp_X10_keep_h26 page (nI s) Q (d + 1) (nI i) isK b th := by
  intro d
  induction d with
  | zero =>
    intro i b hid h1 h2
    show wp_X10_keep_b26 _ _ _ _ _ _ _ _
    unfold wp_X10_keep_b26
    refine pk_le 22 i (fun _ => ⟨vp_in_nI (n := 21) (by omega) (by omega), ?_⟩) (fun h => absurd h (by omega))
    rw [show (21 : Int32).toNatClampNeg = 21 from by decide]
    exact hQ b (fun j hj => h1 j (by omega)) h2
  | succ d ih =>
    intro i b hid h1 h2
    show wp_X10_keep_b26 _ _ _ (wp_X10_keep_h26 page (nI s) Q (d + 1)) _ _ _ _
    unfold wp_X10_keep_b26
    have hi : vp_in (nI i) 22 := vp_in_nI (by omega) (by omega)
    have e : ((22 : Int32) * nI s) + nI i = nI (22 * s + i) := by rw [show (22 : Int32) * nI s = nI (22 * s) from pk_mul 22 s, nI_add]
    rw [e, nI_clamp (by omega), nI_clamp (by omega)]
    refine pk_le 22 i (fun h => absurd h (by omega)) (fun _ => ⟨hi, all_e ⟨vp_in_nI (by omega) (by omega), all_e (all_e ?_)⟩⟩)
    rw [nI_1]
    refine ih (i + 1) _ (by omega) (fun j hj => ?_) (fun j hj => by rw [upd_n (by omega)]; exact h2 j hj)
    by_cases ej : j = i
    · rw [ej, upd_s]
    · rw [upd_n (by omega)]; exact h1 j (by omega)
theorem again_loop {kept isK : Nat → Int32} {s : Nat} (hs : s < 2) {th dn : Int32} {Q : Int32 → Int32 → (Nat → Int32) → Int32 → Prop} (hQ : ∀ t', (∀ i, i < 22 → t' i = kept (22 * s + i)) → Q (t' 21) 0 t' th) :
    ∀ (d i : Nat) (b : Nat → Int32), i + d = 22 → (∀ j, j < i → b j = kept (22 * s + j)) → wp_X10_again_h31 isK kept (nI s) Q (d + 1) (nI i) dn b th := by
  intro d
  induction d with
  | zero =>
    intro i b hid h1
    show wp_X10_again_b31 isK kept (nI s) Q _ _ _ _ _
    unfold wp_X10_again_b31
    refine pk_le 22 i (fun _ => ⟨vp_in_nI (n := 21) (by omega) (by omega), ?_⟩) (fun h => absurd h (by omega))
    rw [show (21 : Int32).toNatClampNeg = 21 from by decide]
    exact hQ b (fun j hj => h1 j (by omega))
  | succ d ih =>
    intro i b hid h1
    show wp_X10_again_b31 isK kept (nI s) Q (wp_X10_again_h31 isK kept (nI s) Q (d + 1)) _ _ _ _
    unfold wp_X10_again_b31
    have hi : vp_in (nI i) 22 := vp_in_nI (by omega) (by omega)
    have e : ((22 : Int32) * nI s) + nI i = nI (22 * s + i) := by rw [show (22 : Int32) * nI s = nI (22 * s) from pk_mul 22 s, nI_add]
    rw [e, nI_clamp (by omega)]
    refine pk_le 22 i (fun h => absurd h (by omega)) (fun _ => ⟨vp_in_nI (by omega) (by omega), all_e ⟨hi, all_e (all_e ?_)⟩⟩)
    rw [nI_1, nI_clamp (by omega)]
    refine ih (i + 1) _ (by omega) (fun j hj => ?_)
    by_cases ej : j = i
    · rw [ej, upd_s]
    · rw [upd_n ej]; exact h1 j (by omega)
/-! ===== sets of gates, built up gate by gate ===== -/
def pre (f : Nat → Bool) (g : Nat) : Nat → Bool := fun i => decide (i < g) && f i
theorem pre_0 {f : Nat → Bool} : sI (pre f 0) = 0 := by rw [← sI_none]; apply sI_cong; intro i _; unfold pre; simp
theorem pre_y {f : Nat → Bool} {g : Nat} (hg : g < 10) (h : f g = true) : sI (pre f g) ||| sI (fun i => i == g) = sI (pre f (g + 1)) := by
  rw [sI_or]; apply sI_cong; intro i _; unfold pre
  by_cases e : i = g
  · subst e; simp [h]
  · have : (i < g + 1) = (i < g) := by simp; omega
    simp [e, this]
theorem pre_n {f : Nat → Bool} {g : Nat} (h : f g = false) : sI (pre f g) = sI (pre f (g + 1)) := by
  apply sI_cong; intro i _; unfold pre
  by_cases e : i = g
  · subst e; simp [h]
  · have : (i < g + 1) = (i < g) := by simp; omega
    simp [this]
theorem or0 (x : Int32) : x ||| 0 = x := by simp
section
variable {N : Nat} {kd s1 s2 ck : Nat → Nat} {kinds firsts seconds sets clocks kind source second clock : Nat → Int32}
theorem ofKind_loop (hO : POK N kd s1 s2 ck) (hB : PB N kd s1 s2 kind source second) {j : Nat} (hj : j ≤ 5) {Q : Int32 → Prop} (hQ : Q (sI (pre (fun i => kd i == j) N))) :
    ∀ (d g : Nat), g + d = N → wp_X10_ofKind_h4 (nI N) kind (nI j) Q (d + 1) (sI (pre (fun i => kd i == j) g)) (nI g) := by
  have hN := hO.1
  intro d
  induction d with
  | zero =>
    intro g hgd
    show wp_X10_ofKind_b4 _ _ _ _ _ _ _
    unfold wp_X10_ofKind_b4
    have e : g = N := by omega
    subst e
    exact pk_le g g (fun _ => hQ) (fun h => absurd h (by omega))
  | succ d ih =>
    intro g hgd
    show wp_X10_ofKind_b4 _ _ _ _ (wp_X10_ofKind_h4 (nI N) kind (nI j) Q (d + 1)) _ _
    unfold wp_X10_ofKind_b4 wp_X10_ofKind_b30
    have hg : g < N := by omega
    refine pk_le N g (fun h => absurd h (by omega)) (fun _ => ⟨vp_in_nI (by omega) (by omega), ?_⟩)
    rw [nI_clamp (by omega), (hB g hg).1, sI_bit g (by omega), or0]
    have hk := (hO.2 g hg).1
    by_cases e : kd g = j
    · refine bn_t (by rw [e]) (all_e (all_e ?_))
      rw [nI_1, pre_y (by omega) (by simp [e])]
      exact ih (g + 1) (by omega)
    · refine bn_f (by rw [nI_eq (by omega) (by omega)]; exact e) (all_e (all_e ?_))
      rw [nI_1, pre_n (by simpa using e)]
      exact ih (g + 1) (by omega)
theorem ev_ofKind (hO : POK N kd s1 s2 ck) (hB : PB N kd s1 s2 kind source second) {j : Nat} (hj : j ≤ 5) {Q : Int32 → Prop} (hQ : Q (sI (fun i => decide (i < N) && kd i == j))) : wp_X10_ofKind (nI N) kind (nI j) Q := by
  have := ofKind_loop hO hB hj (Q := Q) hQ N 0 (by omega)
  rw [pre_0] at this
  exact ⟨N + 1, this⟩
theorem worthSo_loop (hN : N ≤ 10) {w : Nat → Nat} (hw : ∀ i, w i ≤ 2) {f page : Nat → Int32} (hf : WR N w f) {kn : Int32} {j : Nat} (hj : j ≤ 2) {Q : Int32 → Int32 → (Nat → Int32) → Prop} (hQ : Q (sI (pre (fun i => w i == j) N)) kn f) :
    ∀ (d g : Nat), g + d = N → wp_X10_worthSo_h14 (nI N) kind page second source (nI j) Q (d + 1) (sI (pre (fun i => w i == j) g)) (nI g) kn f := by
  intro d
  induction d with
  | zero =>
    intro g hgd
    show wp_X10_worthSo_b14 _ _ _ _ _ _ _ _ _ _ _ _
    unfold wp_X10_worthSo_b14
    have e : g = N := by omega
    subst e
    exact pk_le g g (fun _ => hQ) (fun h => absurd h (by omega))
  | succ d ih =>
    intro g hgd
    show wp_X10_worthSo_b14 _ _ _ _ _ _ _ (wp_X10_worthSo_h14 (nI N) kind page second source (nI j) Q (d + 1)) _ _ _ _
    unfold wp_X10_worthSo_b14 wp_X10_worthSo_b40
    have hg : g < N := by omega
    refine pk_le N g (fun h => absurd h (by omega)) (fun _ => ⟨vp_in_nI (by omega) (by omega), ?_⟩)
    rw [nI_clamp (by omega), hf g hg, sI_bit g (by omega), or0]
    have hk := hw g
    by_cases e : w g = j
    · refine bn_t (by rw [e]) (all_e (all_e ?_))
      rw [nI_1, pre_y (by omega) (by simp [e])]
      exact ih (g + 1) (by omega)
    · refine bn_f (by rw [nI_eq (by omega) (by omega)]; exact e) (all_e (all_e ?_))
      rw [nI_1, pre_n (by simpa using e)]
      exact ih (g + 1) (by omega)
theorem ev_worthSo (hO : POK N kd s1 s2 ck) (hB : PB N kd s1 s2 kind source second) {v : Nat → Nat} {c : Nat} {r : Nat → Int32} (hR : RV N kd v c r) (hv : ∀ i, v i ≤ 2) {kn : Int32} {wo : Nat → Int32} {j : Nat} (hj : j ≤ 2) {Q : Int32 → Int32 → (Nat → Int32) → Prop} (hQ : ∀ kn f, Q (sI (fun i => decide (i < N) && lv_ N kd s1 s2 v none i == j)) kn f) : wp_X10_worthSo (nI N) kind kn r second source wo (nI j) Q := by
  unfold wp_X10_worthSo
  refine ev_layWorth (stuck := none) hO hB hR hv (by intro g h; cases h) (fun kn f' hf' => ⟨N + 1, ?_⟩)
  have := worthSo_loop (kind := kind) (source := source) (second := second) (page := r) hO.1 (lv_le hv) hf' hj (kn := kn) (Q := Q) (hQ kn f') N 0 (by omega)
  rw [pre_0] at this
  exact this
theorem usedBy_loop (hO : POK N kd s1 s2 ck) (hB : PB N kd s1 s2 kind source second) {j : Nat} (hj : j < N) {Q : Int32 → Prop} (hQ : Q (sI (pre (fun i => tF kd s1 s2 i j) N))) :
    ∀ (d g : Nat), g + d = N → wp_X10_usedBy_h4 (nI N) second source (nI j) Q (d + 1) (sI (pre (fun i => tF kd s1 s2 i j) g)) (nI g) := by
  have hN := hO.1
  intro d
  induction d with
  | zero =>
    intro g hgd
    show wp_X10_usedBy_b4 _ _ _ _ _ _ _ _
    unfold wp_X10_usedBy_b4
    have e : g = N := by omega
    subst e
    exact pk_le g g (fun _ => hQ) (fun h => absurd h (by omega))
  | succ d ih =>
    intro g hgd
    show wp_X10_usedBy_b4 _ _ _ _ _ (wp_X10_usedBy_h4 (nI N) second source (nI j) Q (d + 1)) _ _
    unfold wp_X10_usedBy_b4 wp_X10_usedBy_b33 wp_X10_usedBy_b40
    have hg : g < N := by omega
    obtain ⟨hk, h1, h2, _⟩ := hO.2 g hg
    have ig : vp_in (nI g) 10 := vp_in_nI (by omega) (by omega)
    refine pk_le N g (fun h => absurd h (by omega)) (fun _ => ⟨ig, ?_⟩)
    rw [nI_clamp (by omega), (hB g hg).2.1, (hB g hg).2.2, sI_bit g (by omega), or0]
    have yes : tF kd s1 s2 g j = true → ∀ v1, v1 = sI (pre (fun i => tF kd s1 s2 i j) g) ||| sI (fun i => i == g) → ∀ v2, v2 = nI g + 1 → wp_X10_usedBy_h4 (nI N) second source (nI j) Q (d + 1) v1 v2 := by
      intro ht
      refine all_e (all_e ?_)
      rw [nI_1, pre_y (f := fun i => tF kd s1 s2 i j) (g := g) (by omega) ht]
      exact ih (g + 1) (by omega)
    have a1 : fI kd s1 g = nI j ↔ kd g ≠ 0 ∧ j = s1 g := by
      unfold fI
      by_cases h0 : kd g = 0
      · rw [if_pos h0]; exact ⟨fun e => absurd e.symm (nI_ne9 (by omega)), fun e => absurd h0 e.1⟩
      · rw [if_neg h0, nI_eq (by have := h1 h0; omega) (by omega)]; exact ⟨fun e => ⟨h0, e.symm⟩, fun e => e.2.symm⟩
    have a2 : eI kd s2 g = nI j ↔ two (kd g) = true ∧ j = s2 g := by
      unfold eI
      by_cases h0 : two (kd g) = true
      · rw [if_pos h0, nI_eq (by have := h2 h0; omega) (by omega)]; exact ⟨fun e => ⟨h0, e.symm⟩, fun e => e.2.symm⟩
      · rw [if_neg h0]; exact ⟨fun e => absurd e.symm (nI_ne9 (by omega)), fun e => absurd e.1 h0⟩
    by_cases e1 : fI kd s1 g = nI j
    · refine br_t e1 (yes ?_)
      have := a1.mp e1
      unfold tF; simp [this.1, this.2]
    · refine br_f e1 ⟨ig, ?_⟩
      by_cases e2 : eI kd s2 g = nI j
      · refine bn_t e2 (yes ?_)
        have := a2.mp e2
        unfold tF; simp [this.1, this.2]
      · refine bn_f e2 (all_e (all_e ?_))
        have ht : tF kd s1 s2 g j = false := by
          unfold tF
          have n1 := fun h => e1 (a1.mpr h)
          have n2 := fun h => e2 (a2.mpr h)
          by_cases x1 : kd g = 0
          · by_cases x2 : two (kd g) = true
            · have : ¬ j = s2 g := fun e => n2 ⟨x2, e⟩
              simp [x1, this]
            · have x2' : two (kd g) = false := by simpa using x2
              rw [x2', x1]; simp
          · have y1 : ¬ j = s1 g := fun e => n1 ⟨x1, e⟩
            by_cases x2 : two (kd g) = true
            · have : ¬ j = s2 g := fun e => n2 ⟨x2, e⟩
              simp [y1, this]
            · simp [y1, x2]
        rw [nI_1, pre_n (f := fun i => tF kd s1 s2 i j) (g := g) ht]
        exact ih (g + 1) (by omega)
theorem ev_usedBy (hO : POK N kd s1 s2 ck) (hB : PB N kd s1 s2 kind source second) {j : Nat} (hj : j < N) {Q : Int32 → Prop} (hQ : Q (sI (fun i => decide (i < N) && tF kd s1 s2 i j))) : wp_X10_usedBy (nI N) second source (nI j) Q := by
  have := usedBy_loop hO hB hj (Q := Q) hQ N 0 (by omega)
  rw [pre_0] at this
  exact ⟨N + 1, this⟩
theorem readersOf_loop (hO : POK N kd s1 s2 ck) (hA : PA N kd s1 s2 kinds firsts seconds sets) {j : Nat} (hj : j < N) {Q : Int32 → Prop} (hQ : Q (sI (pre (fun i => tF kd s1 s2 i j) N))) :
    ∀ (d g : Nat), g + d = N → wp_X2_readersOf_h4 (nI N) sets (nI j) Q (d + 1) (sI (pre (fun i => tF kd s1 s2 i j) g)) (nI g) := by
  have hN := hO.1
  intro d
  induction d with
  | zero =>
    intro g hgd
    show wp_X2_readersOf_b4 _ _ _ _ _ _ _
    unfold wp_X2_readersOf_b4
    have e : g = N := by omega
    subst e
    exact pk_le g g (fun _ => hQ) (fun h => absurd h (by omega))
  | succ d ih =>
    intro g hgd
    show wp_X2_readersOf_b4 _ _ _ _ (wp_X2_readersOf_h4 (nI N) sets (nI j) Q (d + 1)) _ _
    unfold wp_X2_readersOf_b4 wp_X2_readersOf_b32
    have hg : g < N := by omega
    refine pk_le N g (fun h => absurd h (by omega)) (fun _ => ev_sourcesOf (by omega) (ev_bit (by omega) ?_))
    rw [(hA g hg).2.2.2]
    cases ht : tF kd s1 s2 g j with
    | false =>
      refine br_t (by rw [sI_andb (by omega)]; exact ht) (all_e ?_)
      rw [nI_1, pre_n (f := fun i => tF kd s1 s2 i j) (g := g) ht]
      exact ih (g + 1) (by omega)
    | true =>
      refine br_f (by rw [sI_andb (by omega), ht]; decide) (ev_bit (by omega) (all_e (all_e ?_)))
      rw [nI_1, pre_y (f := fun i => tF kd s1 s2 i j) (g := g) (by omega) ht]
      exact ih (g + 1) (by omega)
theorem ev_readersOf (hO : POK N kd s1 s2 ck) (hA : PA N kd s1 s2 kinds firsts seconds sets) {j : Nat} (hj : j < N) {Q : Int32 → Prop} (hQ : Q (sI (fun i => decide (i < N) && tF kd s1 s2 i j))) : wp_X2_readersOf (nI N) sets (nI j) Q := by
  have := readersOf_loop hO hA hj (Q := Q) hQ N 0 (by omega)
  rw [pre_0] at this
  exact ⟨N + 1, this⟩
/-! ===== many steps of the reference ===== -/
theorem step_loop (hO : POK N kd s1 s2 ck) (hB : PB N kd s1 s2 kind source second) (hC : ∀ g, g < N → clock g = cI_ kd ck g) {n : Nat} (hn : n < 2 ^ 30) {th dn : Int32} {bk r0 : Nat → Int32} {Q : Int32 → (Nat → Int32) → Int32 → Int32 → (Nat → Int32) → Int32 → (Nat → Int32) → Prop} :
    ∀ (d t : Nat) (x : SX) (r : Nat → Int32) (kn : Int32) (wo : Nat → Int32), t + d = n → (∀ i, x.1 i ≤ 2) → x.2 + d < 2 ^ 31 → RV N kd x.1 x.2 r → (∀ j, 10 ≤ j → j ≠ 21 → r j = r0 j) → (∀ kn wo r', RV N kd (stpn N kd s1 s2 ck none d x).1 (stpn N kd s1 s2 ck none d x).2 r' → (∀ j, 10 ≤ j → j ≠ 21 → r' j = r0 j) → Q (nI (stpn N kd s1 s2 ck none d x).2) bk dn kn r' th wo) →
      wp_X10_step_h26 clock (nI N) kind second source (nI n) Q (d + 1) (nI t) bk dn kn r th wo := by
  intro d
  induction d with
  | zero =>
    intro t x r kn wo htd hv hc hR hk hq
    show wp_X10_step_b26 _ _ _ _ _ _ _ _ _ _ _ _ _ _ _
    unfold wp_X10_step_b26
    refine pk_le n t (fun _ => ⟨vp_in_nI (n := 21) (by omega) (by omega), ?_⟩) (fun h => absurd h (by omega))
    rw [show (21 : Int32).toNatClampNeg = 21 from by decide, hR.2]
    exact hq _ _ r hR hk
  | succ d ih =>
    intro t x r kn wo htd hv hc hR hk hq
    show wp_X10_step_b26 _ _ _ _ _ _ _ (wp_X10_step_h26 clock (nI N) kind second source (nI n) Q (d + 1)) _ _ _ _ _ _ _
    unfold wp_X10_step_b26
    refine pk_le n t (fun h => absurd h (by omega)) (fun _ => ?_)
    refine ev_stepOn (stuck := none) hO hB hC hR hv (by omega) (by intro g h; cases h) (fun kn wo r' hR' hk' v hv' => ?_)
    rw [hv', nI_1]
    exact ih (t + 1) (stp1 N kd s1 s2 ck none x) r' kn wo (by omega) (stp1_le hv) (by show x.2 + 1 + d < _; omega) hR' (fun j h1 h2 => (hk' j h1 h2).trans (hk j h1 h2)) hq
theorem ahead_loop (hO : POK N kd s1 s2 ck) (hB : PB N kd s1 s2 kind source second) (hC : ∀ g, g < N → clock g = cI_ kd ck g) {n g : Nat} (hn : n < 2 ^ 30) (hg : g < N) {th : Int32} {pg : Nat → Int32} {Q : Int32 → Int32 → Int32 → (Nat → Int32) → (Nat → Int32) → Prop} :
    ∀ (d t : Nat) (x : SX) (r : Nat → Int32) (kn : Int32) (wo : Nat → Int32), t + d = n → (∀ i, x.1 i ≤ 2) → x.2 + d < 2 ^ 31 → RV N kd x.1 x.2 r → (∀ kn wo r', Q (nI (lv_ N kd s1 s2 (stpn N kd s1 s2 ck none d x).1 none g)) kn th r' wo) →
      wp_X10_ahead_h36 clock (nI N) kind pg second source (nI n) (nI g) Q (d + 1) (nI t) kn th r wo := by
  intro d
  induction d with
  | zero =>
    intro t x r kn wo htd hv hc hR hq
    show wp_X10_ahead_b36 clock (nI N) kind pg second source (nI n) (nI g) Q _ _ _ _ _ _
    unfold wp_X10_ahead_b36
    refine pk_le n t (fun _ => ?_) (fun h => absurd h (by omega))
    exact ev_worthOf hO hB hR hv hg (fun kn f => hq kn f r)
  | succ d ih =>
    intro t x r kn wo htd hv hc hR hq
    show wp_X10_ahead_b36 clock (nI N) kind pg second source (nI n) (nI g) Q (wp_X10_ahead_h36 clock (nI N) kind pg second source (nI n) (nI g) Q (d + 1)) _ _ _ _ _
    unfold wp_X10_ahead_b36
    refine pk_le n t (fun h => absurd h (by omega)) (fun _ => ?_)
    refine ev_stepOn (stuck := none) hO hB hC hR hv (by omega) (by intro g h; cases h) (fun kn wo r' hR' hk' v hv' => ?_)
    rw [hv', nI_1]
    exact ih (t + 1) (stp1 N kd s1 s2 ck none x) r' kn wo (by omega) (stp1_le hv) (by show x.2 + 1 + d < _; omega) hR' hq
end
