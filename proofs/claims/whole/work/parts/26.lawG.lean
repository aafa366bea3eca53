def alB (f : Nat → Bool) : Nat → Bool
  | 0 => true
  | n + 1 => alB f n && f n
theorem alB_t {f : Nat → Bool} : ∀ {n : Nat}, alB f n = true ↔ ∀ i, i < n → f i = true
  | 0 => ⟨fun _ i hi => absurd hi (Nat.not_lt_zero i), fun _ => rfl⟩
  | n + 1 => by
    rw [alB, Bool.and_eq_true, alB_t (f := f) (n := n)]
    constructor
    · rintro ⟨h1, h2⟩ i hi
      by_cases e : i = n
      · rw [e]; exact h2
      · exact h1 i (by omega)
    · intro h
      exact ⟨fun i hi => h i (by omega), h n (by omega)⟩
theorem alB_f {f : Nat → Bool} {n i : Nat} (hi : i < n) (h : f i = false) : alB f n = false := by
  cases hh : alB f n with
  | false => rfl
  | true => rw [alB_t.mp hh i hi] at h; cases h
/-- what is seen -/
def SG (H : Nat) (a g v b : Nat → Nat) (steps gates values truths : Nat → Int32) : Prop := H ≤ 6 ∧ ∀ j, j < H → a j ≤ 9 ∧ g j < 10 ∧ v j ≤ 2 ∧ b j ≤ 1 ∧ steps j = nI (a j) ∧ gates j = nI (g j) ∧ values j = nI (v j) ∧ truths j = nI (b j)
section
variable {N C : Nat} {kd s1 s2 ck : Nat → Nat} {kinds firsts seconds sets kind source second clock : Nat → Int32} {H : Nat} {a g v b : Nat → Nat} {steps gates values truths sB sG sW sWas : Nat → Int32}
def okB (N : Nat) (kd s1 s2 ck : Nat → Nat) (a g v b : Nat → Nat) (x0 : SX) (q j : Nat) : Bool := !decide (g j < N) || ((lv_ N kd s1 s2 (stpn N kd s1 s2 ck (some q) (a j) x0).1 (some q) (g j) == v j) == (b j == 1))
theorem last_loop (hS : SG H a g v b steps gates values truths) {Q : Int32 → Prop} (hQ : ∀ (x : Int32) (M : Nat), M ≤ 10 → (∀ n, n ≤ 20 → (x < nI n ↔ M ≤ n)) → (∀ j, j < H → a j < M) → Q x) :
    ∀ (d i : Nat) (x : Int32) (M : Nat), i + d = H → M ≤ 10 → (∀ n, n ≤ 20 → (x < nI n ↔ M ≤ n)) → (∀ j, j < i → a j < M) → wp_X6_lastStep_h5 (nI H) steps Q (d + 1) x (nI i) := by
  obtain ⟨hH, hS⟩ := hS
  intro d
  induction d with
  | zero =>
    intro i x M hid hM hx h
    show wp_X6_lastStep_b5 _ _ _ _ _ _
    unfold wp_X6_lastStep_b5
    exact pk_le H i (fun _ => hQ x M hM hx (fun j hj => h j (by omega))) (fun h => absurd h (by omega))
  | succ d ih =>
    intro i x M hid hM hx h
    show wp_X6_lastStep_b5 _ _ _ (wp_X6_lastStep_h5 (nI H) steps Q (d + 1)) _ _
    unfold wp_X6_lastStep_b5
    obtain ⟨ha, _, _, _, e1, _⟩ := hS i (by omega)
    refine pk_le H i (fun h => absurd h (by omega)) (fun _ => ev_cell (by omega) (by omega) ?_)
    rw [e1]
    refine all_e (all_e ?_)
    rw [nI_1]
    by_cases hlt : x < nI (a i)
    · rw [if_pos hlt]
      have := (hx (a i) (by omega)).mp hlt
      refine ih (i + 1) _ (a i + 1) (by omega) (by omega) (fun n hn => by rw [nI_ltI (by omega) (by omega)]; omega) (fun j hj => ?_)
      by_cases e : j = i
      · rw [e]; omega
      · have := h j (by omega); omega
    · rw [if_neg hlt]
      have hn : ¬ M ≤ a i := fun z => hlt ((hx (a i) (by omega)).mpr z)
      refine ih (i + 1) _ M (by omega) hM hx (fun j hj => ?_)
      by_cases e : j = i
      · rw [e]; omega
      · exact h j (by omega)
theorem ev_lastStep (hS : SG H a g v b steps gates values truths) {Q : Int32 → Prop} (hQ : ∀ (x : Int32) (M : Nat), M ≤ 10 → (∀ n, n ≤ 20 → (x < nI n ↔ M ≤ n)) → (∀ j, j < H → a j < M) → Q x) : wp_X6_lastStep (nI H) steps Q :=
  ⟨H + 1, last_loop hS hQ H 0 (-9) 0 (by omega) (by omega) (fun n hn => by
    rw [lt_lit (by omega), show (-9 : Int32).toInt = -9 by decide]; omega) (fun j hj => absurd hj (by omega))⟩
theorem agree_loop (hN : N ≤ 10) (hS : SG H a g v b steps gates values truths) {w : Nat → Nat} (hw : ∀ i, w i ≤ 2) {n : Nat} (hn : n ≤ 10) {Q : Int32 → Prop} (f : Nat → Bool) (hf : ∀ j, j < H → f j = (!(a j == n) || (!decide (g j < N) || ((w (g j) == v j) == (b j == 1))))) (hQ : Q (if alB f H = true then 1 else 0)) :
    ∀ (d i : Nat), i + d = H → alB f i = true → wp_X6_agree_h3 gates (nI H) steps truths values (nI N) (sI (vO N w)) (sI (vU N w)) (nI n) Q (d + 1) (nI i) := by
  obtain ⟨hH, hS⟩ := hS
  intro d
  induction d with
  | zero =>
    intro i hid hi
    show wp_X6_agree_b3 _ _ _ _ _ _ _ _ _ _ _ _
    unfold wp_X6_agree_b3
    have e : i = H := by omega
    subst e
    rw [hi, if_pos rfl] at hQ
    exact pk_le i i (fun _ => hQ) (fun h => absurd h (by omega))
  | succ d ih =>
    intro i hid hi
    show wp_X6_agree_b3 _ _ _ _ _ _ _ _ _ _ (wp_X6_agree_h3 gates (nI H) steps truths values (nI N) (sI (vO N w)) (sI (vU N w)) (nI n) Q (d + 1)) _
    unfold wp_X6_agree_b3 wp_X6_agree_b75 wp_X6_agree_b97 wp_X6_agree_b102
    have hi2 : i < H := by omega
    obtain ⟨ha, hg, hv, hb, e1, e2, e3, e4⟩ := hS i hi2
    have fi := hf i hi2
    have next : f i = true → ∀ v1, v1 = nI i + 1 → wp_X6_agree_h3 gates (nI H) steps truths values (nI N) (sI (vO N w)) (sI (vU N w)) (nI n) Q (d + 1) v1 := by
      intro h v1 hv1
      rw [hv1, nI_1]
      exact ih (i + 1) (by omega) (by rw [alB, hi, h]; rfl)
    have stop : f i = false → Q 0 := by
      intro h
      rw [alB_f hi2 h, if_neg (by decide)] at hQ
      exact hQ
    refine pk_le H i (fun h => absurd h (by omega)) (fun _ => ev_cell (by omega) (by omega) (ev_cell (by omega) (by omega) ?_))
    rw [e1, e2]
    by_cases ea : a i = n
    · refine bn_t (by rw [ea]) ?_
      rw [show (a i == n) = true by simpa using ea, Bool.not_true, Bool.false_or] at fi
      refine pk_le N (g i) (fun h => next (by rw [fi, decide_eq_false (by omega)]; rfl)) (fun h => ev_valueIn hg ?_)
      rw [decide_eq_true h, Bool.not_true, Bool.false_or] at fi
      rw [vOU h (hw _)]
      refine ev_cell (by omega) (by omega) ?_
      rw [e3]
      have hwg := hw (g i)
      have tr : ∀ c : Bool, (w (g i) == v i) = c → wp_X9_cell 6 truths (nI i) (fun r3 => ((¬ r3 = (1 : Int32)) → (((((if c = true then (1 : Int32) else 0) = (0 : Int32)) → (∀ v1, v1 = nI i + 1 → wp_X6_agree_h3 gates (nI H) steps truths values (nI N) (sI (vO N w)) (sI (vU N w)) (nI n) Q (d + 1) v1)) ∧ ((¬ (if c = true then (1 : Int32) else 0) = (0 : Int32)) → (Q (0 : Int32)))))) ∧ ((r3 = (1 : Int32)) → (((((if c = true then (1 : Int32) else 0) = (1 : Int32)) → (∀ v1, v1 = nI i + 1 → wp_X6_agree_h3 gates (nI H) steps truths values (nI N) (sI (vO N w)) (sI (vU N w)) (nI n) Q (d + 1) v1)) ∧ ((¬ (if c = true then (1 : Int32) else 0) = (1 : Int32)) → (Q (0 : Int32))))))) := by
        intro c hc
        refine ev_cell (by omega) (by omega) ?_
        rw [e4]
        rw [hc] at fi
        by_cases hb1 : b i = 1
        · refine bn_t (by rw [hb1]; rfl) ?_
          rw [show (b i == 1) = true by simpa using hb1] at fi
          cases c with
          | true => exact br_t rfl (next (by rw [fi]; rfl))
          | false => exact br_f (by decide) (stop (by rw [fi]; rfl))
        · refine bn_f (by rw [show (1 : Int32) = nI 1 from rfl, nI_eq (by omega) (by omega)]; exact hb1) ?_
          rw [show (b i == 1) = false by simpa using hb1] at fi
          cases c with
          | true => exact br_f (by decide) (stop (by rw [fi]; rfl))
          | false => exact br_t rfl (next (by rw [fi]; rfl))
      by_cases hc : w (g i) = v i
      · exact bn_t (by rw [hc]) (tr true (by simpa using hc))
      · exact bn_f (by rw [nI_eq (by omega) (by omega)]; exact hc) (tr false (by simpa using hc))
    · refine bn_f (by rw [nI_eq (by omega) (by omega)]; exact ea) (next ?_)
      rw [fi, show (a i == n) = false by simpa using ea]; rfl
theorem stuck_loop (hO : POK N kd s1 s2 ck) (hA : PA N kd s1 s2 kinds firsts seconds sets) (hS : SG H a g v b steps gates values truths) {x0 : SX} (hv0 : ∀ i, x0.1 i ≤ 2) (hc0 : x0.2 < 2 ^ 20) {q : Nat} (hq : q < N) {nc no np nl nu cp cl : Int32} {x : Int32} {M : Nat} (hM : M ≤ 10) (hx : ∀ n, n ≤ 20 → (x < nI n ↔ M ≤ n)) (hL : ∀ j, j < H → a j < M) {Q : Int32 → Int32 → Int32 → Int32 → Int32 → Int32 → Int32 → Int32 → Int32 → Prop} (hQ : ∀ c0 c1 c2 c3 c4 c5 c6 c7, Q (if alB (okB N kd s1 s2 ck a g v b x0 q) H = true then 1 else 0) c0 c1 c2 c3 c4 c5 c6 c7) :
    ∀ (d n : Nat) (lo lk lu : Int32), n + d = M → (∀ j, j < H → a j < n → okB N kd s1 s2 ck a g v b x0 q j = true) →
      wp_X9_canBeStuck_h21 nc no np nl nu firsts (nI N) (sI (inF N kd)) kinds (sI (reF N kd)) seconds (sI (slF N kd ck)) sets gates (nI H) steps truths values (nI q) Q (d + 1) x (nI n) (nI (stpn N kd s1 s2 ck (some q) n x0).2) (sI (sO N kd (stpn N kd s1 s2 ck (some q) n x0).1)) cp cl (sI (sU N kd (stpn N kd s1 s2 ck (some q) n x0).1)) lo lk lu := by
  have hN := hO.1
  intro d
  induction d with
  | zero =>
    intro n lo lk lu hnd h
    show wp_X9_canBeStuck_b21 nc no np nl nu firsts (nI N) (sI (inF N kd)) kinds (sI (reF N kd)) seconds (sI (slF N kd ck)) sets gates (nI H) steps truths values (nI q) Q _ _ _ _ _ _ _ _ _ _ _
    unfold wp_X9_canBeStuck_b21
    refine br_t ((hx n (by omega)).mpr (by omega)) ?_
    have e : alB (okB N kd s1 s2 ck a g v b x0 q) H = true := alB_t.mpr (fun j hj => h j hj (by have := hL j hj; omega))
    have q := hQ
    rw [e, if_pos rfl] at q
    exact q _ _ _ _ _ _ _ _
  | succ d ih =>
    intro n lo lk lu hnd h
    show wp_X9_canBeStuck_b21 nc no np nl nu firsts (nI N) (sI (inF N kd)) kinds (sI (reF N kd)) seconds (sI (slF N kd ck)) sets gates (nI H) steps truths values (nI q) Q (wp_X9_canBeStuck_h21 nc no np nl nu firsts (nI N) (sI (inF N kd)) kinds (sI (reF N kd)) seconds (sI (slF N kd ck)) sets gates (nI H) steps truths values (nI q) Q (d + 1)) _ _ _ _ _ _ _ _ _ _
    unfold wp_X9_canBeStuck_b21 wp_X6_agree
    have hvn : ∀ i, (stpn N kd s1 s2 ck (some q) n x0).1 i ≤ 2 := stpn_le n hv0
    have hct := stpn_ct (N := N) (kd := kd) (s1 := s1) (s2 := s2) (ck := ck) (stuck := some q) n x0
    refine br_f (fun z => by have := (hx n (by omega)).mp z; omega) ?_
    refine ev_compute (stuck := some q) hO hA hvn (by intro g h; cases h; exact hq) (fun z => ⟨H + 1, ?_⟩)
    refine agree_loop hN hS (lv_le hvn) (by omega) (fun j => !(a j == n) || okB N kd s1 s2 ck a g v b x0 q j) (fun j hj => ?_) ?_ H 0 (by omega) rfl
    · show (!(a j == n) || _) = _
      by_cases e : a j = n
      · unfold okB; rw [e]
      · rw [show (a j == n) = false by simpa using e]; rfl
    · cases hal : alB (fun j => !(a j == n) || okB N kd s1 s2 ck a g v b x0 q j) H with
      | false =>
        refine bn_t rfl ?_
        have hno : alB (okB N kd s1 s2 ck a g v b x0 q) H = false := by
          cases hh : alB (okB N kd s1 s2 ck a g v b x0 q) H with
          | false => rfl
          | true =>
            have : alB (fun j => !(a j == n) || okB N kd s1 s2 ck a g v b x0 q j) H = true := alB_t.mpr (fun j hj => by rw [alB_t.mp hh j hj]; simp)
            rw [this] at hal; cases hal
        have q := hQ
        rw [hno, if_neg (by decide)] at q
        exact q _ _ _ _ _ _ _ _
      | true =>
        refine bn_f (by decide) (ev_tick hO (fun g hg => (hA g hg).2.1) (lv_le hvn) (by omega) (all_e ?_))
        rw [nI_1]
        have es : stpn N kd s1 s2 ck (some q) (n + 1) x0 = stp1 N kd s1 s2 ck (some q) (stpn N kd s1 s2 ck (some q) n x0) := stpn_succ n x0
        have := ih (n + 1) (sI (vO N (lv_ N kd s1 s2 (stpn N kd s1 s2 ck (some q) n x0).1 (some q)))) z (sI (vU N (lv_ N kd s1 s2 (stpn N kd s1 s2 ck (some q) n x0).1 (some q)))) (by omega) (fun j hj hjn => by
          by_cases e : a j = n
          · have := alB_t.mp hal j hj
            simpa [e] using this
          · exact h j hj (by omega))
        rw [es] at this
        exact this
/-! the reference: one observation -/
theorem so_loop (hO : POK N kd s1 s2 ck) (hB : PB N kd s1 s2 kind source second) (hC : ∀ g, g < N → clock g = cI_ kd ck g) (hS : SG H a g v b sB sG sW sWas) {x0 : SX} (hv0 : ∀ i, x0.1 i ≤ 2) (hc0 : x0.2 < 2 ^ 20) {q j : Nat} (hq : q < N) (hj : j < H) (hgj : g j < N) {pg : Nat → Int32} {Q : Int32 → Int32 → (Nat → Int32) → (Nat → Int32) → Prop} (hQ : ∀ kn tr wo, Q (if okB N kd s1 s2 ck a g v b x0 q j = true then 1 else 0) kn tr wo) :
    ∀ (d n : Nat) (kn : Int32) (tr wo : Nat → Int32), n + d = a j → RV N kd (stpn N kd s1 s2 ck (some q) n x0).1 (stpn N kd s1 s2 ck (some q) n x0).2 tr → wp_X10_isSo_h21 clock (nI N) kind pg second sB sG sWas sW source (nI q) (nI j) Q (d + 1) (nI n) kn tr wo := by
  have hN := hO.1
  obtain ⟨hH, hS⟩ := hS
  obtain ⟨ha, hg, hv, hb, e1, e2, e3, e4⟩ := hS j hj
  have ij : vp_in (nI j) 6 := vp_in_nI (by omega) (by omega)
  intro d
  induction d with
  | zero =>
    intro n kn tr wo hnd hR
    show wp_X10_isSo_b21 clock (nI N) kind pg second sB sG sWas sW source (nI q) (nI j) Q _ _ _ _ _
    unfold wp_X10_isSo_b21 wp_X10_isSo_b80 wp_X10_isSo_b95
    have hvn : ∀ i, (stpn N kd s1 s2 ck (some q) n x0).1 i ≤ 2 := stpn_le n hv0
    have en : n = a j := by omega
    rw [nI_clamp (by omega), e1, e2, e3, e4, nI_clamp (by omega)]
    refine ⟨ij, pk_le (a j) n (fun _ => ev_layWorth (stuck := some q) hO hB hR hvn (by intro g h; cases h; exact hq) (fun kn f hf => ⟨ij, vp_in_nI hg (by omega), ij, ?_⟩)) (fun h => absurd h (by omega))⟩
    rw [hf _ hgj]
    have hle := lv_le (N := N) (kd := kd) (s1 := s1) (s2 := s2) (stuck := some q) hvn (g j)
    have q2 := hQ kn tr f
    unfold okB at q2
    rw [decide_eq_true hgj, Bool.not_true, Bool.false_or, ← en] at q2
    by_cases hc : lv_ N kd s1 s2 (stpn N kd s1 s2 ck (some q) n x0).1 (some q) (g j) = v j
    · refine bn_t (by rw [hc]) ⟨ij, ?_⟩
      rw [show (lv_ N kd s1 s2 (stpn N kd s1 s2 ck (some q) n x0).1 (some q) (g j) == v j) = true by simpa using hc] at q2
      by_cases hb1 : b j = 1
      · rw [hb1] at q2 ⊢
        exact bn_t rfl (bn_t rfl q2)
      · rw [show (b j == 1) = false by simpa using hb1] at q2
        exact bn_f (by rw [show (1 : Int32) = nI 1 from rfl, nI_eq (by omega) (by omega)]; exact hb1) (bn_f (by decide) q2)
    · refine bn_f (by rw [nI_eq (by omega) (by omega)]; exact hc) ⟨ij, ?_⟩
      rw [show (lv_ N kd s1 s2 (stpn N kd s1 s2 ck (some q) n x0).1 (some q) (g j) == v j) = false by simpa using hc] at q2
      by_cases hb1 : b j = 1
      · rw [hb1] at q2 ⊢
        exact bn_t rfl (bn_f (by decide) q2)
      · rw [show (b j == 1) = false by simpa using hb1] at q2
        exact bn_f (by rw [show (1 : Int32) = nI 1 from rfl, nI_eq (by omega) (by omega)]; exact hb1) (bn_t rfl q2)
  | succ d ih =>
    intro n kn tr wo hnd hR
    show wp_X10_isSo_b21 clock (nI N) kind pg second sB sG sWas sW source (nI q) (nI j) Q (wp_X10_isSo_h21 clock (nI N) kind pg second sB sG sWas sW source (nI q) (nI j) Q (d + 1)) _ _ _ _
    unfold wp_X10_isSo_b21
    have hvn : ∀ i, (stpn N kd s1 s2 ck (some q) n x0).1 i ≤ 2 := stpn_le n hv0
    have hct := stpn_ct (N := N) (kd := kd) (s1 := s1) (s2 := s2) (ck := ck) (stuck := some q) n x0
    rw [nI_clamp (by omega), e1]
    refine ⟨ij, pk_le (a j) n (fun h => absurd h (by omega)) (fun _ => ?_)⟩
    refine ev_stepOn (stuck := some q) hO hB hC hR hvn (by omega) (by intro g h; cases h; exact hq) (fun kn wo r' hR' _ => all_e ?_)
    rw [nI_1]
    have es : stpn N kd s1 s2 ck (some q) (n + 1) x0 = stp1 N kd s1 s2 ck (some q) (stpn N kd s1 s2 ck (some q) n x0) := stpn_succ n x0
    exact ih (n + 1) kn r' wo (by omega) (by rw [es, show (stp1 N kd s1 s2 ck (some q) (stpn N kd s1 s2 ck (some q) n x0)).2 = (stpn N kd s1 s2 ck (some q) n x0).2 + 1 from rfl]; exact hR')
theorem ev_isSo (hO : POK N kd s1 s2 ck) (hB : PB N kd s1 s2 kind source second) (hC : ∀ g, g < N → clock g = cI_ kd ck g) (hS : SG H a g v b sB sG sW sWas) {z : AS} (hv0 : ∀ i, z.1 i ≤ 2) (hc0 : z.2.2.2 < 2 ^ 20) {q j : Nat} (hq : q < N) (hj : j < H) {pg tr wo : Nat → Int32} (hpg : SB N kd z pg) {kn : Int32} {Q : Int32 → Int32 → (Nat → Int32) → (Nat → Int32) → Prop} (hQ : ∀ kn tr wo, Q (if okB N kd s1 s2 ck a g v b (z.1, z.2.2.2) q j = true then 1 else 0) kn tr wo) :
    wp_X10_isSo clock (nI N) kind kn pg second sB sG sWas sW source tr wo (nI q) (nI j) Q := by
  have hN := hO.1
  have hS' := hS
  obtain ⟨hH, hS⟩ := hS
  obtain ⟨ha, hg, hv, hb, e1, e2, e3, e4⟩ := hS j hj
  unfold wp_X10_isSo
  rw [nI_clamp (by omega), e2]
  refine ⟨vp_in_nI (by omega) (by omega), ?_⟩
  by_cases hgj : g j < N
  · refine ev_noGate_t (by omega) hgj (br_t rfl (ev_layTrial (fun t' ht => ⟨a j + 1, ?_⟩)))
    exact so_loop (x0 := (z.1, z.2.2.2)) hO hB hC hS' hv0 hc0 hq hj hgj hQ (a j) 0 _ t' _ (by omega) (hpg.cong hN ht).1
  · refine ev_noGate_f (by omega) (by rw [nI_toInt (by omega)]; omega) (br_f (by decide) ?_)
    have q := hQ kn tr wo
    unfold okB at q
    rw [decide_eq_false hgj] at q
    exact q
theorem whichB_in (hO : POK N kd s1 s2 ck) (hB : PB N kd s1 s2 kind source second) (hC : ∀ g, g < N → clock g = cI_ kd ck g) (hS : SG H a g v b sB sG sW sWas) {z : AS} (hv0 : ∀ i, z.1 i ≤ 2) (hc0 : z.2.2.2 < 2 ^ 20) {q : Nat} (hq : q < N) {pg : Nat → Int32} (hpg : SB N kd z pg) {x1 th : Int32} {Q : Int32 → Int32 → Int32 → (Nat → Int32) → (Nat → Int32) → Prop} {k9 : Int32 → Int32 → Int32 → Int32 → (Nat → Int32) → (Nat → Int32) → Prop} (hQ : ∀ kn tr wo v1, v1 = (x1 ||| (if alB (okB N kd s1 s2 ck a g v b (z.1, z.2.2.2) q) H = true then sI (fun i => i == q) else 0)) → ∀ v2, v2 = nI q + 1 → k9 v1 v2 kn th tr wo) :
    ∀ (d i : Nat) (kn : Int32) (tr wo : Nat → Int32), i + d = H → wp_X10_which_h22 clock (nI N) kind pg second (nI H) sB sG sWas sW source Q k9 (d + 1) x1 (nI q) (if alB (okB N kd s1 s2 ck a g v b (z.1, z.2.2.2) q) i = true then 1 else 0) (nI i) kn th tr wo := by
  have hN := hO.1
  have hH := hS.1
  intro d
  induction d with
  | zero =>
    intro i kn tr wo hid
    show wp_X10_which_b22 clock (nI N) kind pg second (nI H) sB sG sWas sW source Q k9 _ _ _ _ _ _ _ _ _
    unfold wp_X10_which_b22 wp_X10_which_b69
    have e : i = H := by omega
    subst e
    rw [sI_bit q (by omega)]
    refine pk_le i i (fun _ => ?_) (fun h => absurd h (by omega))
    have q2 := hQ kn tr wo
    cases hal : alB (okB N kd s1 s2 ck a g v b (z.1, z.2.2.2) q) i with
    | true => rw [hal] at q2; exact br_f (by decide) q2
    | false => rw [hal] at q2; exact br_t rfl q2
  | succ d ih =>
    intro i kn tr wo hid
    show wp_X10_which_b22 clock (nI N) kind pg second (nI H) sB sG sWas sW source Q k9 (wp_X10_which_h22 clock (nI N) kind pg second (nI H) sB sG sWas sW source Q k9 (d + 1)) _ _ _ _ _ _ _ _
    unfold wp_X10_which_b22 wp_X10_which_b49 wp_X10_which_b50
    have next : ∀ (y : Int32) (kn : Int32) (tr wo : Nat → Int32), y = (if alB (okB N kd s1 s2 ck a g v b (z.1, z.2.2.2) q) (i + 1) = true then 1 else 0) → ∀ v3, v3 = nI i + 1 → wp_X10_which_h22 clock (nI N) kind pg second (nI H) sB sG sWas sW source Q k9 (d + 1) x1 (nI q) y v3 kn th tr wo := by
      intro y kn tr wo hy v3 h3
      rw [h3, nI_1, hy]
      exact ih (i + 1) kn tr wo (by omega)
    refine pk_le H i (fun h => absurd h (by omega)) (fun _ => ?_)
    cases hal : alB (okB N kd s1 s2 ck a g v b (z.1, z.2.2.2) q) i with
    | false =>
      refine br_t rfl (next 0 _ _ _ ?_)
      rw [alB, hal]; rfl
    | true =>
      refine br_f (by decide) (ev_isSo hO hB hC hS hv0 hc0 hq (by omega) hpg (fun kn tr wo => ?_))
      cases hok : okB N kd s1 s2 ck a g v b (z.1, z.2.2.2) q i with
      | false =>
        refine br_t rfl (next 0 _ _ _ ?_)
        rw [alB, hok, Bool.and_false]; rfl
      | true =>
        refine br_f (by decide) (next 1 _ _ _ ?_)
        rw [alB, hal, hok]; rfl
theorem or_if (f : Nat → Bool) {q : Nat} (hq : q < 10) : sI (pre f q) ||| (if f q = true then sI (fun i => i == q) else 0) = sI (pre f (q + 1)) := by
  cases h : f q with
  | true => rw [if_pos rfl]; exact pre_y hq h
  | false => rw [if_neg (by decide), or0]; exact pre_n h
theorem whichB_out (hO : POK N kd s1 s2 ck) (hB : PB N kd s1 s2 kind source second) (hC : ∀ g, g < N → clock g = cI_ kd ck g) (hS : SG H a g v b sB sG sW sWas) {z : AS} (hv0 : ∀ i, z.1 i ≤ 2) (hc0 : z.2.2.2 < 2 ^ 20) {pg : Nat → Int32} (hpg : SB N kd z pg) {th : Int32} {Q : Int32 → Int32 → Int32 → (Nat → Int32) → (Nat → Int32) → Prop} (hQ : ∀ kn tr wo, Q (sI (pre (fun q => alB (okB N kd s1 s2 ck a g v b (z.1, z.2.2.2) q) H) N)) kn th tr wo) :
    ∀ (d q : Nat) (kn : Int32) (tr wo : Nat → Int32), q + d = N → wp_X10_which_h9 clock (nI N) kind pg second (nI H) sB sG sWas sW source Q (d + 1) (sI (pre (fun q => alB (okB N kd s1 s2 ck a g v b (z.1, z.2.2.2) q) H) q)) (nI q) kn th tr wo := by
  have hN := hO.1
  intro d
  induction d with
  | zero =>
    intro q kn tr wo hqd
    show wp_X10_which_b9 clock (nI N) kind pg second (nI H) sB sG sWas sW source Q _ _ _ _ _ _ _
    unfold wp_X10_which_b9
    have e : q = N := by omega
    subst e
    exact pk_le q q (fun _ => hQ _ _ _) (fun h => absurd h (by omega))
  | succ d ih =>
    intro q kn tr wo hqd
    show wp_X10_which_b9 clock (nI N) kind pg second (nI H) sB sG sWas sW source Q (wp_X10_which_h9 clock (nI N) kind pg second (nI H) sB sG sWas sW source Q (d + 1)) _ _ _ _ _ _
    unfold wp_X10_which_b9
    refine pk_le N q (fun h => absurd h (by omega)) (fun _ => ⟨H + 1, ?_⟩)
    refine whichB_in hO hB hC hS hv0 hc0 (by omega) hpg (fun kn tr wo v1 h1 v2 h2 => ?_) H 0 kn tr wo (by omega)
    rw [h1, h2, nI_1, or_if (fun q => alB (okB N kd s1 s2 ck a g v b (z.1, z.2.2.2) q) H) (by omega)]
    exact ih (q + 1) kn tr wo (by omega)
theorem whichA_loop (hO : POK N kd s1 s2 ck) (hA : PA N kd s1 s2 kinds firsts seconds sets) (hS : SG H a g v b steps gates values truths) {z : AS} (hv0 : ∀ i, z.1 i ≤ 2) (hc0 : z.2.2.2 < 2 ^ 20) {Q : Int32 → Int32 → Int32 → Int32 → Int32 → Int32 → Int32 → Int32 → Int32 → Prop} (hQ : ∀ c0 c1 c2 c3 c4 c5 c6 c7, Q (sI (pre (fun q => alB (okB N kd s1 s2 ck a g v b (z.1, z.2.2.2) q) H) N)) c0 c1 c2 c3 c4 c5 c6 c7) :
    ∀ (d q : Nat) (c0 c1 c2 c3 c4 c5 c6 c7 : Int32), q + d = N → wp_X9_which_h4 (nI z.2.2.2) (sI (sO N kd z.1)) (nI z.2.2.1) (pI z.2.1) (sI (sU N kd z.1)) firsts (nI N) (sI (inF N kd)) kinds (sI (reF N kd)) seconds (sI (slF N kd ck)) sets gates (nI H) steps truths values Q (d + 1) (sI (pre (fun q => alB (okB N kd s1 s2 ck a g v b (z.1, z.2.2.2) q) H) q)) (nI q) c0 c1 c2 c3 c4 c5 c6 c7 := by
  have hN := hO.1
  intro d
  induction d with
  | zero =>
    intro q c0 c1 c2 c3 c4 c5 c6 c7 hqd
    show wp_X9_which_b4 (nI z.2.2.2) (sI (sO N kd z.1)) (nI z.2.2.1) (pI z.2.1) (sI (sU N kd z.1)) firsts (nI N) (sI (inF N kd)) kinds (sI (reF N kd)) seconds (sI (slF N kd ck)) sets gates (nI H) steps truths values Q _ _ _ _ _ _ _ _ _ _ _
    unfold wp_X9_which_b4
    have e : q = N := by omega
    subst e
    exact pk_le q q (fun _ => hQ _ _ _ _ _ _ _ _) (fun h => absurd h (by omega))
  | succ d ih =>
    intro q c0 c1 c2 c3 c4 c5 c6 c7 hqd
    show wp_X9_which_b4 (nI z.2.2.2) (sI (sO N kd z.1)) (nI z.2.2.1) (pI z.2.1) (sI (sU N kd z.1)) firsts (nI N) (sI (inF N kd)) kinds (sI (reF N kd)) seconds (sI (slF N kd ck)) sets gates (nI H) steps truths values Q (wp_X9_which_h4 (nI z.2.2.2) (sI (sO N kd z.1)) (nI z.2.2.1) (pI z.2.1) (sI (sU N kd z.1)) firsts (nI N) (sI (inF N kd)) kinds (sI (reF N kd)) seconds (sI (slF N kd ck)) sets gates (nI H) steps truths values Q (d + 1)) _ _ _ _ _ _ _ _ _ _
    unfold wp_X9_which_b4 wp_X9_which_b30 wp_X9_canBeStuck wp_X7_takeFrom
    refine pk_le N q (fun h => absurd h (by omega)) (fun _ => ev_lastStep hS (fun x M hM hx hL => ⟨M + 1, ?_⟩))
    have hor := or_if (fun q => alB (okB N kd s1 s2 ck a g v b (z.1, z.2.2.2) q) H) (show q < 10 by omega)
    refine stuck_loop (x0 := (z.1, z.2.2.2)) hO hA hS hv0 hc0 (by omega) hM hx hL (fun c0 c1 c2 c3 c4 c5 c6 c7 => ?_) M 0 _ _ _ (by omega) (fun j _ h => absurd h (by omega))
    cases hal : alB (okB N kd s1 s2 ck a g v b (z.1, z.2.2.2) q) H with
    | false =>
      refine br_t rfl (all_e ?_)
      rw [nI_1]
      have hor : sI (pre (fun q => alB (okB N kd s1 s2 ck a g v b (z.1, z.2.2.2) q) H) q) ||| (if alB (okB N kd s1 s2 ck a g v b (z.1, z.2.2.2) q) H = true then sI (fun i => i == q) else 0) = _ := hor
      rw [hal, if_neg (by decide), or0] at hor
      rw [hor]
      exact ih (q + 1) _ _ _ _ _ _ _ _ (by omega)
    | true =>
      refine br_f (by decide) (ev_bit (by omega) (all_e (all_e ?_)))
      rw [nI_1]
      have hor : sI (pre (fun q => alB (okB N kd s1 s2 ck a g v b (z.1, z.2.2.2) q) H) q) ||| (if alB (okB N kd s1 s2 ck a g v b (z.1, z.2.2.2) q) H = true then sI (fun i => i == q) else 0) = _ := hor
      rw [hal, if_pos rfl] at hor
      rw [hor]
      exact ih (q + 1) _ _ _ _ _ _ _ _ (by omega)
end
set_option maxRecDepth 20000 in
set_option maxHeartbeats 2000000 in
theorem law_which {k : Nat} {f_keptSlots : Int32} {f_lastSeed : Int64} {f_text_letters : Nat → Int32} {f_text_length : Int32} {f_plan_chips : Int32} {f_plan_gates : Int32} {f_plan_inputs : Int32} {f_plan_registers : Int32} {f_plan_slowRegisters : Int32} {f_plan_kinds : Nat → Int32} {f_plan_firsts : Nat → Int32} {f_plan_seconds : Nat → Int32} {f_plan_clocks : Nat → Int32} {f_plan_sourceSets : Nat → Int32} {f_now_ones : Int32} {f_now_unknowns : Int32} {f_now_places : Int32} {f_now_pins : Int32} {f_now_count : Int32} {f_copy_ones : Int32} {f_copy_unknowns : Int32} {f_copy_places : Int32} {f_copy_pins : Int32} {f_copy_count : Int32} {f_logic_ones : Int32} {f_logic_unknowns : Int32} {f_logic_settled : Int32} {f_hist_next : Int32} {f_hist_held : Int32} {f_ring_cells : Nat → Int32} {f_kept_cells : Nat → Int32} {f_sight_steps : Nat → Int32} {f_sight_gates : Nat → Int32} {f_sight_values : Nat → Int32} {f_sight_truths : Nat → Int32} {f_sight_held : Int32} {m_thrown : Int32} {m_text : Nat → Int32} {m_textSize : Int32} {m_chips : Int32} {m_gates : Int32} {m_kind : Nat → Int32} {m_source : Nat → Int32} {m_second : Nat → Int32} {m_clock : Nat → Int32} {m_page : Nat → Int32} {m_trial : Nat → Int32} {m_book : Nat → Int32} {m_doings : Int32} {m_kept : Nat → Int32} {m_isKept : Nat → Int32} {m_seen : Int32} {m_seenBehind : Nat → Int32} {m_seenGate : Nat → Int32} {m_seenWorth : Nat → Int32} {m_seenWas : Nat → Int32} {m_seed : Int64} {m_worth : Nat → Int32} {m_known : Int32} (hk : k < 512) (hI : Inv k f_keptSlots f_lastSeed f_text_letters f_text_length f_plan_chips f_plan_gates f_plan_inputs f_plan_registers f_plan_slowRegisters f_plan_kinds f_plan_firsts f_plan_seconds f_plan_clocks f_plan_sourceSets f_now_ones f_now_unknowns f_now_places f_now_pins f_now_count f_hist_next f_hist_held f_ring_cells f_kept_cells f_sight_steps f_sight_gates f_sight_values f_sight_truths f_sight_held m_text m_textSize m_chips m_gates m_kind m_source m_second m_clock m_page m_book m_doings m_kept m_isKept m_seen m_seenBehind m_seenGate m_seenWorth m_seenWas m_seed)  :
    wp_X9_which f_copy_count f_copy_ones f_copy_pins f_copy_places f_copy_unknowns f_logic_ones f_logic_settled f_logic_unknowns f_now_count f_now_ones f_now_pins f_now_places f_now_unknowns f_plan_firsts f_plan_gates f_plan_inputs f_plan_kinds f_plan_registers f_plan_seconds f_plan_slowRegisters f_plan_sourceSets f_sight_gates f_sight_held f_sight_steps f_sight_truths f_sight_values  (fun r y_copy_count y_copy_ones y_copy_pins y_copy_places y_copy_unknowns y_logic_ones y_logic_settled y_logic_unknowns => wp_X10_which m_clock m_gates m_kind m_known m_page m_second m_seen m_seenBehind m_seenGate m_seenWas m_seenWorth m_source m_thrown m_trial m_worth  (fun r2 z_known z_thrown z_trial z_worth => r = r2 ∧ Inv (k + 1) f_keptSlots f_lastSeed f_text_letters f_text_length f_plan_chips f_plan_gates f_plan_inputs f_plan_registers f_plan_slowRegisters f_plan_kinds f_plan_firsts f_plan_seconds f_plan_clocks f_plan_sourceSets f_now_ones f_now_unknowns f_now_places f_now_pins f_now_count f_hist_next f_hist_held f_ring_cells f_kept_cells f_sight_steps f_sight_gates f_sight_values f_sight_truths f_sight_held m_text m_textSize m_chips m_gates m_kind m_source m_second m_clock m_page m_book m_doings m_kept m_isKept m_seen m_seenBehind m_seenGate m_seenWorth m_seenWas m_seed)) := by
  have same := inv_mono hI
  obtain ⟨hT, ⟨N, C, kd, s1, s2, ck, hP, ⟨z, hz, hA, hB⟩, hH, hK⟩, hSe, hSd⟩ := hI
  obtain ⟨hO, hC, ⟨rfl, rfl, rfl, rfl, rfl⟩, hPA, hck, ⟨rfl, rfl⟩, hPB, hckM⟩ := hP
  have hN := hO.1
  have hct := hz.2.2.2.2
  obtain ⟨rfl, rfl, rfl, rfl, rfl⟩ := hA
  obtain ⟨H, hH6, rfl, rfl, hS⟩ := hSe
  have hall : ∀ j, ∃ a g v b : Nat, j < H → (a ≤ 9 ∧ g < 10 ∧ v ≤ 2 ∧ b ≤ 1 ∧ f_sight_steps j = nI a ∧ m_seenBehind j = nI a ∧ f_sight_gates j = nI g ∧ m_seenGate j = nI g ∧ f_sight_values j = nI v ∧ m_seenWorth j = nI v ∧ f_sight_truths j = nI b ∧ m_seenWas j = nI b) := by
    intro j
    by_cases hj : j < H
    · obtain ⟨a, g, v, b, h⟩ := hS j hj
      exact ⟨a, g, v, b, fun _ => h⟩
    · exact ⟨0, 0, 0, 0, fun h => absurd h hj⟩
  let a : Nat → Nat := fun j => Classical.choose (hall j)
  have ha := fun j => Classical.choose_spec (hall j)
  let g : Nat → Nat := fun j => Classical.choose (ha j)
  have hg := fun j => Classical.choose_spec (ha j)
  let v : Nat → Nat := fun j => Classical.choose (hg j)
  have hv := fun j => Classical.choose_spec (hg j)
  let b : Nat → Nat := fun j => Classical.choose (hv j)
  have hb : ∀ j, j < H → (a j ≤ 9 ∧ g j < 10 ∧ v j ≤ 2 ∧ b j ≤ 1 ∧ f_sight_steps j = nI (a j) ∧ m_seenBehind j = nI (a j) ∧ f_sight_gates j = nI (g j) ∧ m_seenGate j = nI (g j) ∧ f_sight_values j = nI (v j) ∧ m_seenWorth j = nI (v j) ∧ f_sight_truths j = nI (b j) ∧ m_seenWas j = nI (b j)) := fun j => Classical.choose_spec (hv j)
  have S1 : SG H a g v b f_sight_steps f_sight_gates f_sight_values f_sight_truths := ⟨hH6, fun j hj => by
    obtain ⟨p1, p2, p3, p4, p5, p6, p7, p8, p9, p10, p11, p12⟩ := hb j hj
    exact ⟨p1, p2, p3, p4, p5, p7, p9, p11⟩⟩
  have S2 : SG H a g v b m_seenBehind m_seenGate m_seenWorth m_seenWas := ⟨hH6, fun j hj => by
    obtain ⟨p1, p2, p3, p4, p5, p6, p7, p8, p9, p10, p11, p12⟩ := hb j hj
    exact ⟨p1, p2, p3, p4, p6, p8, p10, p12⟩⟩
  clear_value a g v b
  unfold wp_X9_which wp_X10_which
  have e0 : sI (pre (fun q => alB (okB N kd s1 s2 ck a g v b (z.1, z.2.2.2) q) H) 0) = 0 := pre_0
  refine ⟨N + 1, ?_⟩
  refine e0 ▸ whichA_loop hO hPA S1 hz.1 (by omega) (fun c0 c1 c2 c3 c4 c5 c6 c7 => ⟨N + 1, ?_⟩) N 0 _ _ _ _ _ _ _ _ (by omega)
  refine e0 ▸ whichB_out hO hPB hckM S2 hz.1 (by omega) hB (fun kn tr wo => ⟨rfl, same⟩) N 0 _ _ _ (by omega)
