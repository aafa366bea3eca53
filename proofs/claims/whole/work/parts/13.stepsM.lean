/-! ===== values and steps: the reference ===== -/
theorem ev_in {x y z : Int64} {Q : Int32 → Prop} (h : if y.toInt ≤ x.toInt ∧ x.toInt ≤ z.toInt then Q 1 else Q 0) : wp_X10_in x y z Q := by
  unfold wp_X10_in wp_X10_in_b17
  rw [lg_cmp_lt, lg_cmp_gt, Int64.lt_iff_toInt_lt, Int64.lt_iff_toInt_lt]
  by_cases h1 : x.toInt < y.toInt
  · refine br_t h1 ?_
    rw [if_neg (by omega)] at h; exact h
  · refine br_f h1 ?_
    by_cases h2 : z.toInt < x.toInt
    · refine br_t h2 ?_
      rw [if_neg (by omega)] at h; exact h
    · refine br_f h2 ?_
      rw [if_pos (by omega)] at h; exact h
theorem ge_ix {a : Int32} {N : Nat} (hN : N < 2 ^ 30) : (∃ g, g < N ∧ a = nI g) ∨ ¬ (0 ≤ a.toInt ∧ a.toInt < N) := by
  rcases pk_ix a (n := N) (by omega) with h | h | h
  · refine Or.inr fun z => ?_
    rw [Int32.lt_iff_toInt_lt, Int32.toInt_zero] at h; omega
  · refine Or.inr fun z => ?_
    rw [Int32.le_iff_toInt_le, nI_toInt (by omega)] at h; omega
  · exact Or.inl h
theorem ev_no_t {N g : Nat} {Q : Int32 → Prop} (hN : N < 2 ^ 30) (hg : g < N) (h : Q 0) : wp_X10_in (nI g).toInt64 (0 : Int64) ((nI N - (1 : Int32))).toInt64 (fun r1 => ((¬ r1 = 0) → (Q (0 : Int32))) ∧ ((r1 = 0) → (Q (1 : Int32)))) := by
  refine ev_in ?_
  have e : (nI N - (1 : Int32)).toInt = (N : Int) - 1 := pk_sub_toInt (a := N) (b := 1) (by omega) (by omega)
  rw [Int32.toInt_toInt64, Int32.toInt_toInt64, e, nI_toInt (by omega), show (0 : Int64).toInt = 0 from rfl, if_pos (by omega)]
  exact bn_f (by decide) h
theorem ev_no_f {N : Nat} {a : Int32} {Q : Int32 → Prop} (hN : N < 2 ^ 30) (ha : ¬ (0 ≤ a.toInt ∧ a.toInt < N)) (h : Q 1) : wp_X10_in a.toInt64 (0 : Int64) ((nI N - (1 : Int32))).toInt64 (fun r1 => ((¬ r1 = 0) → (Q (0 : Int32))) ∧ ((r1 = 0) → (Q (1 : Int32)))) := by
  refine ev_in ?_
  have e : (nI N - (1 : Int32)).toInt = (N : Int) - 1 := pk_sub_toInt (a := N) (b := 1) (by omega) (by omega)
  rw [Int32.toInt_toInt64, Int32.toInt_toInt64, e, show (0 : Int64).toInt = 0 from rfl, if_neg (by omega)]
  exact bn_t (by decide) h
theorem ev_noGate_t {N g : Nat} {Q : Int32 → Prop} (hN : N < 2 ^ 30) (hg : g < N) (h : Q 0) : wp_X10_noGate (nI N) (nI g) Q := ev_no_t hN hg h
theorem ev_noGate_f {N : Nat} {a : Int32} {Q : Int32 → Prop} (hN : N < 2 ^ 30) (ha : ¬ (0 ≤ a.toInt ∧ a.toInt < N)) (h : Q 1) : wp_X10_noGate (nI N) a Q := ev_no_f hN ha h
theorem ev_noChip_t {N g : Nat} {Q : Int32 → Prop} (hN : N < 2 ^ 30) (hg : g < N) (h : Q 0) : wp_X10_noChip (nI N) (nI g) Q := ev_no_t hN hg h
theorem ev_noChip_f {N : Nat} {a : Int32} {Q : Int32 → Prop} (hN : N < 2 ^ 30) (ha : ¬ (0 ≤ a.toInt ∧ a.toInt < N)) (h : Q 1) : wp_X10_noChip (nI N) a Q := ev_no_f hN ha h
theorem nI_ne9 {n : Nat} (h : n < 2 ^ 31) : ¬ nI n = -9 := by
  intro e
  have := congrArg Int32.toInt e
  rw [nI_toInt h] at this
  have e9 : (-9 : Int32).toInt = -9 := by decide
  omega
theorem ev_has {f : Nat → Bool} {g : Nat} {Q : Int32 → Prop} (hg : g < 10) (h : Q (if f g then 1 else 0)) : wp_X10_has (sI f) (nI g) Q := by
  unfold wp_X10_has
  rw [sI_has hg]
  cases hf : f g with
  | true => rw [hf] at h; exact bn_t (by decide) h
  | false => rw [hf] at h; exact bn_f (by decide) h
theorem ev_stands {kind : Nat → Int32} {k g : Nat} {Q : Int32 → Prop} (hg : g < 10) (hk : kind g = nI k) (hk5 : k ≤ 5) (h : Q (if stb k then 1 else 0)) : wp_X10_stands kind (nI g) Q := by
  unfold wp_X10_stands wp_X10_stands_b19
  rw [nI_clamp (by omega), hk]
  refine ⟨vp_in_nI hg (by omega), ?_⟩
  by_cases h0 : k = 0
  · subst h0; exact br_t rfl h
  · refine br_f (by rw [← nI_0, nI_eq (by omega) (by omega)]; exact h0) ⟨vp_in_nI hg (by omega), ?_⟩
    by_cases h5 : k = 5
    · subst h5; exact bn_t rfl h
    · refine bn_f (by rw [show (5 : Int32) = nI 5 from rfl, nI_eq (by omega) (by omega)]; exact h5) ?_
      have : stb k = false := by unfold stb; simp [h0, h5]
      rw [this] at h; exact h
theorem ev_worthBy {k a b : Nat} {Q : Int32 → Prop} (hk : 1 ≤ k ∧ k ≤ 4) (ha : a ≤ 2) (hb : b ≤ 2) (h : Q (nI (gval k a b))) : wp_X10_worthBy (nI k) (nI a) (nI b) Q := by
  unfold wp_X10_worthBy wp_X10_worthBy_b96 wp_X10_worthBy_b66 wp_X10_worthBy_b80 wp_X10_worthBy_b31 wp_X10_worthBy_b45
  rcases (show k = 1 ∨ k = 2 ∨ k = 3 ∨ k = 4 by omega) with rfl | rfl | rfl | rfl <;> rcases (show a = 0 ∨ a = 1 ∨ a = 2 by omega) with rfl | rfl | rfl <;> rcases (show b = 0 ∨ b = 1 ∨ b = 2 by omega) with rfl | rfl | rfl <;> (simp (decide := true) only [nI, gval, true_implies, false_implies, and_true, true_and, if_true, if_false] at h ⊢; exact h)
/-- the reference's row of values -/
def WR (N : Nat) (w : Nat → Nat) (f : Nat → Int32) : Prop := ∀ i, i < N → f i = nI (w i)
/-- a page: stored values and the count -/
def RV (N : Nat) (kd v : Nat → Nat) (c : Nat) (r : Nat → Int32) : Prop := (∀ g, g < N → stb (kd g) = true → r g = nI (v g)) ∧ r 21 = nI c
section
variable {N : Nat} {kd s1 s2 ck : Nat → Nat} {kind source second clock r : Nat → Int32} {stuck : Option Nat}
theorem lay_in (hO : POK N kd s1 s2 ck) (hB : PB N kd s1 s2 kind source second) {p2 x3 : Int32} {Q : Int32 → (Nat → Int32) → Prop} {k94 : Int32 → Int32 → (Nat → Int32) → Prop} :
    ∀ (d g : Nat) (x : LX) (f : Nat → Int32), g + d = N → LG N kd x → WR N x.2 f → (∀ f', WR N (lsf kd s1 s2 g d x).2 f' → ∀ v7, v7 = x3 + 1 → k94 v7 (sI (kF N (lsf kd s1 s2 g d x))) f') →
      wp_X10_layWorth_h105 (nI N) kind second source r p2 Q k94 (d + 1) x3 (nI g) (sI (kF N x)) f := by
  have hN := hO.1
  intro d
  induction d with
  | zero =>
    intro g x f hgd hx hf hq
    show wp_X10_layWorth_b105 _ _ _ _ _ _ _ _ _ _ _ _ _
    unfold wp_X10_layWorth_b105
    exact pk_le N g (fun _ => hq f hf) (fun h => absurd h (by omega))
  | succ d ih =>
    intro g x f hgd hx hf hq
    show wp_X10_layWorth_b105 _ _ _ _ _ _ _ _ (wp_X10_layWorth_h105 (nI N) kind second source r p2 Q k94 (d + 1)) _ _ _ _
    unfold wp_X10_layWorth_b105 wp_X10_layWorth_b243 wp_X10_layWorth_b172 wp_X10_layWorth_b226 wp_X10_layWorth_b243
    have hg : g < N := by omega
    have hg10 : g < 10 := by omega
    refine pk_le N g (fun h => absurd h (by omega)) (fun _ => ev_has hg10 ?_)
    have next : ∀ (y : LX) (f' : Nat → Int32), y = l1 kd s1 s2 g x → WR N y.2 f' → ∀ v1, v1 = nI g + 1 → wp_X10_layWorth_h105 (nI N) kind second source r p2 Q k94 (d + 1) x3 v1 (sI (kF N y)) f' := by
      intro y f' hy hf' v1 hv1
      rw [hv1, nI_1]
      subst hy
      exact ih (g + 1) _ f' (by omega) (l1_LG hx g) hf' hq
    cases hK : x.1 g with
    | true =>
      have e : kF N x g = true := by unfold kF; simp [hg, hK]
      rw [e]
      refine bn_f (by decide) ?_
      exact next x f (l1_known hK).symm hf
    | false =>
      have e : kF N x g = false := by unfold kF; simp [hK]
      rw [e]
      refine bn_t (by decide) ⟨vp_in_nI hg10 (by omega), ?_⟩
      obtain ⟨hkd, hs1, hs2, _⟩ := hO.2 g hg
      obtain ⟨a1, a2, a3⟩ := hB g hg
      have hk0 : kd g ≠ 0 := fun h => by have := hx.2.1 g hg (by rw [h]; rfl); rw [hK] at this; cases this
      have hk5 : kd g ≠ 5 := fun h => by have := hx.2.1 g hg (by rw [h]; rfl); rw [hK] at this; cases this
      have h1N := hs1 hk0
      rw [nI_clamp (by omega), a1, a2, a3, fI, if_neg hk0]
      refine ev_has (by omega) ?_
      have no : ¬ (x.1 (s1 g) = true ∧ (two (kd g) = true → x.1 (s2 g) = true)) → ∀ v1, v1 = nI g + 1 → wp_X10_layWorth_h105 (nI N) kind second source r p2 Q k94 (d + 1) x3 v1 (sI (kF N x)) f := by
        intro h
        refine next x f ?_ hf
        unfold l1; rw [if_neg (fun z => h z.2)]
      have e1 : kF N x (s1 g) = x.1 (s1 g) := by unfold kF; simp [h1N]
      rw [e1]
      cases hK1 : x.1 (s1 g) with
      | false => exact br_t (by decide) (no (by simp [hK1]))
      | true =>
        refine br_f (by decide) ⟨vp_in_nI hg10 (by omega), ?_⟩
        have fin : ∀ b : Nat, b = (if two (kd g) = true then x.2 (s2 g) else 0) → (two (kd g) = true → x.1 (s2 g) = true) → wp_X10_worthBy (nI (kd g)) (f (s1 g)) (nI b) (fun r2 => (vp_in (nI g) 10) ∧ ∀ y3, y3 = upd f g r2 → (∀ v4, v4 = (sI (kF N x) ||| ((1 : Int32) <<< (nI g &&& 31))) → (∀ v1, v1 = nI g + 1 → wp_X10_layWorth_h105 (nI N) kind second source r p2 Q k94 (d + 1) x3 v1 v4 y3))) := by
          intro b hb h2
          rw [hf _ h1N]
          refine ev_worthBy ⟨by omega, by omega⟩ (hx.1 _) (by rw [hb]; split; exact hx.1 _; omega) ?_
          refine ⟨vp_in_nI hg10 (by omega), all_e (all_e ?_)⟩
          have e : l1 kd s1 s2 g x = (upB x.1 g true, upN x.2 g (gval (kd g) (x.2 (s1 g)) b)) := by
            rw [hb]; unfold l1; rw [if_pos ⟨hK, hK1, h2⟩]
          rw [sI_bit g hg10, sI_or]
          have n := next _ (upd f g (nI (gval (kd g) (x.2 (s1 g)) b))) e.symm (by
            intro i hi
            show upd _ _ _ i = nI (upN _ _ _ i)
            by_cases ei : i = g
            · subst ei; rw [upd_s, upN_s]
            · rw [upd_n ei, upN_n ei]; exact hf i hi)
          have c1 : sI (fun i => kF N x i || i == g) = sI (kF N (upB x.1 g true, upN x.2 g (gval (kd g) (x.2 (s1 g)) b))) := by
            apply sI_cong
            intro i _
            unfold kF
            by_cases e : i = g
            · subst e; simp [upB_s, hg]
            · simp [upB_n e, e]
          rw [c1]
          exact n
        rw [eI]
        by_cases ht : two (kd g) = true
        · have h2N := hs2 ht
          rw [if_pos ht]
          refine br_f (nI_ne9 (by omega)) ⟨vp_in_nI hg10 (by omega), ev_has (by omega) ?_⟩
          have e2 : kF N x (s2 g) = x.1 (s2 g) := by unfold kF; simp [h2N]
          rw [e2]
          cases hK2 : x.1 (s2 g) with
          | false => exact br_t (by decide) (no (by simp [ht, hK2]))
          | true =>
            refine br_f (by decide) ⟨vp_in_nI hg10 (by omega), vp_in_nI hg10 (by omega), vp_in_nI (by omega) (by omega), vp_in_nI hg10 (by omega), bn_f (nI_ne9 (by omega)) ⟨vp_in_nI hg10 (by omega), vp_in_nI (by omega) (by omega), ?_⟩⟩
            rw [nI_clamp (by omega), nI_clamp (by omega), hf _ h2N]
            exact fin _ (by rw [if_pos ht]) (fun _ => hK2)
        · rw [if_neg ht]
          refine br_t rfl ⟨vp_in_nI hg10 (by omega), vp_in_nI hg10 (by omega), vp_in_nI (by omega) (by omega), vp_in_nI hg10 (by omega), bn_t rfl ?_⟩
          rw [nI_clamp (by omega)]
          exact fin 0 (by rw [if_neg ht]) (fun h => absurd h ht)
theorem lay_out (hO : POK N kd s1 s2 ck) (hB : PB N kd s1 s2 kind source second) {p2 : Int32} {Q : Int32 → (Nat → Int32) → Prop} :
    ∀ (d t : Nat) (x : LX) (f : Nat → Int32), t + d = N → LG N kd x → WR N x.2 f → (∀ kn f', WR N (lit kd s1 s2 N d x).2 f' → Q kn f') →
      wp_X10_layWorth_h94 (nI N) kind second source r p2 Q (d + 1) (nI t) (sI (kF N x)) f := by
  have hN := hO.1
  intro d
  induction d with
  | zero =>
    intro t x f htd hx hf hq
    show wp_X10_layWorth_b94 _ _ _ _ _ _ _ _ _ _ _
    unfold wp_X10_layWorth_b94
    exact pk_le N t (fun _ => hq _ f hf) (fun h => absurd h (by omega))
  | succ d ih =>
    intro t x f htd hx hf hq
    show wp_X10_layWorth_b94 _ _ _ _ _ _ _ (wp_X10_layWorth_h94 (nI N) kind second source r p2 Q (d + 1)) _ _ _
    unfold wp_X10_layWorth_b94
    refine pk_le N t (fun h => absurd h (by omega)) (fun _ => ⟨N + 1, ?_⟩)
    refine lay_in hO hB N 0 x f (by omega) hx hf (fun f' hf' v7 h7 => ?_)
    rw [h7, nI_1]
    exact ih (t + 1) _ f' (by omega) (lsf_LG N 0 hx) hf' hq
theorem stI_eq (hN : N ≤ 10) (hs : ∀ g, stuck = some g → g < N) {g : Nat} (hg : g < N) : nI g = stI stuck ↔ stuck = some g := by
  cases stuck with
  | none => exact ⟨fun h => absurd h (nI_ne9 (by omega)), fun h => by cases h⟩
  | some j =>
    have := hs j rfl
    show nI g = nI j ↔ _
    rw [nI_eq (by omega) (by omega)]
    exact ⟨fun h => by rw [h], fun h => by cases h; rfl⟩
theorem lay_init (hO : POK N kd s1 s2 ck) (hB : PB N kd s1 s2 kind source second) {v : Nat → Nat} {c : Nat} (hR : RV N kd v c r) (hv : ∀ i, v i ≤ 2) (hs : ∀ g, stuck = some g → g < N) {Q : Int32 → (Nat → Int32) → Prop} (hq : ∀ kn f', WR N (lv_ N kd s1 s2 v stuck) f' → Q kn f') :
    ∀ (d g : Nat) (f : Nat → Int32), g + d = N → (∀ i, i < g → f i = nI ((l0 kd v stuck).2 i)) →
      wp_X10_layWorth_h7 (nI N) kind second source r (stI stuck) Q (d + 1) (nI g) (sI (fun i => decide (i < g) && (l0 kd v stuck).1 i)) f := by
  have hN := hO.1
  intro d
  induction d with
  | zero =>
    intro g f hgd hf
    show wp_X10_layWorth_b7 _ _ _ _ _ _ _ _ _ _ _
    unfold wp_X10_layWorth_b7
    refine pk_le N g (fun _ => ⟨N + 1, ?_⟩) (fun h => absurd h (by omega))
    have hgN : g = N := by omega
    subst hgN
    exact lay_out hO hB g 0 _ f (by omega) (l0_LG hv) hf hq
  | succ d ih =>
    intro g f hgd hf
    show wp_X10_layWorth_b7 _ _ _ _ _ _ _ (wp_X10_layWorth_h7 (nI N) kind second source r (stI stuck) Q (d + 1)) _ _ _
    unfold wp_X10_layWorth_b7 wp_X10_layWorth_b28 wp_X10_layWorth_b33 wp_X10_layWorth_b64 wp_X10_layWorth_b82
    have hg : g < N := by omega
    have hg10 : g < 10 := by omega
    obtain ⟨hkd, _⟩ := hO.2 g hg
    obtain ⟨a1, _⟩ := hB g hg
    refine pk_le N g (fun h => absurd h (by omega)) (fun _ => ?_)
    have next : ∀ (b w : Int32), b = sI (fun i => (decide (i = g) && (l0 kd v stuck).1 g)) → w = nI ((l0 kd v stuck).2 g) → ∀ y18, y18 = upd f (nI g).toNatClampNeg w → ∀ v16, v16 = (sI (fun i => decide (i < g) && (l0 kd v stuck).1 i) ||| b) → ∀ v17, v17 = nI g + 1 → wp_X10_layWorth_h7 (nI N) kind second source r (stI stuck) Q (d + 1) v17 v16 y18 := by
      intro b w hb hw y hy v16 h16 v17 h17
      rw [h17, nI_1, h16, hb, hy, hw, nI_clamp (by omega), sI_or]
      have e : sI (fun i => (decide (i < g) && (l0 kd v stuck).1 i) || (decide (i = g) && (l0 kd v stuck).1 g)) = sI (fun i => decide (i < g + 1) && (l0 kd v stuck).1 i) := by
        apply sI_cong
        intro i _
        by_cases e : i = g
        · subst e; simp
        · have : (i < g + 1) = (i < g) := by simp; omega
          simp [e, this]
      rw [e]
      refine ih (g + 1) _ (by omega) (fun i hi => ?_)
      by_cases e : i = g
      · subst e; rw [upd_s]
      · rw [upd_n e]; exact hf i (by omega)
    have b1 : (l0 kd v stuck).1 g = true → (1 : Int32) <<< (nI g &&& 31) = sI (fun i => (decide (i = g) && (l0 kd v stuck).1 g)) := by
      intro h
      rw [sI_bit g hg10]
      apply sI_cong; intro i _; rw [h]; simp
      by_cases e : i = g <;> simp [e]
    have b0 : (l0 kd v stuck).1 g = false → (0 : Int32) = sI (fun i => (decide (i = g) && (l0 kd v stuck).1 g)) := by
      intro h; rw [h]; simp [sI_none]
    by_cases hst : stuck = some g
    · have k1 : (l0 kd v stuck).1 g = true := by unfold l0; simp [hst]
      have w1 : (0 : Int32) = nI ((l0 kd v stuck).2 g) := by
        have : (l0 kd v stuck).2 g = 0 := by unfold l0; simp [hst]
        rw [this]; rfl
      refine br_t ((stI_eq hN hs hg).mpr hst) (bn_t ((stI_eq hN hs hg).mpr hst) ⟨vp_in_nI hg10 (by omega), fun y hy => br_f (by decide) ?_⟩)
      exact next _ _ (b1 k1) w1 y hy
    · have hne : ¬ nI g = stI stuck := fun h => hst ((stI_eq hN hs hg).mp h)
      refine br_f hne (ev_stands hg10 a1 hkd ?_)
      cases hb : stb (kd g) with
      | true =>
        have k1 : (l0 kd v stuck).1 g = true := by unfold l0; simp [hb]
        have w1 : r (nI g).toNatClampNeg = nI ((l0 kd v stuck).2 g) := by
          rw [nI_clamp (by omega), hR.1 g hg hb]
          have : (l0 kd v stuck).2 g = v g := by unfold l0; simp [hst, hb]
          rw [this]
        refine br_f (by decide) (bn_f hne (ev_stands hg10 a1 hkd ?_))
        rw [hb]
        refine br_f (by decide) ⟨vp_in_nI (by omega) (by omega), vp_in_nI hg10 (by omega), fun y hy => br_f (by decide) ?_⟩
        exact next _ _ (b1 k1) w1 y hy
      | false =>
        have k1 : (l0 kd v stuck).1 g = false := by unfold l0; simp [hb, hst]
        have w1 : (2 : Int32) = nI ((l0 kd v stuck).2 g) := by
          have : (l0 kd v stuck).2 g = 2 := by unfold l0; simp [hst, hb]
          rw [this]; rfl
        refine br_t rfl (bn_f hne (ev_stands hg10 a1 hkd ?_))
        rw [hb]
        refine br_t rfl ⟨vp_in_nI hg10 (by omega), fun y hy => br_t rfl ?_⟩
        exact next _ _ (b0 k1) w1 y hy
theorem ev_layWorth (hO : POK N kd s1 s2 ck) (hB : PB N kd s1 s2 kind source second) {v : Nat → Nat} {c : Nat} (hR : RV N kd v c r) (hv : ∀ i, v i ≤ 2) (hs : ∀ g, stuck = some g → g < N) {kn : Int32} {wo : Nat → Int32} {Q : Int32 → (Nat → Int32) → Prop} (hq : ∀ kn f', WR N (lv_ N kd s1 s2 v stuck) f' → Q kn f') :
    wp_X10_layWorth (nI N) kind kn second source wo r (stI stuck) Q := by
  refine ⟨N + 1, ?_⟩
  have := lay_init hO hB hR hv hs hq N 0 wo (by omega) (fun i hi => absurd hi (by omega))
  have e : sI (fun i => decide (i < 0) && (l0 kd v stuck).1 i) = 0 := by rw [← sI_none]; apply sI_cong; intro i _; simp
  rw [e] at this
  exact this
theorem ev_worthOf (hO : POK N kd s1 s2 ck) (hB : PB N kd s1 s2 kind source second) {v : Nat → Nat} {c : Nat} (hR : RV N kd v c r) (hv : ∀ i, v i ≤ 2) {g : Nat} (hg : g < N) {kn : Int32} {wo : Nat → Int32} {Q : Int32 → Int32 → (Nat → Int32) → Prop} (hq : ∀ kn f', Q (nI (lv_ N kd s1 s2 v none g)) kn f') :
    wp_X10_worthOf (nI N) kind kn second source wo r (nI g) Q := by
  unfold wp_X10_worthOf
  refine ev_layWorth (stuck := none) hO hB hR hv (by intro g h; cases h) (fun kn f' hf' => ⟨vp_in_nI (by have := hO.1; omega) (by omega), ?_⟩)
  rw [nI_clamp (by have := hO.1; omega), hf' g hg]
  exact hq _ _
theorem stepOn_loop (hO : POK N kd s1 s2 ck) (hB : PB N kd s1 s2 kind source second) (hC : ∀ g, g < N → clock g = cI_ kd ck g) {w v : Nat → Nat} (hw : ∀ i, w i ≤ 2) {c : Nat} (hc : c + 1 < 2 ^ 31) {p2 kn : Int32} {wo : Nat → Int32} (hwo : WR N w wo) {r0 : Nat → Int32} {Q : Int32 → (Nat → Int32) → (Nat → Int32) → Prop} (hq : ∀ r', RV N kd (tk kd s1 ck w v c) (c + 1) r' → (∀ j, 10 ≤ j → j ≠ 21 → r' j = r0 j) → Q kn wo r') :
    ∀ (d g : Nat) (r : Nat → Int32), g + d = N → RV N kd (tkp kd s1 ck w v c g) c r → (∀ j, 10 ≤ j → r j = r0 j) → wp_X10_stepOn_h8 clock (nI N) kind second source p2 Q (d + 1) (nI g) kn wo r := by
  have hN := hO.1
  have h21 : vp_in (21 : Int32) 22 := vp_in_nI (n := 21) (by omega) (by omega)
  have c21 : (21 : Int32).toNatClampNeg = 21 := by decide
  intro d
  induction d with
  | zero =>
    intro g r hgd hR hk
    show wp_X10_stepOn_b8 _ _ _ _ _ _ _ _ _ _ _ _
    unfold wp_X10_stepOn_b8
    refine pk_le N g (fun _ => ⟨h21, all_e ⟨h21, all_e ?_⟩⟩) (fun h => absurd h (by omega))
    rw [c21, hR.2, nI_1]
    refine hq _ ⟨fun i hi hs => ?_, upd_s⟩ (fun j h1 h2 => by rw [upd_n h2]; exact hk j h1)
    rw [upd_n (by omega), hR.1 i hi hs]
    unfold tkp
    rw [if_pos (by omega)]
  | succ d ih =>
    intro g r hgd hR hk
    show wp_X10_stepOn_b8 _ _ _ _ _ _ _ (wp_X10_stepOn_h8 clock (nI N) kind second source p2 Q (d + 1)) _ _ _ _
    unfold wp_X10_stepOn_b8 wp_X10_stepOn_b45 wp_X10_stepOn_b59
    have hg : g < N := by omega
    have hg10 : g < 10 := by omega
    have ig : vp_in (nI g) 10 := vp_in_nI hg10 (by omega)
    obtain ⟨hkd, hs1, hs2, hck⟩ := hO.2 g hg
    obtain ⟨a1, a2, a3⟩ := hB g hg
    refine pk_le N g (fun h => absurd h (by omega)) (fun _ => ⟨ig, ?_⟩)
    rw [nI_clamp (by omega), a1, a2, hC g hg, c21, hR.2]
    have skip : ¬ (kd g = 5 ∧ (ck g = 0 ∨ c % 2 = 1)) → ∀ v1, v1 = nI g + 1 → wp_X10_stepOn_h8 clock (nI N) kind second source p2 Q (d + 1) v1 kn wo r := by
      intro hn v1 hv1
      rw [hv1, nI_1]
      refine ih (g + 1) r (by omega) ⟨fun i hi hs => ?_, hR.2⟩ hk
      rw [hR.1 i hi hs]
      unfold tkp
      by_cases e : i = g
      · rw [if_neg (by omega), if_pos (by omega), e]; unfold tk; rw [if_neg hn]
      · by_cases h : i < g
        · rw [if_pos h, if_pos (by omega)]
        · rw [if_neg h, if_neg (by omega)]
    by_cases h5 : kd g = 5
    · refine bn_t (by rw [h5]; rfl) ⟨ig, ?_⟩
      have h1N := hs1 (by omega)
      have go : (kd g = 5 ∧ (ck g = 0 ∨ c % 2 = 1)) → (vp_in (nI g) 10) ∧ ((vp_in (fI kd s1 g) 10) ∧ (∀ v2, v2 = (wo ((fI kd s1 g)).toNatClampNeg) → ((vp_in (nI g) 22) ∧ ∀ y3, y3 = upd r g v2 → (∀ v1, v1 = nI g + 1 → wp_X10_stepOn_h8 clock (nI N) kind second source p2 Q (d + 1) v1 kn wo y3)))) := by
        intro hy
        refine ⟨ig, ?_⟩
        rw [fI, if_neg (by omega), nI_clamp (by omega), hwo _ h1N]
        refine ⟨vp_in_nI (by omega) (by omega), all_e ⟨vp_in_nI (by omega) (by omega), all_e (fun v1 hv1 => ?_)⟩⟩
        rw [hv1, nI_1]
        refine ih (g + 1) _ (by omega) ⟨fun i hi hs => ?_, by rw [upd_n (by omega)]; exact hR.2⟩ (fun j hj => by rw [upd_n (by omega)]; exact hk j hj)
        by_cases e : i = g
        · rw [e, upd_s]; unfold tkp tk; rw [if_pos (by omega), if_pos hy]
        · rw [upd_n e, hR.1 i hi hs]
          unfold tkp
          by_cases h : i < g
          · rw [if_pos h, if_pos (by omega)]
          · rw [if_neg h, if_neg (by omega)]
      have hck2 := hck h5
      rw [cI_, if_pos h5]
      by_cases hc0 : ck g = 0
      · exact br_t (by rw [hc0]; rfl) (go ⟨h5, Or.inl hc0⟩)
      · refine br_f (by rw [← nI_0, nI_eq (by omega) (by omega)]; exact hc0) ⟨h21, ?_⟩
        have er : nI c - nI c / (2 : Int32) * (2 : Int32) = nI (c % 2) := pk_rem (by omega) (by decide) (by decide)
        rw [er]
        by_cases ho : c % 2 = 1
        · exact bn_t (by rw [ho]; rfl) (go ⟨h5, Or.inr ho⟩)
        · refine bn_f (by rw [show (1 : Int32) = nI 1 from rfl, nI_eq (by omega) (by omega)]; exact ho) (skip ?_)
          rintro ⟨_, h | h⟩
          · exact hc0 h
          · exact ho h
    · exact bn_f (by rw [show (5 : Int32) = nI 5 from rfl, nI_eq (by omega) (by omega)]; exact h5) (skip (fun h => h5 h.1))
theorem ev_stepOn (hO : POK N kd s1 s2 ck) (hB : PB N kd s1 s2 kind source second) (hC : ∀ g, g < N → clock g = cI_ kd ck g) {x : SX} (hR : RV N kd x.1 x.2 r) (hv : ∀ i, x.1 i ≤ 2) (hc : x.2 + 1 < 2 ^ 31) (hs : ∀ g, stuck = some g → g < N) {kn : Int32} {wo : Nat → Int32} {Q : Int32 → (Nat → Int32) → (Nat → Int32) → Prop} (hq : ∀ kn wo r', RV N kd (stp1 N kd s1 s2 ck stuck x).1 (x.2 + 1) r' → (∀ j, 10 ≤ j → j ≠ 21 → r' j = r j) → Q kn wo r') :
    wp_X10_stepOn clock (nI N) kind kn second source wo r (stI stuck) Q := by
  unfold wp_X10_stepOn
  refine ev_layWorth hO hB hR hv hs (fun kn f' hf' => ⟨N + 1, ?_⟩)
  refine stepOn_loop hO hB hC (v := x.1) (lv_le hv) hc hf' (hq kn f') N 0 r (by omega) ?_ (fun j _ => rfl)
  have e : tkp kd s1 ck (lv_ N kd s1 s2 x.1 stuck) x.1 x.2 0 = x.1 := by funext i; unfold tkp; rw [if_neg (by omega)]
  rw [e]; exact hR
end
