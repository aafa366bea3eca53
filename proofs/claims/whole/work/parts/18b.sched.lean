/-! ===== schedules: the class ===== -/
section
variable {N C : Nat} {kd s1 s2 ck l : Nat → Nat} {kinds firsts seconds sets : Nat → Int32}
theorem csettle_in (hO : POK N kd s1 s2 ck) (hA : PA N kd s1 s2 kinds firsts seconds sets) (hl : ∀ i, l i < 4) (t : Nat) {x3 x4 : Int32} {Q : (Nat → Int32) → Int32 → Prop} {k2 : Int32 → (Nat → Int32) → Int32 → Prop} :
    ∀ (d g : Nat) (x : HX) (A : Nat → Int32), g + d = N → AR (avF N x.1) A → (∀ A', AR (avF N (rsf kd s1 s2 l t g d x).1) A' → ((¬ sI (waF N kd l (rsf kd s1 s2 l t g d x).1) = x4 → ∀ v4, v4 = x3 + 1 → k2 v4 A' (sI (waF N kd l (rsf kd s1 s2 l t g d x).1))) ∧ (sI (waF N kd l (rsf kd s1 s2 l t g d x).1) = x4 → Q A' (sI (waF N kd l (rsf kd s1 s2 l t g d x).1))))) →
      wp_X4_settle_h26 (nI N) sets (pI l) Q k2 (d + 1) x3 x4 (nI g) A (sI (waF N kd l x.1)) := by
  have hN := hO.1
  intro d
  induction d with
  | zero =>
    intro g x A hgd h1 hQ
    show wp_X4_settle_b26 (nI N) sets (pI l) Q k2 _ _ _ _ _ _
    unfold wp_X4_settle_b26
    exact pk_le N g (fun _ => hQ A h1) (fun h => absurd h (by omega))
  | succ d ih =>
    intro g x A hgd h1 hQ
    show wp_X4_settle_b26 (nI N) sets (pI l) Q k2 (wp_X4_settle_h26 (nI N) sets (pI l) Q k2 (d + 1)) _ _ _ _ _
    unfold wp_X4_settle_b26 wp_X4_settle_b108
    have hg : g < N := by omega
    have hg10 : g < 10 := by omega
    have hlg := hl g
    obtain ⟨hkd, hs1, hs2, _⟩ := hO.2 g hg
    have next : ∀ (y : HX) (A' : Nat → Int32), y = r1 kd s1 s2 l t g x → AR (avF N y.1) A' → ∀ v1, v1 = nI g + 1 → wp_X4_settle_h26 (nI N) sets (pI l) Q k2 (d + 1) x3 x4 v1 A' (sI (waF N kd l y.1)) := by
      intro y A' hy hA' v1 hv1
      subst hy
      rw [hv1, nI_1]
      exact ih (g + 1) _ A' (by omega) hA' hQ
    refine pk_le N g (fun h => absurd h (by omega)) (fun _ => ev_chipIn hl hg10 (ev_sourcesOf hg10 (ev_cell hlg (by omega) (all_e (ev_bit hg10 ?_)))))
    rw [(hA g hg).2.2.2, h1 _ hlg]
    by_cases hw : waF N kd l x.1 g = true
    · refine br_f (by rw [sI_andb hg10]; simp [hw]) ?_
      have hw' : stb (kd g) = false ∧ x.1 (l g) g = false := by
        unfold waF at hw; simpa [hg] using hw
      have hk0 : kd g ≠ 0 := fun h => by have := hw'.1; rw [h] at this; cases this
      have hsk : (sI (tF kd s1 s2 g) &&& (sI (avF N x.1 (l g)) ^^^ (-1))) = 0 ↔ x.1 (l g) (s1 g) = true ∧ (two (kd g) = true → x.1 (l g) (s2 g) = true) := srcK (x := (x.1 (l g), fun _ => 0)) hO hg hk0
      by_cases hr : x.1 (l g) (s1 g) = true ∧ (two (kd g) = true → x.1 (l g) (s2 g) = true)
      · refine bn_t (hsk.mpr hr) (ev_add h1 hlg hg10 (fun A' hA' => ev_bit hg10 (all_e ?_)))
        have e : r1 kd s1 s2 l t g x = (up2 x.1 (l g) g true, up2 x.2 (l g) g t) := by
          unfold r1; rw [if_pos ⟨hw'.1, hw'.2, hr⟩]
        have n := next _ A' e.symm (hA'.cong (by
          intro c i _ _
          show up2 (avF N x.1) (l g) g true c i = (decide (i < N) && up2 x.1 (l g) g true c i)
          unfold up2 avF
          by_cases h : c = l g ∧ i = g
          · rw [if_pos h]; obtain ⟨rfl, rfl⟩ := h; simp [hg]
          · rw [if_neg h, if_neg h]))
        have c1 : sI (waF N kd l x.1) &&& (sI (fun i => i == g) ^^^ (-1)) = sI (waF N kd l (up2 x.1 (l g) g true)) := by
          rw [sI_dif]
          apply sI_cong
          intro i _
          unfold waF up2
          by_cases e : i = g
          · subst e; simp
          · have e' : (i == g) = false := by simpa using e
            simp [e', e]
        rw [c1]
        exact n
      · refine bn_f (fun h => hr (hsk.mp h)) (next x A ?_ h1)
        unfold r1; rw [if_neg (fun h => hr h.2.2)]
    · have hw2 : waF N kd l x.1 g = false := by simpa using hw
      refine br_t (by rw [sI_andb hg10]; exact hw2) (next x A ?_ h1)
      refine (r1_skip ?_).symm
      unfold waF at hw2
      cases h1 : stb (kd g) with
      | true => exact Or.inl rfl
      | false =>
        right
        simpa [hg, h1] using hw2
theorem csettle_out (hO : POK N kd s1 s2 ck) (hA : PA N kd s1 s2 kinds firsts seconds sets) (hl : ∀ i, l i < 4) (t : Nat) {Q : (Nat → Int32) → Int32 → Prop} :
    ∀ (d n : Nat) (x : HX) (A : Nat → Int32), n + d = N → AR (avF N x.1) A → (∀ A', AR (avF N (rit kd s1 s2 l N t d x).1) A' → Q A' (sI (waF N kd l (rit kd s1 s2 l N t d x).1))) →
      wp_X4_settle_h2 (nI N) sets (pI l) Q (d + 1) (nI n) A (sI (waF N kd l x.1)) := by
  have hN := hO.1
  intro d
  induction d with
  | zero =>
    intro n x A hnd h1 hQ
    show wp_X4_settle_b2 (nI N) sets (pI l) Q _ _ _ _
    unfold wp_X4_settle_b2
    exact pk_le N n (fun _ => hQ A h1) (fun h => absurd h (by omega))
  | succ d ih =>
    intro n x A hnd h1 hQ
    show wp_X4_settle_b2 (nI N) sets (pI l) Q (wp_X4_settle_h2 (nI N) sets (pI l) Q (d + 1)) _ _ _
    unfold wp_X4_settle_b2
    refine pk_le N n (fun h => absurd h (by omega)) (fun _ => ?_)
    by_cases h0 : sI (waF N kd l x.1) = 0
    · refine br_t h0 ?_
      have e : rsf kd s1 s2 l t 0 N x = x := by
        apply rsf_skip
        intro i _ hi
        have := sI_z.mp h0 i (by omega)
        unfold waF at this
        cases h1 : stb (kd i) with
        | true => exact Or.inl rfl
        | false => right; simpa [show i < N by omega, h1] using this
      have q := hQ A (by rw [rit_id (d + 1) e]; exact h1)
      rw [rit_id (d + 1) e] at q
      exact q
    · refine br_f h0 ⟨N + 1, csettle_in hO hA hl t N 0 x A (by omega) h1 (fun A' hA' => ⟨fun _ v4 h4 => ?_, fun he => ?_⟩)⟩
      · rw [h4, nI_1]
        exact ih (n + 1) _ A' (by omega) hA' hQ
      · have e : rsf kd s1 s2 l t 0 N x = x := by
          apply rsf_id
          intro i _ hi hs
          have := sI_inj.mp he i (by omega)
          unfold waF at this
          simpa [show i < N by omega, hs] using this
        rw [e] at hA' ⊢
        have q := hQ A' (by rw [rit_id (d + 1) e]; exact hA')
        rw [rit_id (d + 1) e] at q
        exact q
/-- a slot's settling -/
def stl (kd s1 s2 l : Nat → Nat) (N t : Nat) (x : HX) : HX := rit kd s1 s2 l N t N x
theorem ev_csettle (hO : POK N kd s1 s2 ck) (hA : PA N kd s1 s2 kinds firsts seconds sets) (hl : ∀ i, l i < 4) (t : Nat) {x : HX} {A : Nat → Int32} {Q : (Nat → Int32) → Int32 → Prop} (h1 : AR (avF N x.1) A) (hQ : ∀ A', AR (avF N (stl kd s1 s2 l N t x).1) A' → Q A' (sI (waF N kd l (stl kd s1 s2 l N t x).1))) :
    wp_X4_settle A (sI (waF N kd l x.1)) (nI N) sets (pI l) Q := ⟨N + 1, csettle_out hO hA hl t N 0 x A (by omega) h1 hQ⟩
/-! the lowest of a set -/
theorem sN_id {n : Nat} (hn : n < 1024) : sN n.testBit 10 = n := by
  apply Nat.eq_of_testBit_eq
  intro i
  rw [sN_bit]
  by_cases h : i < 10
  · simp [h]
  · rw [Nat.testBit_lt_two_pow (Nat.lt_of_lt_of_le hn (by rw [show 1024 = 2 ^ 10 from rfl]; exact Nat.pow_le_pow_right (by decide) (by omega)))]
    simp
theorem sI_nI (f : Nat → Bool) : ∃ n, n < 1024 ∧ sI f = nI n ∧ ∀ i, i < 10 → n.testBit i = f i :=
  ⟨sN f 10, sN_lt f 10, rfl, fun i hi => by rw [sN_bit]; simp [hi]⟩
theorem cut_all : ∀ n, n < 1024 → nI n &&& (nI n - 1) = nI (sN (fun g => n.testBit g && decide (1 ≤ cN n.testBit g)) 10) := by decide +kernel
theorem sI_cut (f : Nat → Bool) : sI f &&& (sI f - 1) = sI (fun g => f g && decide (1 ≤ cN f g)) := by
  obtain ⟨n, hn, e, hb⟩ := sI_nI f
  rw [e, cut_all n hn]
  show sI _ = _
  apply sI_cong
  intro i hi
  rw [hb i hi, cN_cong (fun j hj => hb j (by omega))]
def bcF (p0 : Int32) : Int32 :=
  let v1 := (p0 - ((((p0).toUInt32 >>> (((1 : Int32)).toUInt32 &&& Int32.toUInt32 31)).toInt32) &&& (1431655765 : Int32)))
  let v2 := ((v1 &&& (858993459 : Int32)) + ((((v1).toUInt32 >>> (((2 : Int32)).toUInt32 &&& Int32.toUInt32 31)).toInt32) &&& (858993459 : Int32)))
  let v3 := ((v2 + (((v2).toUInt32 >>> (((4 : Int32)).toUInt32 &&& Int32.toUInt32 31)).toInt32)) &&& (252645135 : Int32))
  let v4 := (v3 + (((v3).toUInt32 >>> (((8 : Int32)).toUInt32 &&& Int32.toUInt32 31)).toInt32))
  let v5 := (v4 + (((v4).toUInt32 >>> (((16 : Int32)).toUInt32 &&& Int32.toUInt32 31)).toInt32))
  v5 &&& (63 : Int32)
theorem bc_all : ∀ n, n < 1024 → bcF (nI n) = nI (cN n.testBit 10) := by decide +kernel
theorem ev_bitCount {f : Nat → Bool} {Q : Int32 → Prop} (h : Q (nI (cN f 10))) : wp_J6_bitCount_0f7a4 (sI f) Q := by
  obtain ⟨n, hn, e, hb⟩ := sI_nI f
  unfold wp_J6_bitCount_0f7a4
  refine all_e (all_e (all_e (all_e (all_e ?_))))
  have e2 := bc_all n hn
  rw [cN_cong hb] at e2
  rw [← e2, ← e] at h
  exact h
def drp (k : Nat) (f : Nat → Bool) : Nat → Bool := fun g => f g && decide (k ≤ cN f g)
theorem drp_c (k : Nat) (f : Nat → Bool) : ∀ g, cN (drp k f) g = cN f g - k
  | 0 => by simp [cN]
  | g + 1 => by
    have ih := drp_c k f g
    rw [cN, cN, ih]
    unfold drp
    cases hf : f g with
    | false => simp
    | true =>
      by_cases h : k ≤ cN f g
      · simp [h]; omega
      · simp [h]; omega
theorem drp_s (k : Nat) (f : Nat → Bool) : (fun g => drp k f g && decide (1 ≤ cN (drp k f) g)) = drp (k + 1) f := by
  funext g
  rw [drp_c]
  unfold drp
  cases hf : f g with
  | false => simp
  | true =>
    by_cases h : k + 1 ≤ cN f g
    · simp [h, show k ≤ cN f g by omega, show 1 ≤ cN f g - k by omega]
    · simp [h]; omega
theorem lowest_loop {f : Nat → Bool} {p : Nat} (hp : p < 100) {Q : Int32 → Prop} (hQ : Q (sI (low f p))) :
    ∀ (d k : Nat), k + d = p → wp_X9_lowestOf_h4 (sI f) (nI p) Q (d + 1) (sI (drp k f)) (nI k) := by
  intro d
  induction d with
  | zero =>
    intro k hkd
    show wp_X9_lowestOf_b4 _ _ _ _ _ _
    unfold wp_X9_lowestOf_b4 wp_X9_lowestOf_b25
    refine pk_le p k (fun _ => ?_) (fun h => absurd h (by omega))
    rw [sI_dif]
    have e : sI (fun i => f i && !drp k f i) = sI (low f p) := by
      apply sI_cong
      intro i _
      unfold low drp
      cases f i with
      | false => simp
      | true =>
        have : p = k := by omega
        subst this
        by_cases h : p ≤ cN f i
        · simp [h]
        · simp [h]; omega
    rw [e]; exact hQ
  | succ d ih =>
    intro k hkd
    show wp_X9_lowestOf_b4 _ _ _ (wp_X9_lowestOf_h4 (sI f) (nI p) Q (d + 1)) _ _
    unfold wp_X9_lowestOf_b4 wp_X9_lowestOf_b25
    refine pk_le p k (fun h => absurd h (by omega)) (fun _ => ?_)
    by_cases h0 : sI (drp k f) = 0
    · refine br_t h0 ?_
      rw [sI_dif]
      have e : sI (fun i => f i && !drp k f i) = sI (low f p) := by
        apply sI_cong
        intro i hi
        have := sI_z.mp h0 i hi
        rw [this]
        unfold low
        unfold drp at this
        cases hf : f i with
        | false => simp
        | true =>
          rw [hf] at this
          have h2 : cN f i < k := by simpa using this
          simp [show cN f i < p by omega]
      rw [e]; exact hQ
    · refine br_f h0 (all_e (all_e ?_))
      rw [nI_1, sI_cut, drp_s]
      exact ih (k + 1) (by omega)
theorem ev_lowestOf {f : Nat → Bool} {p : Nat} (hp : p < 100) {Q : Int32 → Prop} (hQ : Q (sI (low f p))) : wp_X9_lowestOf (sI f) (nI p) Q := by
  have := lowest_loop hp hQ p 0 (by omega)
  have e : sI (drp 0 f) = sI f := by apply sI_cong; intro i _; unfold drp; simp
  rw [e] at this
  exact ⟨p + 1, this⟩
theorem low_cong {f g : Nat → Bool} (h : ∀ i, i < 10 → f i = g i) (p : Nat) : ∀ i, i < 10 → low f p i = low g p i := by
  intro i hi
  unfold low
  rw [h i hi, cN_cong (fun j hj => h j (by omega))]
theorem ev_offer {av : Nat → Nat → Bool} {A W : Nat → Int32} {a b p : Nat} {Q : Int32 → Prop} (hA : AR (avF N av) A) (hW : AR (waP kd s1 s2 l N) W) (ha : a < 4) (hb : b < 4) (hp : p < 100) (hQ : Q (sI (ofr N kd s1 s2 l p av a b))) : wp_X4_offer A W (nI a) (nI b) (nI p) Q := by
  unfold wp_X4_offer
  refine ev_cell ha (by omega) (ev_cell hb (by omega) (ev_cell hb (by omega) ?_))
  rw [hA a ha, hA b hb, hW b hb, sI_dif, sI_and]
  refine ev_lowestOf hp ?_
  have e : sI (low (fun i => (avF N av a i && !avF N av b i) && waP kd s1 s2 l N b i) p) = sI (ofr N kd s1 s2 l p av a b) := by
    apply sI_cong
    apply low_cong
    intro i _
    unfold avF
    by_cases hi : i < N
    · simp [hi, Bool.and_assoc]
    · simp [hi]
  rw [e]; exact hQ
/-! sending -/
def tkA (N : Nat) (av co : Nat → Nat → Bool) : Nat → Nat → Bool := fun c i => (decide (i < N) && av c i) || co c i
theorem send3 {wanted : Nat → Int32} {p2 ch : Int32} {av co : Nat → Nat → Bool} {Co : Nat → Int32} {num : Nat} (hn : num < 2 ^ 20) {all ls se ta : Int32} {Q : Int32 → (Nat → Int32) → (Nat → Int32) → Int32 → Int32 → Int32 → Prop} (hCo : AR co Co)
    (hQ : ∀ A', AR (fun c i => av c i || co c i) A' → if num = 0 then Q 0 A' Co ls se ta else Q 1 A' Co all (se + nI num) (ta + 1)) :
    ∀ (d c : Nat) (A : Nat → Int32), c + d = 4 → AR (fun c' i => av c' i || (decide (c' < c) && co c' i)) A → wp_X4_sends_h147 wanted ch p2 Q (d + 1) all (nI num) (nI c) A Co ls se ta := by
  intro d
  induction d with
  | zero =>
    intro c A hcd hA
    show wp_X4_sends_b147 wanted ch p2 Q _ _ _ _ _ _ _ _ _
    unfold wp_X4_sends_b147 wp_X4_sends_b207
    refine pk_le 4 c (fun _ => ?_) (fun h => absurd h (by omega))
    have q := hQ A (hA.cong (by intro c' i hc' _; simp [show c' < c by omega]))
    refine pk_le num 0 (fun h => ?_) (fun h => ?_)
    · rw [if_pos (by omega)] at q
      exact pk_le num 0 (fun _ => q) (fun h => absurd h (by omega))
    · rw [if_neg (by omega)] at q
      exact all_e (all_e (pk_le num 0 (fun h => absurd h (by omega)) (fun _ => q)))
  | succ d ih =>
    intro c A hcd hA
    show wp_X4_sends_b147 wanted ch p2 Q (wp_X4_sends_h147 wanted ch p2 Q (d + 1)) _ _ _ _ _ _ _ _
    unfold wp_X4_sends_b147
    have hc : vp_in (nI c) 4 := vp_in_nI (by omega) (by omega)
    refine pk_le 4 c (fun h => absurd h (by omega)) (fun _ => ⟨hc, hc, all_e ⟨hc, all_e (all_e ?_)⟩⟩)
    rw [nI_1, nI_clamp (by omega)]
    refine ih (c + 1) _ (by omega) ?_
    intro c' hc'
    by_cases e : c' = c
    · subst e
      rw [upd_s, hA _ hc', hCo _ hc', sI_or]
      apply sI_cong; intro i _; simp
    · rw [upd_n e, hA c' hc']
      apply sI_cong; intro i _
      have : (c' < c + 1) = (c' < c) := by simp; omega
      simp [this]
theorem s1c_n {p : Nat} {av : Nat → Nat → Bool} {c : Nat} {y : CX} : (s1c N kd s1 s2 l p av c y).2.1 ≤ y.2.1 + 20 := by
  have h1 := cN_le (ofr N kd s1 s2 l p av c (c + 1)) 10
  have h2 := cN_le (ofr N kd s1 s2 l p av (c + 1) c) 10
  show y.2.1 + (_ + _) ≤ _
  omega
theorem send2 {av : Nat → Nat → Bool} {A W : Nat → Int32} {p : Nat} (hp : p < 100) (hC : 1 ≤ C ∧ C ≤ 4) (hA : AR (avF N av) A) (hW : AR (waP kd s1 s2 l N) W) {ls se ta : Int32} {Q : Int32 → (Nat → Int32) → (Nat → Int32) → Int32 → Int32 → Int32 → Prop} :
    ∀ (d c : Nat) (y : CX) (Co : Nat → Int32), c + d = C - 1 → AR y.1 Co → y.2.1 ≤ 20 * c → (∀ Co' A', AR (fun c' i => avF N av c' i || (scs N kd s1 s2 l p av c d y).1 c' i) A' → if (scs N kd s1 s2 l p av c d y).2.1 = 0 then Q 0 A' Co' ls se ta else Q 1 A' Co' (sI (scs N kd s1 s2 l p av c d y).2.2) (se + nI (scs N kd s1 s2 l p av c d y).2.1) (ta + 1)) →
      wp_X4_sends_h31 W (nI C) (nI p) Q (d + 1) (sI y.2.2) (nI y.2.1) (nI c) A Co ls se ta := by
  intro d
  induction d with
  | zero =>
    intro c y Co hcd hCo hn hQ
    show wp_X4_sends_b31 W (nI C) (nI p) Q _ _ _ _ _ _ _ _ _
    unfold wp_X4_sends_b31
    rw [nI_1]
    refine pk_le C (c + 1) (fun _ => ⟨5, ?_⟩) (fun h => absurd h (by omega))
    exact send3 (num := y.2.1) (by omega) hCo (hQ Co) 4 0 A (by omega) (hA.cong (by intro c' i _ _; simp))
  | succ d ih =>
    intro c y Co hcd hCo hn hQ
    show wp_X4_sends_b31 W (nI C) (nI p) Q (wp_X4_sends_h31 W (nI C) (nI p) Q (d + 1)) _ _ _ _ _ _ _ _
    unfold wp_X4_sends_b31
    rw [nI_1]
    refine pk_le C (c + 1) (fun h => absurd h (by omega)) (fun _ => ?_)
    refine ev_offer hA hW (by omega) (by omega) hp (ev_offer hA hW (by omega) (by omega) hp ?_)
    refine ev_cell (by omega) (by omega) (ev_setCell (by omega) (by omega) (ev_cell (by omega) (by omega) (ev_setCell (by omega) (by omega) (all_e (ev_bitCount (ev_bitCount (all_e (all_e ?_))))))))
    rw [nI_add, nI_add, sI_or, sI_or]
    refine ih (c + 1) (s1c N kd s1 s2 l p av c y) _ (by omega) ?_ (by have := s1c_n (N := N) (kd := kd) (s1 := s1) (s2 := s2) (l := l) (p := p) (av := av) (c := c) (y := y); omega) hQ
    intro c' hc'
    show _ = sI (fun g => y.1 c' g || ((c' == c + 1 && ofr N kd s1 s2 l p av c (c + 1) g) || (c' == c && ofr N kd s1 s2 l p av (c + 1) c g)))
    by_cases e1 : c' = c
    · subst e1
      rw [upd_s, upd_n (by omega), hCo _ hc', sI_or]
      apply sI_cong; intro i _
      rw [show (c' == c' + 1) = false by simp]; simp
    · rw [upd_n e1]
      by_cases e2 : c' = c + 1
      · subst e2
        rw [upd_s, hCo _ hc', sI_or]
        apply sI_cong; intro i _
        rw [show (c + 1 == c) = false by simp]; simp
      · rw [upd_n e2, hCo _ hc']
        apply sI_cong; intro i _
        rw [show (c' == c) = false by simpa using e1, show (c' == c + 1) = false by simpa using e2]; simp
theorem send1 {W : Nat → Int32} {ch p2 all num ls se ta : Int32} {A : Nat → Int32} {Q : Int32 → (Nat → Int32) → (Nat → Int32) → Int32 → Int32 → Int32 → Prop} (hQ : ∀ Co, (∀ c, c < 4 → Co c = 0) → ∃ n, wp_X4_sends_h31 W ch p2 Q n all num 0 A Co ls se ta) :
    ∀ (d c : Nat) (Co : Nat → Int32), c + d = 4 → (∀ i, i < c → Co i = 0) → wp_X4_sends_h8 W ch p2 Q (d + 1) all num (nI c) A Co ls se ta := by
  intro d
  induction d with
  | zero =>
    intro c Co hcd h1
    show wp_X4_sends_b8 W ch p2 Q _ _ _ _ _ _ _ _ _
    unfold wp_X4_sends_b8
    exact pk_le 4 c (fun _ => hQ Co (fun i hi => h1 i (by omega))) (fun h => absurd h (by omega))
  | succ d ih =>
    intro c Co hcd h1
    show wp_X4_sends_b8 W ch p2 Q (wp_X4_sends_h8 W ch p2 Q (d + 1)) _ _ _ _ _ _ _ _
    unfold wp_X4_sends_b8
    have hc : vp_in (nI c) 4 := vp_in_nI (by omega) (by omega)
    refine pk_le 4 c (fun h => absurd h (by omega)) (fun _ => ⟨hc, all_e (all_e ?_)⟩)
    rw [nI_1, nI_clamp (by omega)]
    refine ih (c + 1) _ (by omega) (fun i hi => ?_)
    by_cases e : i = c
    · rw [e, upd_s]
    · rw [upd_n e]; exact h1 i (by omega)
theorem ev_sends {av : Nat → Nat → Bool} {A W Co : Nat → Int32} {p : Nat} (hp : p < 100) (hC : 1 ≤ C ∧ C ≤ 4) (hA : AR (avF N av) A) (hW : AR (waP kd s1 s2 l N) W) {ls se ta : Int32} {Q : Int32 → (Nat → Int32) → (Nat → Int32) → Int32 → Int32 → Int32 → Prop}
    (hQ : ∀ Co' A', AR (fun c' i => avF N av c' i || (snds N C kd s1 s2 l p av).1 c' i) A' → if (snds N C kd s1 s2 l p av).2.1 = 0 then Q 0 A' Co' ls se ta else Q 1 A' Co' (sI (snds N C kd s1 s2 l p av).2.2) (se + nI (snds N C kd s1 s2 l p av).2.1) (ta + 1)) :
    wp_X4_sends A Co ls se ta W (nI C) (nI p) Q := by
  refine ⟨5, send1 (fun Co hCo => ⟨C - 1 + 1, ?_⟩) 4 0 Co (by omega) (fun i hi => absurd hi (by omega))⟩
  have := send2 (C := C) (c := 0) (d := C - 1) (y := cx0) (Co := Co) (kd := kd) (s1 := s1) (s2 := s2) (l := l) hp hC hA hW (ls := ls) (se := se) (ta := ta) (Q := Q) (by omega) (fun c hc => by rw [hCo c hc]; exact sI_none.symm) (by show 0 ≤ _; omega) hQ
  have e : sI cx0.2.2 = 0 := sI_none
  rw [e] at this
  exact this
end
