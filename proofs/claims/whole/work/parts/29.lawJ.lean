/-! what a gate depends on -/
def rch (kd s1 s2 : Nat → Nat) : Nat → Nat → Nat → Prop
  | 0, g, x => x = g
  | n + 1, g, x => ∃ y, rch kd s1 s2 n g y ∧ tF kd s1 s2 y x = true
def a1_ (kd s1 s2 : Nat → Nat) (x : Nat) (A : Nat → Bool) : Nat → Bool := if A x = true then fun i => A i || tF kd s1 s2 x i else A
def asf (kd s1 s2 : Nat → Nat) : Nat → Nat → (Nat → Bool) → (Nat → Bool)
  | _, 0, A => A
  | x, d + 1, A => asf kd s1 s2 (x + 1) d (a1_ kd s1 s2 x A)
section
variable {N C : Nat} {kd s1 s2 ck l : Nat → Nat} {kinds firsts seconds sets kind source second page : Nat → Int32}
theorem a1_m {x i : Nat} {A : Nat → Bool} (h : A i = true) : a1_ kd s1 s2 x A i = true := by
  unfold a1_
  split
  · show (_ || _) = true; rw [h]; rfl
  · exact h
theorem asf_m : ∀ (d x : Nat) {A : Nat → Bool} {i : Nat}, A i = true → asf kd s1 s2 x d A i = true
  | 0, _, _, _, h => h
  | d + 1, x, _, _, h => asf_m d (x + 1) (a1_m h)
theorem asf_src {y i : Nat} (ht : tF kd s1 s2 y i = true) : ∀ (d x : Nat) {A : Nat → Bool}, x ≤ y → y < x + d → A y = true → asf kd s1 s2 x d A i = true
  | 0, _, _, h1, h2, _ => absurd h2 (by omega)
  | d + 1, x, A, h1, h2, h => by
    show asf kd s1 s2 (x + 1) d (a1_ kd s1 s2 x A) i = true
    by_cases e : x = y
    · subst e
      apply asf_m
      unfold a1_
      rw [if_pos h]
      show (_ || _) = true
      rw [ht, Bool.or_true]
    · exact asf_src ht d (x + 1) (by omega) (by omega) (a1_m h)
/-- sound: all in it are reached -/
def snd_ (N : Nat) (kd s1 s2 : Nat → Nat) (g : Nat) (A : Nat → Bool) : Prop := A g = true ∧ ∀ i, A i = true → i < N ∧ ∃ n, rch kd s1 s2 n g i
theorem tF_lt (hO : POK N kd s1 s2 ck) {y x : Nat} (hy : y < N) (h : tF kd s1 s2 y x = true) : x < N := by
  obtain ⟨_, h1, h2, _⟩ := hO.2 y hy
  unfold tF at h
  simp only [Bool.or_eq_true, Bool.and_eq_true, Bool.not_eq_true', beq_eq_false_iff_ne, beq_iff_eq] at h
  rcases h with ⟨a, b⟩ | ⟨a, b⟩
  · rw [b]; exact h1 a
  · rw [b]; exact h2 a
theorem rch_lt (hO : POK N kd s1 s2 ck) {g : Nat} (hg : g < N) : ∀ n x, rch kd s1 s2 n g x → x < N
  | 0, x, h => by rw [show x = g from h]; exact hg
  | n + 1, x, ⟨y, hy, ht⟩ => tF_lt hO (rch_lt hO hg n y hy) ht
theorem a1_snd (hO : POK N kd s1 s2 ck) {g x : Nat} {A : Nat → Bool} (h : snd_ N kd s1 s2 g A) : snd_ N kd s1 s2 g (a1_ kd s1 s2 x A) := by
  refine ⟨a1_m h.1, fun i hi => ?_⟩
  unfold a1_ at hi
  split at hi
  · rename_i hx
    have hi : (A i || tF kd s1 s2 x i) = true := hi
    rw [Bool.or_eq_true] at hi
    rcases hi with hi | hi
    · exact h.2 i hi
    · obtain ⟨hxN, n, hn⟩ := h.2 x hx
      exact ⟨tF_lt hO hxN hi, n + 1, x, hn, hi⟩
  · exact h.2 i hi
theorem asf_snd (hO : POK N kd s1 s2 ck) {g : Nat} : ∀ (d x : Nat) {A : Nat → Bool}, snd_ N kd s1 s2 g A → snd_ N kd s1 s2 g (asf kd s1 s2 x d A)
  | 0, _, _, h => h
  | d + 1, x, _, h => asf_snd hO d (x + 1) (a1_snd hO h)
/-- all that is reached -/
def RA (N : Nat) (kd s1 s2 : Nat → Nat) (g : Nat) (A : Nat → Bool) : Prop := ∀ x, A x = true ↔ ∃ n, rch kd s1 s2 n g x
theorem RA_of (hN : N ≤ 10) {g : Nat} {A : Nat → Bool} (h : snd_ N kd s1 s2 g A) (hO : POK N kd s1 s2 ck) (he : ∀ i, i < 10 → asf kd s1 s2 0 N A i = A i) : RA N kd s1 s2 g A := by
  intro x
  refine ⟨fun hx => (h.2 x hx).2, ?_⟩
  rintro ⟨n, hn⟩
  revert x
  induction n with
  | zero => intro x hn; rw [show x = g from hn]; exact h.1
  | succ n ih =>
    rintro x ⟨y, hy, ht⟩
    have hA := ih y hy
    have hyN := (h.2 y hA).1
    have hxN := tF_lt hO hyN ht
    rw [← he x (by omega)]
    exact asf_src ht N 0 (by omega) (by omega) hA
theorem before_in (hO : POK N kd s1 s2 ck) (hA : PA N kd s1 s2 kinds firsts seconds sets) {p1 x3 x4 : Int32} {Q : Int32 → Prop} {k7 : Int32 → Int32 → Prop} :
    ∀ (d x : Nat) (A : Nat → Bool), x + d = N → ((¬ sI (asf kd s1 s2 x d A) = x4 → ∀ v4, v4 = x3 + 1 → k7 (sI (asf kd s1 s2 x d A)) v4) ∧ (sI (asf kd s1 s2 x d A) = x4 → Q (sI (asf kd s1 s2 x d A)))) → wp_X2_allBefore_h21 (nI N) sets p1 Q k7 (d + 1) (sI A) x3 x4 (nI x) := by
  have hN := hO.1
  intro d
  induction d with
  | zero =>
    intro x A hxd hQ
    show wp_X2_allBefore_b21 (nI N) sets p1 Q k7 _ _ _ _ _
    unfold wp_X2_allBefore_b21
    exact pk_le N x (fun _ => hQ) (fun h => absurd h (by omega))
  | succ d ih =>
    intro x A hxd hQ
    show wp_X2_allBefore_b21 (nI N) sets p1 Q k7 (wp_X2_allBefore_h21 (nI N) sets p1 Q k7 (d + 1)) _ _ _ _
    unfold wp_X2_allBefore_b21 wp_X2_allBefore_b49
    have hx : x < N := by omega
    refine pk_le N x (fun h => absurd h (by omega)) (fun _ => ev_bit (by omega) ?_)
    cases hax : A x with
    | false =>
      refine br_t (by rw [sI_andb (by omega)]; exact hax) (all_e ?_)
      rw [nI_1]
      have e : a1_ kd s1 s2 x A = A := by unfold a1_; rw [if_neg (by rw [hax]; decide)]
      have := ih (x + 1) (a1_ kd s1 s2 x A) (by omega) hQ
      rw [e] at this
      exact this
    | true =>
      refine br_f (by rw [sI_andb (by omega), hax]; decide) (ev_sourcesOf (by omega) (all_e (all_e ?_)))
      rw [nI_1, (hA x hx).2.2.2, sI_or]
      have e : a1_ kd s1 s2 x A = fun i => A i || tF kd s1 s2 x i := by unfold a1_; rw [if_pos hax]
      have := ih (x + 1) (a1_ kd s1 s2 x A) (by omega) hQ
      rw [e] at this
      exact this
theorem before_out (hO : POK N kd s1 s2 ck) (hA : PA N kd s1 s2 kinds firsts seconds sets) {g : Nat} {p1 : Int32} {Q : Int32 → Prop} (hQ : ∀ A, RA N kd s1 s2 g A → (∀ i, A i = true → i < N) → Q (sI A)) :
    ∀ (d n : Nat) (A : Nat → Bool), n + d = N → snd_ N kd s1 s2 g A → cN (fun i => !A i) N < d → wp_X2_allBefore_h7 (nI N) sets p1 Q (d + 1) (sI A) (nI n) := by
  have hN := hO.1
  intro d
  induction d with
  | zero => intro n A hnd hs hlt; exact absurd hlt (Nat.not_lt_zero _)
  | succ d ih =>
    intro n A hnd hs hlt
    show wp_X2_allBefore_b7 (nI N) sets p1 Q (wp_X2_allBefore_h7 (nI N) sets p1 Q (d + 1)) _ _
    unfold wp_X2_allBefore_b7
    have hs' := asf_snd hO N 0 hs
    refine pk_le N n (fun h => absurd h (by omega)) (fun _ => ⟨N + 1, before_in hO hA N 0 A (by omega) ⟨fun hne v4 h4 => ?_, fun he => ?_⟩⟩)
    · rw [h4, nI_1]
      refine ih (n + 1) _ (by omega) hs' ?_
      have hex : ∃ i, i < N ∧ A i = false ∧ asf kd s1 s2 0 N A i = true := by
        apply Classical.byContradiction
        intro hno
        apply hne
        apply sI_cong
        intro i hi
        cases ha : A i with
        | true => exact asf_m N 0 ha
        | false =>
          cases hb : asf kd s1 s2 0 N A i with
          | false => rfl
          | true => exact absurd ⟨i, (hs'.2 i hb).1, ha, hb⟩ hno
      obtain ⟨i, hi, h1, h2⟩ := hex
      have := cN_lt (f := fun i => !asf kd s1 s2 0 N A i) (g := fun i => !A i) (n := N) (fun j _ hj => by
        have hj : (!asf kd s1 s2 0 N A j) = true := hj
        show (!A j) = true
        cases ha : A j with
        | false => rfl
        | true => rw [asf_m N 0 ha] at hj; cases hj) i hi (by show (!asf kd s1 s2 0 N A i) = false; rw [h2]; rfl) (by show (!A i) = true; rw [h1]; rfl)
      omega
    · have e := sI_inj.mp he
      rw [he]
      exact hQ A (RA_of hN hs hO e) (fun i hi => (hs.2 i hi).1)
theorem ev_allBefore (hO : POK N kd s1 s2 ck) (hA : PA N kd s1 s2 kinds firsts seconds sets) {g : Nat} (hg : g < N) {Q : Int32 → Prop} (hQ : ∀ A, RA N kd s1 s2 g A → (∀ i, A i = true → i < N) → Q (sI A)) : wp_X2_allBefore (nI N) sets (nI g) Q := by
  have hN := hO.1
  unfold wp_X2_allBefore
  refine ev_bit (by omega) ⟨N + 1, before_out hO hA hQ N 0 _ (by omega) ⟨by simp, fun i hi => ?_⟩ ?_⟩
  · have : i = g := by simpa using hi
    subst this
    exact ⟨hg, 0, rfl⟩
  · have h1 := cN_lt (f := fun i => !(i == g)) (g := fun _ => true) (n := N) (fun _ _ _ => rfl) g hg (by simp) rfl
    have h2 := cN_le (fun _ => true) N
    omega
/-! the chips of these gates -/
def chF (A : Nat → Bool) (l : Nat → Nat) : Nat → Nat → Bool
  | 0, _ => false
  | i + 1, c => chF A l i c || (A i && c == l i)
theorem chF_t {A : Nat → Bool} {c : Nat} : ∀ {n : Nat}, chF A l n c = true ↔ ∃ i, i < n ∧ A i = true ∧ c = l i
  | 0 => ⟨fun h => absurd (show false = true from h) (by decide), fun ⟨i, hi, _⟩ => absurd hi (Nat.not_lt_zero i)⟩
  | n + 1 => by
    rw [chF, Bool.or_eq_true, Bool.and_eq_true, beq_iff_eq, chF_t (n := n)]
    constructor
    · rintro (⟨i, h1, h2, h3⟩ | ⟨h2, h3⟩)
      · exact ⟨i, by omega, h2, h3⟩
      · exact ⟨n, by omega, h2, h3⟩
    · rintro ⟨i, h1, h2, h3⟩
      by_cases e : i = n
      · subst e; exact Or.inr ⟨h2, h3⟩
      · exact Or.inl ⟨i, by omega, h2, h3⟩
theorem chips_in (hN : N ≤ 10) (hl : ∀ i, l i < 4) {A : Nat → Bool} {sets : Nat → Int32} {p1 : Int32} {Q : Int32 → Prop} (hQ : Q (sI (chF A l N))) :
    ∀ (d i : Nat), i + d = N → wp_X9_chipsNeeded_h14 (pI l) (nI N) sets p1 Q (d + 1) (sI A) (sI (chF A l i)) (nI i) := by
  intro d
  induction d with
  | zero =>
    intro i hid
    show wp_X9_chipsNeeded_b14 (pI l) (nI N) sets p1 Q _ _ _ _
    unfold wp_X9_chipsNeeded_b14
    have e : i = N := by omega
    subst e
    exact pk_le i i (fun _ => hQ) (fun h => absurd h (by omega))
  | succ d ih =>
    intro i hid
    show wp_X9_chipsNeeded_b14 (pI l) (nI N) sets p1 Q (wp_X9_chipsNeeded_h14 (pI l) (nI N) sets p1 Q (d + 1)) _ _ _
    unfold wp_X9_chipsNeeded_b14 wp_X9_chipsNeeded_b53
    refine pk_le N i (fun h => absurd h (by omega)) (fun _ => ev_bit (by omega) ?_)
    have hli := hl i
    cases ha : A i with
    | false =>
      refine br_t (by rw [sI_andb (by omega)]; exact ha) (all_e ?_)
      have e : sI (chF A l i) = sI (chF A l (i + 1)) := by
        apply sI_cong; intro c _; rw [chF, ha]; simp
      rw [nI_1, e]
      exact ih (i + 1) (by omega)
    | true =>
      refine br_f (by rw [sI_andb (by omega), ha]; decide) (ev_chipIn hl (by omega) (all_e (all_e ?_)))
      have e : sI (chF A l i) ||| sI (fun c => c == l i) = sI (chF A l (i + 1)) := by
        rw [sI_or]; apply sI_cong; intro c _; rw [chF, ha, Bool.true_and]
      rw [nI_1, sI_bit (l i) (by omega), e]
      exact ih (i + 1) (by omega)
theorem chips_0 (hN : N ≤ 10) (hl : ∀ i, l i < 4) {A : Nat → Bool} {sets : Nat → Int32} {p1 : Int32} {Q : Int32 → Prop} (hQ : Q (sI (chF A l N))) : ∃ n, wp_X9_chipsNeeded_h14 (pI l) (nI N) sets p1 Q n (sI A) 0 0 := by
  have := chips_in (sets := sets) (p1 := p1) hN hl hQ N 0 (by omega)
  have e : sI (chF A l 0) = 0 := sI_none
  rw [e] at this
  exact ⟨N + 1, this⟩
/-- the chips needed by a gate, as a number -/
def NG (N C : Nat) (kd s1 s2 l : Nat → Nat) (g m : Nat) : Prop := m < 2 ^ C ∧ ∀ c, m.testBit c = true ↔ ∃ x n, rch kd s1 s2 n g x ∧ c = l x
theorem ng_ex (hO : POK N kd s1 s2 ck) (hC : C ≤ 4) (hl : ∀ i, l i < 4) (hlC : ∀ g, g < N → l g < C) {g : Nat} {A : Nat → Bool} (hR : RA N kd s1 s2 g A) (hb : ∀ i, A i = true → i < N) : NG N C kd s1 s2 l g (sN (chF A l N) C) ∧ sI (chF A l N) = sI (sN (chF A l N) C).testBit := by
  have hbit : ∀ c, (sN (chF A l N) C).testBit c = chF A l N c := by
    intro c
    rw [sN_bit]
    by_cases h : c < C
    · simp [h]
    · rw [decide_eq_false h, Bool.false_and]
      cases hh : chF A l N c with
      | false => rfl
      | true =>
        obtain ⟨i, h1, _, h3⟩ := chF_t.mp hh
        have := hlC i h1; omega
  refine ⟨⟨sN_lt _ _, fun c => ?_⟩, sI_cong (fun c _ => (hbit c).symm)⟩
  rw [hbit, chF_t]
  constructor
  · rintro ⟨i, h1, h2, h3⟩
    obtain ⟨n, hn⟩ := (hR i).mp h2
    exact ⟨i, n, hn, h3⟩
  · rintro ⟨x, n, hn, h3⟩
    have := (hR x).mpr ⟨n, hn⟩
    exact ⟨x, hb x this, this, h3⟩
theorem ng_uniq {g m m' : Nat} (h : NG N C kd s1 s2 l g m) (h' : NG N C kd s1 s2 l g m') : m = m' := by
  apply Nat.eq_of_testBit_eq
  intro c
  have e := (h.2 c).trans (h'.2 c).symm
  cases h1 : m.testBit c with
  | true => exact (e.mp h1).symm
  | false =>
    cases h2 : m'.testBit c with
    | false => rfl
    | true => rw [e.mpr h2] at h1; cases h1
def uF_ (p m : Nat) : Nat := if m.testBit p = true then 12 / cN m.testBit 10 else 0
theorem shr_bit {f : Nat → Bool} {p : Nat} (hp : p < 10) : ((((sI f).toUInt32 >>> ((nI p).toUInt32 &&& Int32.toUInt32 31)).toInt32) &&& 1) = nI (if f p = true then 1 else 0) := by
  rw [and_1, b_ushr p (by omega), bt_sI]
  simp [hp]
theorem shareA_loop (hO : POK N kd s1 s2 ck) (hA : PA N kd s1 s2 kinds firsts seconds sets) (hC : C ≤ 4) (hl : ∀ i, l i < 4) (hlC : ∀ g, g < N → l g < C) {mg : Nat → Nat} (hm : ∀ g, g < N → NG N C kd s1 s2 l g (mg g)) {p : Nat} (hp : p < C) {ch u : Int32} {Q : Int32 → Prop} (hQ : Q (frI (sumN (fun g => uF_ p (mg g)) N) 12 u)) :
    ∀ (d g : Nat), g + d = N → wp_X9_share_h15 (pI l) ch (nI N) sets (nI p) u Q (d + 1) (nI (sumN (fun g => uF_ p (mg g)) g)) (nI g) := by
  have hN := hO.1
  have hub : ∀ m, uF_ p m ≤ 12 := by intro m; unfold uF_; split; exact Nat.div_le_self _ _; omega
  have hsb : ∀ g, sumN (fun g => uF_ p (mg g)) g ≤ 12 * g := by
    intro g
    induction g with
    | zero => exact Nat.le_refl _
    | succ g ih => rw [sumN]; have := hub (mg g); omega
  intro d
  induction d with
  | zero =>
    intro g hgd
    show wp_X9_share_b15 (pI l) ch (nI N) sets (nI p) u Q _ _ _
    unfold wp_X9_share_b15
    have e : g = N := by omega
    subst e
    have := hsb g
    exact pk_le g g (fun _ => ev_cfraction (b := 12) (by omega) (by omega) (by omega) hQ) (fun h => absurd h (by omega))
  | succ d ih =>
    intro g hgd
    show wp_X9_share_b15 (pI l) ch (nI N) sets (nI p) u Q (wp_X9_share_h15 (pI l) ch (nI N) sets (nI p) u Q (d + 1)) _ _
    unfold wp_X9_share_b15 wp_X9_share_b65 wp_X9_chipsNeeded
    have hg : g < N := by omega
    refine pk_le N g (fun h => absurd h (by omega)) (fun _ => ev_allBefore hO hA hg (fun A hR hb => chips_0 hN hl ?_))
    obtain ⟨ng, es⟩ := ng_ex hO hC hl hlC hR hb
    have em : sN (chF A l N) C = mg g := ng_uniq ng (hm g hg)
    rw [em] at es
    rw [es]
    refine ev_bitCount ?_
    rw [shr_bit (by omega)]
    have hcl := cN_le (mg g).testBit 10
    have next : ∀ v : Int32, v = nI (sumN (fun g => uF_ p (mg g)) (g + 1)) → ∀ v1, v1 = nI g + 1 → wp_X9_share_h15 (pI l) ch (nI N) sets (nI p) u Q (d + 1) v v1 := by
      intro v hv v1 h1
      rw [hv, h1, nI_1]
      exact ih (g + 1) (by omega)
    cases hb : (mg g).testBit p with
    | false =>
      refine bn_f (by decide) (next _ ?_)
      rw [sumN, uF_, hb]; rfl
    | true =>
      have hpos : 0 < cN (mg g).testBit 10 := by
        rcases Nat.eq_zero_or_pos (cN (mg g).testBit 10) with h | h
        · rw [cN_zero.mp h p (by omega)] at hb; cases hb
        · exact h
      refine bn_t rfl (pk_le (cN (mg g).testBit 10) 0 (fun h => absurd h (by omega)) (fun _ => ⟨by rw [← nI_0, nI_eq (by omega) (by omega)]; omega, ?_⟩))
      rw [show (12 : Int32) / nI (cN (mg g).testBit 10) = nI (12 / cN (mg g).testBit 10) from pk_div (a := 12) (by omega) hpos (by omega), nI_add]
      refine all_e (next _ ?_)
      rw [sumN, uF_, hb, if_pos rfl]
/-! the reference: what is there by some chips -/
def b1_ (kd s1 s2 : Nat → Nat) (x : Nat) (R : Nat → Bool) : Nat → Bool := if (kd x ≠ 0 → R (s1 x) = true) ∧ (two (kd x) = true → R (s2 x) = true) then R else upB R x false
def bsf (kd s1 s2 : Nat → Nat) : Nat → Nat → (Nat → Bool) → (Nat → Bool)
  | _, 0, R => R
  | x, d + 1, R => bsf kd s1 s2 (x + 1) d (b1_ kd s1 s2 x R)
def bit_ (kd s1 s2 : Nat → Nat) (N : Nat) : Nat → (Nat → Bool) → (Nat → Bool)
  | 0, R => R
  | n + 1, R => bit_ kd s1 s2 N n (bsf kd s1 s2 0 N R)
theorem b1_m {x i : Nat} {R : Nat → Bool} (h : b1_ kd s1 s2 x R i = true) : R i = true := by
  unfold b1_ at h
  split at h
  · exact h
  · by_cases e : i = x
    · subst e; rw [upB_s] at h; cases h
    · rw [upB_n e] at h; exact h
theorem bsf_m : ∀ (d x : Nat) {R : Nat → Bool} {i : Nat}, bsf kd s1 s2 x d R i = true → R i = true
  | 0, _, _, _, h => h
  | d + 1, x, _, _, h => b1_m (bsf_m d (x + 1) h)
theorem bit_m : ∀ (n : Nat) {R : Nat → Bool} {i : Nat}, bit_ kd s1 s2 N n R i = true → R i = true
  | 0, _, _, h => h
  | n + 1, _, _, h => bsf_m N 0 (bit_m n h)
theorem src_t {y : Nat} {P : Nat → Prop} : (∀ x, tF kd s1 s2 y x = true → P x) ↔ (kd y ≠ 0 → P (s1 y)) ∧ (two (kd y) = true → P (s2 y)) := by
  constructor
  · intro h
    refine ⟨fun h0 => h _ ?_, fun h2 => h _ ?_⟩
    · unfold tF; simp [h0]
    · unfold tF; simp [h2]
  · rintro ⟨h1, h2⟩ x hx
    unfold tF at hx
    simp only [Bool.or_eq_true, Bool.and_eq_true, Bool.not_eq_true', beq_eq_false_iff_ne, beq_iff_eq] at hx
    rcases hx with ⟨a, b⟩ | ⟨a, b⟩
    · rw [b]; exact h1 a
    · rw [b]; exact h2 a
/-- the good ones stay -/
theorem b1_good {G : Nat → Prop} (hG : ∀ y x, G y → tF kd s1 s2 y x = true → G x) {x : Nat} {R : Nat → Bool} (h : ∀ i, G i → R i = true) : ∀ i, G i → b1_ kd s1 s2 x R i = true := by
  intro i hi
  unfold b1_
  split
  · exact h i hi
  · rename_i hc
    by_cases e : i = x
    · subst e
      exact absurd ((src_t (P := fun z => R z = true)).mp (fun z hz => h z (hG i z hi hz))) hc
    · rw [upB_n e]; exact h i hi
theorem bsf_good {G : Nat → Prop} (hG : ∀ y x, G y → tF kd s1 s2 y x = true → G x) : ∀ (d x : Nat) {R : Nat → Bool}, (∀ i, G i → R i = true) → ∀ i, G i → bsf kd s1 s2 x d R i = true
  | 0, _, _, h => h
  | d + 1, x, _, h => bsf_good hG d (x + 1) (b1_good hG h)
theorem bit_good {G : Nat → Prop} (hG : ∀ y x, G y → tF kd s1 s2 y x = true → G x) : ∀ (n : Nat) {R : Nat → Bool}, (∀ i, G i → R i = true) → ∀ i, G i → bit_ kd s1 s2 N n R i = true
  | 0, _, h => h
  | n + 1, _, h => bit_good hG n (bsf_good hG N 0 h)
/-- what stays has its sources -/
theorem bsf_closed : ∀ (d x : Nat) {R : Nat → Bool}, (∀ i, bsf kd s1 s2 x d R i = R i) → ∀ y, x ≤ y → y < x + d → R y = true → ∀ z, tF kd s1 s2 y z = true → R z = true
  | 0, _, _, _, y, h1, h2, _ => absurd h2 (by omega)
  | d + 1, x, R, he, y, h1, h2, hy => by
    have he : ∀ i, bsf kd s1 s2 (x + 1) d (b1_ kd s1 s2 x R) i = R i := he
    have e : b1_ kd s1 s2 x R = R := by
      funext i
      cases hr : R i with
      | true => exact bsf_m d (x + 1) (by rw [he]; exact hr)
      | false =>
        cases hb : b1_ kd s1 s2 x R i with
        | false => rfl
        | true => rw [b1_m hb] at hr; cases hr
    by_cases ey : y = x
    · subst ey
      unfold b1_ at e
      split at e
      · rename_i hc
        exact (src_t (P := fun z => R z = true)).mpr hc
      · have := congrFun e y
        rw [upB_s, hy] at this; cases this
    · rw [e] at he
      exact bsf_closed d (x + 1) he y (by omega) (by omega) hy
theorem bit_fix : ∀ (n : Nat) {R : Nat → Bool}, (∀ i, R i = true → i < N) → cN R N ≤ n → ∀ i, bsf kd s1 s2 0 N (bit_ kd s1 s2 N n R) i = bit_ kd s1 s2 N n R i := by
  have step : ∀ {R : Nat → Bool}, (∀ i, R i = true → i < N) → (∀ i, bsf kd s1 s2 0 N R i = R i) ∨ cN (bsf kd s1 s2 0 N R) N < cN R N := by
    intro R hb
    by_cases h : ∀ i, bsf kd s1 s2 0 N R i = R i
    · exact Or.inl h
    · right
      have hex : ∃ i, R i = true ∧ bsf kd s1 s2 0 N R i = false := by
        apply Classical.byContradiction
        intro hno
        apply h
        intro i
        cases hr : R i with
        | true =>
          cases hs : bsf kd s1 s2 0 N R i with
          | true => rfl
          | false => exact absurd ⟨i, hr, hs⟩ hno
        | false =>
          cases hs : bsf kd s1 s2 0 N R i with
          | false => rfl
          | true => rw [bsf_m N 0 hs] at hr; cases hr
      obtain ⟨i, h1, h2⟩ := hex
      exact cN_lt (fun j _ hj => bsf_m N 0 hj) i (hb i h1) h2 h1
  intro n
  induction n with
  | zero =>
    intro R hb hc i
    rcases step hb with h | h
    · exact h i
    · exact absurd h (by omega)
  | succ n ih =>
    intro R hb hc i
    rcases step hb with h | h
    · have e : bsf kd s1 s2 0 N R = R := funext h
      have : ∀ m, bit_ kd s1 s2 N m R = R := by
        intro m
        induction m with
        | zero => rfl
        | succ m im => show bit_ kd s1 s2 N m (bsf kd s1 s2 0 N R) = R; rw [e]; exact im
      rw [this]; exact h i
    · exact ih (R := bsf kd s1 s2 0 N R) (fun j hj => hb j (bsf_m N 0 hj)) (by omega) i
def subB (m s : Nat) : Bool := (m &&& s) == m
theorem subB_t {m s : Nat} : subB m s = true ↔ ∀ c, m.testBit c = true → s.testBit c = true := by
  unfold subB
  rw [beq_iff_eq]
  constructor
  · intro h c hc
    have := congrArg (fun z => z.testBit c) h
    simp only [Nat.testBit_and, hc, Bool.true_and] at this
    exact this
  · intro h
    apply Nat.eq_of_testBit_eq
    intro c
    rw [Nat.testBit_and]
    cases hc : m.testBit c with
    | false => rfl
    | true => rw [h c hc]; rfl
def R0_ (N : Nat) (l : Nat → Nat) (s : Nat) : Nat → Bool := pre (fun g => s.testBit (l g)) N
theorem there_eq (hO : POK N kd s1 s2 ck) {s g m : Nat} (hg : g < N) (hm : NG N C kd s1 s2 l g m) : bit_ kd s1 s2 N N (R0_ N l s) g = subB m s := by
  have hN0 : ∀ i, R0_ N l s i = true → i < N ∧ s.testBit (l i) = true := by
    intro i h
    unfold R0_ pre at h
    rw [Bool.and_eq_true, decide_eq_true_iff] at h
    exact h
  have hfix := bit_fix (kd := kd) (s1 := s1) (s2 := s2) (N := N) N (R := R0_ N l s) (fun i h => (hN0 i h).1) (cN_le _ N)
  have iff : bit_ kd s1 s2 N N (R0_ N l s) g = true ↔ subB m s = true := by
    rw [subB_t]
    constructor
    · intro h c hc
      obtain ⟨x, n, hn, e⟩ := (hm.2 c).mp hc
      have : ∀ n x, rch kd s1 s2 n g x → bit_ kd s1 s2 N N (R0_ N l s) x = true := by
        intro n
        induction n with
        | zero => intro x hx; rw [show x = g from hx]; exact h
        | succ n ih =>
          rintro x ⟨y, hy, ht⟩
          have hyy := ih y hy
          exact bsf_closed N 0 hfix y (by omega) (by have := (hN0 y (bit_m N hyy)).1; omega) hyy x ht
      rw [e]
      exact (hN0 x (bit_m N (this n x hn))).2
    · intro h
      refine bit_good (G := fun x => x < N ∧ ∃ n, rch kd s1 s2 n g x) (fun y x hy ht => ?_) N (fun i hi => ?_) g ⟨hg, 0, rfl⟩
      · obtain ⟨h1, n, hn⟩ := hy
        exact ⟨tF_lt hO h1 ht, n + 1, y, hn, ht⟩
      · obtain ⟨h1, n, hn⟩ := hi
        unfold R0_ pre
        rw [Bool.and_eq_true, decide_eq_true_iff]
        exact ⟨h1, h _ ((hm.2 _).mpr ⟨i, n, hn, rfl⟩)⟩
  cases h1 : subB m s with
  | true => exact iff.mpr h1
  | false =>
    cases h2 : bit_ kd s1 s2 N N (R0_ N l s) g with
    | false => rfl
    | true => rw [iff.mp h2] at h1; cases h1
theorem there3 (hO : POK N kd s1 s2 ck) (hB : PB N kd s1 s2 kind source second) {p1 x3 : Int32} {pg : Nat → Int32} {Q : Int32 → Prop} {k46 : Int32 → Int32 → Prop} :
    ∀ (d x : Nat) (R : Nat → Bool), x + d = N → (∀ v8, v8 = x3 + 1 → k46 (sI (bsf kd s1 s2 x d R)) v8) → wp_X10_thereBy_h57 (nI N) pg second source p1 Q k46 (d + 1) (sI R) x3 (nI x) := by
  have hN := hO.1
  intro d
  induction d with
  | zero =>
    intro x R hxd hQ
    show wp_X10_thereBy_b57 (nI N) pg second source p1 Q k46 _ _ _ _
    unfold wp_X10_thereBy_b57
    exact pk_le N x (fun _ => hQ) (fun h => absurd h (by omega))
  | succ d ih =>
    intro x R hxd hQ
    show wp_X10_thereBy_b57 (nI N) pg second source p1 Q k46 (wp_X10_thereBy_h57 (nI N) pg second source p1 Q k46 (d + 1)) _ _ _
    unfold wp_X10_thereBy_b57
    have hx : x < N := by omega
    have ix : vp_in (nI x) 10 := vp_in_nI (by omega) (by omega)
    obtain ⟨hk, h1, h2, _⟩ := hO.2 x hx
    rw [nI_clamp (by omega), (hB x hx).2.1]
    have keep : (kd x ≠ 0 → R (s1 x) = true) ∧ (two (kd x) = true → R (s2 x) = true) → wp_X10_thereBy_b122 (nI N) pg second source p1 Q k46 (wp_X10_thereBy_h57 (nI N) pg second source p1 Q k46 (d + 1)) (sI R) x3 (nI x) := by
      intro hc
      unfold wp_X10_thereBy_b122 wp_X10_thereBy_b123 wp_X10_thereBy_b141
      have em : sI R &&& (-1 : Int32) = sI R := by
        apply b_ext; intro i hi; rw [b_and, b_m1 i hi, Bool.and_true]
      rw [em]
      refine br_t rfl (all_e (all_e ?_))
      rw [nI_1]
      have e : b1_ kd s1 s2 x R = R := by unfold b1_; rw [if_pos hc]
      have := ih (x + 1) (b1_ kd s1 s2 x R) (by omega) hQ
      rw [e] at this
      exact this
    have drop : ¬ ((kd x ≠ 0 → R (s1 x) = true) ∧ (two (kd x) = true → R (s2 x) = true)) → wp_X10_thereBy_b118 (nI N) pg second source p1 Q k46 (wp_X10_thereBy_h57 (nI N) pg second source p1 Q k46 (d + 1)) (sI R) x3 (nI x) := by
      intro hc
      unfold wp_X10_thereBy_b118 wp_X10_thereBy_b123 wp_X10_thereBy_b141
      rw [sI_bit x (by omega), sI_dif]
      refine br_f (by decide) (all_e (all_e ?_))
      rw [nI_1]
      have e : sI (fun i => R i && !(i == x)) = sI (b1_ kd s1 s2 x R) := by
        apply sI_cong; intro i _
        unfold b1_; rw [if_neg hc]
        by_cases ei : i = x
        · subst ei; rw [upB_s]; simp
        · rw [upB_n ei, show (i == x) = false by simpa using ei]; simp
      rw [e]
      exact ih (x + 1) (b1_ kd s1 s2 x R) (by omega) hQ
    have sec : (kd x ≠ 0 → R (s1 x) = true) → wp_X10_thereBy_b92 (nI N) pg second source p1 Q k46 (wp_X10_thereBy_h57 (nI N) pg second source p1 Q k46 (d + 1)) (sI R) x3 (nI x) := by
      intro ha
      unfold wp_X10_thereBy_b92
      rw [nI_clamp (by omega), (hB x hx).2.2]
      refine ⟨ix, ?_⟩
      rw [eI]
      by_cases ht : two (kd x) = true
      · rw [if_pos ht]
        have hs2 := h2 ht
        refine br_f (nI_ne9 (by omega)) ⟨ix, ev_has (by omega) ?_⟩
        cases hr : R (s2 x) with
        | true => exact bn_f (by decide) (keep ⟨ha, fun _ => hr⟩)
        | false => exact bn_t rfl (drop (fun z => by have := z.2 ht; rw [hr] at this; cases this))
      · rw [if_neg ht]
        exact br_t rfl (keep ⟨ha, fun z => absurd z ht⟩)
    refine pk_le N x (fun h => absurd h (by omega)) (fun _ => ⟨ix, ?_⟩)
    rw [fI]
    by_cases h0 : kd x = 0
    · rw [if_pos h0]
      exact br_t rfl (sec (fun z => absurd h0 z))
    · rw [if_neg h0]
      have hs1 := h1 h0
      refine br_f (nI_ne9 (by omega)) ⟨ix, ev_has (by omega) ?_⟩
      cases hr : R (s1 x) with
      | false => exact br_t rfl (drop (fun z => by have := z.1 h0; rw [hr] at this; cases this))
      | true => exact br_f (by decide) (sec (fun _ => hr))
theorem there2 (hO : POK N kd s1 s2 ck) (hB : PB N kd s1 s2 kind source second) {p1 : Int32} {pg : Nat → Int32} {Q : Int32 → Prop} :
    ∀ (d n : Nat) (R : Nat → Bool), n + d = N → Q (nI (cN (bit_ kd s1 s2 N d R) 10)) → wp_X10_thereBy_h46 (nI N) pg second source p1 Q (d + 1) (sI R) (nI n) := by
  have hN := hO.1
  intro d
  induction d with
  | zero =>
    intro n R hnd hQ
    show wp_X10_thereBy_b46 (nI N) pg second source p1 Q _ _ _
    unfold wp_X10_thereBy_b46
    exact pk_le N n (fun _ => ev_ones hQ) (fun h => absurd h (by omega))
  | succ d ih =>
    intro n R hnd hQ
    show wp_X10_thereBy_b46 (nI N) pg second source p1 Q (wp_X10_thereBy_h46 (nI N) pg second source p1 Q (d + 1)) _ _
    unfold wp_X10_thereBy_b46
    refine pk_le N n (fun h => absurd h (by omega)) (fun _ => ⟨N + 1, there3 hO hB N 0 R (by omega) (fun v8 h8 => ?_)⟩)
    rw [h8, nI_1]
    exact ih (n + 1) _ (by omega) hQ
theorem there1 (hO : POK N kd s1 s2 ck) (hB : PB N kd s1 s2 kind source second) (hl : ∀ i, l i < 4) (hR : RLy N l page) {s : Nat} {Q : Int32 → Prop} (hQ : Q (nI (cN (bit_ kd s1 s2 N N (R0_ N l s)) 10))) :
    ∀ (d g : Nat), g + d = N → wp_X10_thereBy_h4 (nI N) page second source (sI s.testBit) Q (d + 1) (sI (pre (fun g => s.testBit (l g)) g)) (nI g) := by
  have hN := hO.1
  intro d
  induction d with
  | zero =>
    intro g hgd
    show wp_X10_thereBy_b4 (nI N) page second source (sI s.testBit) Q _ _ _
    unfold wp_X10_thereBy_b4
    have e : g = N := by omega
    subst e
    exact pk_le g g (fun _ => ⟨g + 1, there2 hO hB g 0 _ (by omega) hQ⟩) (fun h => absurd h (by omega))
  | succ d ih =>
    intro g hgd
    show wp_X10_thereBy_b4 (nI N) page second source (sI s.testBit) Q (wp_X10_thereBy_h4 (nI N) page second source (sI s.testBit) Q (d + 1)) _ _
    unfold wp_X10_thereBy_b4 wp_X10_thereBy_b36
    have hlg := hl g
    rw [ix10, nI_clamp (by omega), hR g (by omega), sI_bit g (by omega), or0]
    refine pk_le N g (fun h => absurd h (by omega)) (fun _ => ⟨vp_in_nI (by omega) (by omega), ev_has (by omega) ?_⟩)
    cases hb : s.testBit (l g) with
    | false =>
      refine br_t rfl (all_e (all_e ?_))
      rw [nI_1, pre_n (f := fun g => s.testBit (l g)) (g := g) hb]
      exact ih (g + 1) (by omega)
    | true =>
      refine br_f (by decide) (all_e (all_e ?_))
      rw [nI_1, pre_y (f := fun g => s.testBit (l g)) (g := g) (by omega) hb]
      exact ih (g + 1) (by omega)
def Tn (N : Nat) (mg : Nat → Nat) (s : Nat) : Nat := sumN (fun g => if subB (mg g) s = true then 1 else 0) N
theorem Tn_eq (hO : POK N kd s1 s2 ck) {mg : Nat → Nat} (hm : ∀ g, g < N → NG N C kd s1 s2 l g (mg g)) {s : Nat} : cN (bit_ kd s1 s2 N N (R0_ N l s)) 10 = Tn N mg s := by
  have hN := hO.1
  have hz : ∀ i, N ≤ i → bit_ kd s1 s2 N N (R0_ N l s) i = false := by
    intro i hi
    cases hh : bit_ kd s1 s2 N N (R0_ N l s) i with
    | false => rfl
    | true =>
      have := bit_m N hh
      unfold R0_ pre at this
      rw [Bool.and_eq_true, decide_eq_true_iff] at this
      omega
  have h1 : cN (bit_ kd s1 s2 N N (R0_ N l s)) 10 = cN (bit_ kd s1 s2 N N (R0_ N l s)) N := by
    have : ∀ e, cN (bit_ kd s1 s2 N N (R0_ N l s)) (N + e) = cN (bit_ kd s1 s2 N N (R0_ N l s)) N := by
      intro e
      induction e with
      | zero => rfl
      | succ e ih => rw [← Nat.add_assoc, cN, ih, hz _ (by omega)]; rfl
    rw [← this (10 - N)]; congr 1; omega
  have h2 : ∀ n, n ≤ N → cN (bit_ kd s1 s2 N N (R0_ N l s)) n = sumN (fun g => if subB (mg g) s = true then 1 else 0) n := by
    intro n
    induction n with
    | zero => intro _; rfl
    | succ n ih =>
      intro hn
      rw [cN, sumN, ih (by omega), there_eq hO (by omega) (hm n (by omega))]
  rw [h1, h2 N (Nat.le_refl N)]; rfl
theorem ev_thereBy (hO : POK N kd s1 s2 ck) (hB : PB N kd s1 s2 kind source second) (hl : ∀ i, l i < 4) (hR : RLy N l page) {mg : Nat → Nat} (hm : ∀ g, g < N → NG N C kd s1 s2 l g (mg g)) {s : Nat} (hs : s < 1024) {Q : Int32 → Prop} (hQ : Q (nI (Tn N mg s))) : wp_X10_thereBy (nI N) page second source (nI s) Q := by
  rw [← sI_tb hs]
  have := there1 hO hB hl hR (s := s) (Q := Q) (by rw [Tn_eq hO hm]; exact hQ) N 0 (by omega)
  rw [pre_0] at this
  exact ⟨N + 1, this⟩
def fac : Nat → Nat
  | 0 => 1
  | n + 1 => fac n * (n + 1)
theorem fac_loop {n : Nat} (hn : n < 100) {Q : Int32 → Prop} (hQ : Q (nI (fac n))) : ∀ (d i : Nat), i + 1 + d = n → wp_X10_factorial_h4 (nI n) Q (d + 1) (nI (fac (i + 1))) (nI (i + 2)) := by
  intro d
  induction d with
  | zero =>
    intro i hid
    show wp_X10_factorial_b4 _ _ _ _ _
    unfold wp_X10_factorial_b4
    have e : i + 1 = n := by omega
    subst e
    exact pk_lt (i + 1) (i + 2) (fun _ => hQ) (fun h => absurd h (by omega))
  | succ d ih =>
    intro i hid
    show wp_X10_factorial_b4 _ _ (wp_X10_factorial_h4 (nI n) Q (d + 1)) _ _
    unfold wp_X10_factorial_b4
    refine pk_lt n (i + 2) (fun h => absurd h (by omega)) (fun _ => all_e (all_e ?_))
    rw [nI_1, pk_mul]
    exact ih (i + 1) (by omega)
theorem ev_factorial {n : Nat} (hn : n < 100) {Q : Int32 → Prop} (hQ : Q (nI (fac n))) : wp_X10_factorial (nI n) Q := by
  rcases Nat.eq_zero_or_pos n with h | h
  · subst h
    refine ⟨1, ?_⟩
    show wp_X10_factorial_b4 _ _ _ _ _
    unfold wp_X10_factorial_b4
    exact pk_lt 0 2 (fun _ => hQ) (fun h => absurd h (by omega))
  · exact ⟨n - 1 + 1, fac_loop hn hQ (n - 1) 0 (by omega)⟩
/-- one subset's term -/
def tmT (N C p : Nat) (mg : Nat → Nat) (s : Nat) : Nat := if s.testBit p = true then 0 else fac (cN s.testBit 10) * fac (C - 1 - cN s.testBit 10) * (Tn N mg (s ||| 2 ^ p) - Tn N mg s)
def tmG (C p m s : Nat) : Nat := if s.testBit p = true then 0 else fac (cN s.testBit 10) * fac (C - 1 - cN s.testBit 10) * ((if subB m (s ||| 2 ^ p) = true then 1 else 0) - (if subB m s = true then 1 else 0))
theorem shapley : ∀ C, C < 5 → ∀ p, p < C → ∀ m, m < 2 ^ C → sumN (tmG C p m) (2 ^ C) * 12 = uF_ p m * fac C := by decide +kernel
theorem small_all : ∀ C, C < 5 → ∀ p, p < C → ∀ s, s < 2 ^ C → (s.testBit p = false → cN s.testBit 10 ≤ C - 1) ∧ s ||| 2 ^ p < 16 ∧ fac (cN s.testBit 10) * fac (C - 1 - cN s.testBit 10) ≤ 24 := by decide +kernel
theorem sub_up {m s p : Nat} (h : subB m s = true) : subB m (s ||| 2 ^ p) = true := by
  rw [subB_t] at h ⊢
  intro c hc
  rw [Nat.testBit_or, h c hc]; rfl
theorem Tn_dif {mg : Nat → Nat} {s p : Nat} : ∀ n, Tn n mg (s ||| 2 ^ p) - Tn n mg s = sumN (fun g => (if subB (mg g) (s ||| 2 ^ p) = true then 1 else 0) - (if subB (mg g) s = true then 1 else 0)) n ∧ Tn n mg s ≤ Tn n mg (s ||| 2 ^ p)
  | 0 => ⟨rfl, Nat.le_refl _⟩
  | n + 1 => by
    obtain ⟨h1, h2⟩ := Tn_dif (mg := mg) (s := s) (p := p) n
    have h3 : (if subB (mg n) s = true then 1 else 0) ≤ (if subB (mg n) (s ||| 2 ^ p) = true then 1 else 0) := by
      by_cases h : subB (mg n) s = true
      · rw [if_pos h, if_pos (sub_up h)]; exact Nat.le_refl _
      · rw [if_neg h]; exact Nat.zero_le _
    have e1 : Tn (n + 1) mg (s ||| 2 ^ p) = Tn n mg (s ||| 2 ^ p) + (if subB (mg n) (s ||| 2 ^ p) = true then 1 else 0) := rfl
    have e2 : Tn (n + 1) mg s = Tn n mg s + (if subB (mg n) s = true then 1 else 0) := rfl
    rw [e1, e2, sumN, ← h1]
    omega
theorem swap_sum {F : Nat → Nat → Nat} {M : Nat} : ∀ n, sumN (fun s => sumN (fun g => F g s) n) M = sumN (fun g => sumN (F g) M) n
  | 0 => sumN_zero (fun _ _ => rfl)
  | n + 1 => by
    rw [sumN, ← swap_sum n, ← sumN_add]
    rfl
theorem share_sum (hC : C < 5) {p : Nat} (hp : p < C) {mg : Nat → Nat} (hm : ∀ g, g < N → mg g < 2 ^ C) : sumN (tmT N C p mg) (2 ^ C) * 12 = sumN (fun g => uF_ p (mg g)) N * fac C := by
  have e1 : sumN (tmT N C p mg) (2 ^ C) = sumN (fun s => sumN (fun g => tmG C p (mg g) s) N) (2 ^ C) := by
    apply sumN_cong
    intro s _
    unfold tmT tmG
    by_cases h : s.testBit p = true
    · rw [if_pos h]
      rw [sumN_zero]
      intro g _; rw [if_pos h]
    · rw [if_neg h, (Tn_dif N).1, ← sumN_mul]
      apply sumN_cong
      intro g _
      rw [if_neg h]
  rw [e1, swap_sum, Nat.mul_comm, ← sumN_mul, Nat.mul_comm (sumN (fun g => uF_ p (mg g)) N), ← sumN_mul]
  apply sumN_cong
  intro g hg
  show 12 * sumN (tmG C p (mg g)) (2 ^ C) = fac C * uF_ p (mg g)
  rw [Nat.mul_comm, shapley C hC p hp (mg g) (hm g hg), Nat.mul_comm]
theorem fac_bd : ∀ C, C < 5 → 0 < fac C ∧ fac C ≤ 24 := by decide +kernel
theorem Tn_le {mg : Nat → Nat} {s : Nat} : ∀ n, Tn n mg s ≤ n
  | 0 => Nat.le_refl _
  | n + 1 => by
    have h1 := Tn_le (mg := mg) (s := s) n
    have e2 : Tn (n + 1) mg s = Tn n mg s + (if subB (mg n) s = true then 1 else 0) := rfl
    rw [e2]; split <;> omega
theorem shareB_loop (hO : POK N kd s1 s2 ck) (hB : PB N kd s1 s2 kind source second) (hC : 1 ≤ C ∧ C ≤ 4) (hl : ∀ i, l i < 4) (hR : RLy N l page) {mg : Nat → Nat} (hm : ∀ g, g < N → NG N C kd s1 s2 l g (mg g)) {p : Nat} (hp : p < C) {u th : Int32} {Q : Int32 → Int32 → Prop} (hQ : Q (frI (sumN (tmT N C p mg) (2 ^ C)) (fac C) u) th) :
    ∀ (d s : Nat), s + d = 2 ^ C → wp_X10_share_h20 (nI C) (nI N) page second source (nI p) u Q (d + 1) (nI (sumN (tmT N C p mg) s)) (nI s) th := by
  have hN := hO.1
  have h16 : 2 ^ C ≤ 2 ^ 4 := Nat.pow_le_pow_right (by omega) hC.2
  have h16' : (2 : Nat) ^ 4 = 16 := by decide
  have hfb := fac_bd C (by omega)
  have hb : ∀ s, s ≤ 2 ^ C → sumN (tmT N C p mg) s ≤ 240 * s := by
    intro s
    induction s with
    | zero => intro _; exact Nat.le_refl _
    | succ s ih =>
      intro hs
      have h1 := ih (by omega)
      have h2 : tmT N C p mg s ≤ 240 := by
        unfold tmT
        split
        · omega
        · have h3 := (small_all C (by omega) p hp s (by omega)).2.2
          have h4 := Tn_le (mg := mg) (s := s ||| 2 ^ p) N
          have h5 : fac (cN s.testBit 10) * fac (C - 1 - cN s.testBit 10) * (Tn N mg (s ||| 2 ^ p) - Tn N mg s) ≤ 24 * 10 := Nat.mul_le_mul h3 (by omega)
          omega
      rw [sumN]; omega
  intro d
  induction d with
  | zero =>
    intro s hsd
    show wp_X10_share_b20 (nI C) (nI N) page second source (nI p) u Q _ _ _ _
    unfold wp_X10_share_b20
    rw [sh_pow C (by omega)]
    have e : s = 2 ^ C := by omega
    subst e
    have := hb (2 ^ C) (Nat.le_refl _)
    exact pk_le (2 ^ C) (2 ^ C) (fun _ => ev_factorial (by omega) (ev_mfraction (by omega) hfb.1 (by omega) hQ)) (fun h => absurd h (by omega))
  | succ d ih =>
    intro s hsd
    show wp_X10_share_b20 (nI C) (nI N) page second source (nI p) u Q (wp_X10_share_h20 (nI C) (nI N) page second source (nI p) u Q (d + 1)) _ _ _
    unfold wp_X10_share_b20 wp_X10_share_b88
    rw [sh_pow C (by omega), sh_pow p (by omega)]
    have hs : s < 2 ^ C := by omega
    have es : nI s = sI s.testBit := (sI_tb (by omega)).symm
    obtain ⟨ha1, ha2, ha3⟩ := small_all C (by omega) p hp s hs
    have next : ∀ w : Nat, w = tmT N C p mg s → ∀ v1, v1 = nI (sumN (tmT N C p mg) s) + nI w → ∀ v2, v2 = nI s + 1 → wp_X10_share_h20 (nI C) (nI N) page second source (nI p) u Q (d + 1) v1 v2 th := by
      intro w hw v1 h1 v2 h2
      rw [h1, h2, nI_1, nI_add, hw]
      exact ih (s + 1) (by omega)
    refine pk_le (2 ^ C) s (fun h => absurd h (by omega)) (fun _ => ?_)
    have e1 : ∀ Q : Int32 → Prop, Q (nI (cN s.testBit 10)) → wp_X10_ones (nI s) Q := fun Q hq => by rw [es]; exact ev_ones hq
    have e2 : ∀ Q : Int32 → Prop, Q (if s.testBit p = true then 1 else 0) → wp_X10_has (nI s) (nI p) Q := fun Q hq => by rw [es]; exact ev_has (by omega) hq
    refine e1 _ (e2 _ ?_)
    cases hbp : s.testBit p with
    | true =>
      refine br_f (by decide) (next 0 ?_)
      unfold tmT; rw [if_pos hbp]
    | false =>
      have hle := ha1 hbp
      have em : (nI C - 1) - nI (cN s.testBit 10) = nI (C - 1 - cN s.testBit 10) := by
        rw [show nI C - 1 = nI (C - 1) from pk_sub (a := C) (b := 1) (by omega), pk_sub hle]
      have eo : nI s ||| nI (2 ^ p) = nI (s ||| 2 ^ p) := by
        apply b_ext; intro i hi
        rw [b_or, bt_nI, bt_nI, bt_nI, Nat.testBit_or, decide_eq_true hi, Bool.true_and, Bool.true_and, Bool.true_and]
      rw [em, eo]
      refine br_t rfl (ev_factorial (by omega) (ev_factorial (by omega) (ev_thereBy hO hB hl hR hm (by omega) (ev_thereBy hO hB hl hR hm (by omega) ?_))))
      rw [pk_mul, pk_sub (Tn_dif N).2, pk_mul]
      refine next _ ?_
      unfold tmT; rw [if_neg (by rw [hbp]; decide)]
end
set_option maxRecDepth 20000 in
set_option maxHeartbeats 2000000 in
theorem law_share {k : Nat} {f_keptSlots : Int32} {f_lastSeed : Int64} {f_text_letters : Nat → Int32} {f_text_length : Int32} {f_plan_chips : Int32} {f_plan_gates : Int32} {f_plan_inputs : Int32} {f_plan_registers : Int32} {f_plan_slowRegisters : Int32} {f_plan_kinds : Nat → Int32} {f_plan_firsts : Nat → Int32} {f_plan_seconds : Nat → Int32} {f_plan_clocks : Nat → Int32} {f_plan_sourceSets : Nat → Int32} {f_now_ones : Int32} {f_now_unknowns : Int32} {f_now_places : Int32} {f_now_pins : Int32} {f_now_count : Int32} {f_hist_next : Int32} {f_hist_held : Int32} {f_ring_cells : Nat → Int32} {f_kept_cells : Nat → Int32} {f_sight_steps : Nat → Int32} {f_sight_gates : Nat → Int32} {f_sight_values : Nat → Int32} {f_sight_truths : Nat → Int32} {f_sight_held : Int32} {m_thrown : Int32} {m_text : Nat → Int32} {m_textSize : Int32} {m_chips : Int32} {m_gates : Int32} {m_kind : Nat → Int32} {m_source : Nat → Int32} {m_second : Nat → Int32} {m_clock : Nat → Int32} {m_page : Nat → Int32} {m_book : Nat → Int32} {m_doings : Int32} {m_kept : Nat → Int32} {m_isKept : Nat → Int32} {m_seen : Int32} {m_seenBehind : Nat → Int32} {m_seenGate : Nat → Int32} {m_seenWorth : Nat → Int32} {m_seenWas : Nat → Int32} {m_seed : Int64} (hk : k < 512) (hI : Inv k f_keptSlots f_lastSeed f_text_letters f_text_length f_plan_chips f_plan_gates f_plan_inputs f_plan_registers f_plan_slowRegisters f_plan_kinds f_plan_firsts f_plan_seconds f_plan_clocks f_plan_sourceSets f_now_ones f_now_unknowns f_now_places f_now_pins f_now_count f_hist_next f_hist_held f_ring_cells f_kept_cells f_sight_steps f_sight_gates f_sight_values f_sight_truths f_sight_held m_text m_textSize m_chips m_gates m_kind m_source m_second m_clock m_page m_book m_doings m_kept m_isKept m_seen m_seenBehind m_seenGate m_seenWorth m_seenWas m_seed) (a1 : Int32) (a2 : Int32) (hz2 : a2 = 0 ∨ a2 = 1) :
    wp_X9_share f_now_places f_plan_chips f_plan_gates f_plan_sourceSets a1 a2 (fun r  => wp_X10_share m_chips m_gates m_page m_second m_source m_thrown a1 a2 (fun r2 z_thrown => r = r2 ∧ Inv (k + 1) f_keptSlots f_lastSeed f_text_letters f_text_length f_plan_chips f_plan_gates f_plan_inputs f_plan_registers f_plan_slowRegisters f_plan_kinds f_plan_firsts f_plan_seconds f_plan_clocks f_plan_sourceSets f_now_ones f_now_unknowns f_now_places f_now_pins f_now_count f_hist_next f_hist_held f_ring_cells f_kept_cells f_sight_steps f_sight_gates f_sight_values f_sight_truths f_sight_held m_text m_textSize m_chips m_gates m_kind m_source m_second m_clock m_page m_book m_doings m_kept m_isKept m_seen m_seenBehind m_seenGate m_seenWorth m_seenWas m_seed)) := by
  have same := inv_mono hI
  obtain ⟨hT, ⟨N, C, kd, s1, s2, ck, hP, ⟨z, hz, hA, hB⟩, hH, hK⟩, hSe, hSd⟩ := hI
  obtain ⟨hO, hC, ⟨rfl, rfl, rfl, rfl, rfl⟩, hPA, hck, ⟨rfl, rfl⟩, hPB, hckM⟩ := hP
  have hN := hO.1
  obtain ⟨rfl, rfl, rfl, rfl, rfl⟩ := hA
  unfold wp_X9_share wp_X10_share
  rcases ge_ix (a := a1) (N := C) (by omega) with ⟨p, hp, rfl⟩ | hc
  · have hex : ∀ g, ∃ m, g < N → NG N C kd s1 s2 z.2.1 g m := by
      intro g
      by_cases hg : g < N
      · have hr : RA N kd s1 s2 g (fun x => @decide (∃ n, rch kd s1 s2 n g x) (Classical.propDecidable _)) := fun x => by simp
        exact ⟨_, fun _ => (ng_ex hO hC.2 hz.2.1 hz.2.2.1 hr (fun i hi => by
          obtain ⟨n, hn⟩ := (hr i).mp hi
          exact rch_lt hO hg n i hn)).1⟩
      · exact ⟨0, fun h => absurd h hg⟩
    have hm : ∀ g, g < N → NG N C kd s1 s2 z.2.1 g ((fun g => Classical.choose (hex g)) g) := fun g => Classical.choose_spec (hex g)
    generalize (fun g => Classical.choose (hex g)) = mg at hm
    refine ev_isChip_t (by omega) hp (bn_f (by decide) ⟨N + 1, shareA_loop hO hPA hC.2 hz.2.1 hz.2.2.1 hm hp ?_ N 0 (by omega)⟩)
    refine ev_noChip_t (by omega) hp (br_t rfl ⟨2 ^ C + 1, shareB_loop hO hPB hC hz.2.1 hB.2.1 hm hp ⟨?_, same⟩ (2 ^ C) 0 (by omega)⟩)
    exact frI_eq (by omega) (fac_bd C (by omega)).1 (share_sum (by omega) hp (fun g hg => (hm g hg).1)).symm a2
  · refine ev_isChip_f (by omega) hc (bn_t rfl ?_)
    exact ev_noChip_f (by omega) hc (br_f (by decide) ⟨rfl, same⟩)
