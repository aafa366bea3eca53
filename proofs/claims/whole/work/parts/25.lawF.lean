/-! values depend on the stored ones, and tell them -/
section
variable {N C : Nat} {kd s1 s2 ck : Nat → Nat} {kinds firsts seconds sets kind source second clock : Nat → Int32}
def AgN (N : Nat) (x y : LX) : Prop := ∀ i, i < N → x.1 i = y.1 i ∧ x.2 i = y.2 i
theorem l1_ag (hO : POK N kd s1 s2 ck) {x y : LX} (hx : LG N kd x) (h : AgN N x y) {g : Nat} (hg : g < N) : AgN N (l1 kd s1 s2 g x) (l1 kd s1 s2 g y) := by
  obtain ⟨hk, h1, h2, _⟩ := hO.2 g hg
  cases hs : stb (kd g) with
  | true =>
    have e := hx.2.1 g hg hs
    rw [l1_known e, l1_known (by rw [← (h g hg).1]; exact e)]; exact h
  | false =>
    have hk0 : kd g ≠ 0 := fun e => by rw [e] at hs; cases hs
    have a1 := h _ (h1 hk0)
    have a2 : two (kd g) = true → x.1 (s2 g) = y.1 (s2 g) ∧ x.2 (s2 g) = y.2 (s2 g) := fun e => h _ (h2 e)
    unfold l1
    rw [← (h g hg).1, ← a1.1]
    have c : (two (kd g) = true → x.1 (s2 g) = true) ↔ (two (kd g) = true → y.1 (s2 g) = true) := ⟨fun z e => by rw [← (a2 e).1]; exact z e, fun z e => by rw [(a2 e).1]; exact z e⟩
    by_cases hc : x.1 g = false ∧ x.1 (s1 g) = true ∧ (two (kd g) = true → x.1 (s2 g) = true)
    · have hc' : x.1 g = false ∧ x.1 (s1 g) = true ∧ (two (kd g) = true → y.1 (s2 g) = true) := ⟨hc.1, hc.2.1, c.mp hc.2.2⟩
      rw [if_pos hc, if_pos hc']
      intro i hi
      have ev : (if two (kd g) = true then x.2 (s2 g) else 0) = (if two (kd g) = true then y.2 (s2 g) else 0) := by
        by_cases e : two (kd g) = true
        · rw [if_pos e, if_pos e, (a2 e).2]
        · rw [if_neg e, if_neg e]
      show upB x.1 g true i = upB y.1 g true i ∧ upN x.2 g _ i = upN y.2 g _ i
      rw [a1.2, ev]
      unfold upB upN
      by_cases e : i = g
      · rw [if_pos e, if_pos e, if_pos e, if_pos e]; exact ⟨rfl, rfl⟩
      · rw [if_neg e, if_neg e, if_neg e, if_neg e]; exact h i hi
    · have hc' : ¬ (x.1 g = false ∧ x.1 (s1 g) = true ∧ (two (kd g) = true → y.1 (s2 g) = true)) := fun z => hc ⟨z.1, z.2.1, c.mpr z.2.2⟩
      rw [if_neg hc, if_neg hc']; exact h
theorem lsf_ag (hO : POK N kd s1 s2 ck) : ∀ (d g : Nat) {x y : LX}, g + d = N → LG N kd x → AgN N x y → AgN N (lsf kd s1 s2 g d x) (lsf kd s1 s2 g d y)
  | 0, _, _, _, _, _, h => h
  | d + 1, g, _, _, hd, hx, h => lsf_ag hO d (g + 1) (by omega) (l1_LG hx g) (l1_ag hO hx h (by omega))
theorem lit_ag (hO : POK N kd s1 s2 ck) : ∀ (t : Nat) {x y : LX}, LG N kd x → AgN N x y → AgN N (lit kd s1 s2 N t x) (lit kd s1 s2 N t y)
  | 0, _, _, _, h => h
  | t + 1, _, _, hx, h => lit_ag hO t (lsf_LG N 0 hx) (lsf_ag hO N 0 (by omega) hx h)
theorem lv_ag (hO : POK N kd s1 s2 ck) {v w : Nat → Nat} {stuck : Option Nat} (hv : ∀ i, v i ≤ 2) (h : ∀ g, g < N → stb (kd g) = true → v g = w g) {g : Nat} (hg : g < N) : lv_ N kd s1 s2 v stuck g = lv_ N kd s1 s2 w stuck g := by
  refine (lit_ag hO N (l0_LG hv) (fun i hi => ?_) g hg).2
  refine ⟨rfl, ?_⟩
  show (if stuck = some i then 0 else if stb (kd i) = true then v i else 2) = (if stuck = some i then 0 else if stb (kd i) = true then w i else 2)
  by_cases e : stb (kd i) = true
  · rw [if_pos e, if_pos e, h i hi e]
  · rw [if_neg e, if_neg e]
theorem l1_kp {x : LX} {g i : Nat} (h : x.1 i = true) : (l1 kd s1 s2 g x).2 i = x.2 i := by
  unfold l1
  split
  · rename_i hc
    exact upN_n (fun e => by rw [e, hc.1] at h; cases h)
  · rfl
theorem lsf_kp : ∀ (d g : Nat) {x : LX} {i : Nat}, x.1 i = true → (lsf kd s1 s2 g d x).2 i = x.2 i
  | 0, _, _, _, _ => rfl
  | d + 1, g, x, i, h => by show (lsf kd s1 s2 (g + 1) d _).2 i = _; rw [lsf_kp d (g + 1) (l1_mono h), l1_kp h]
theorem lit_kp : ∀ (t : Nat) {x : LX} {i : Nat}, x.1 i = true → (lit kd s1 s2 N t x).2 i = x.2 i
  | 0, _, _, _ => rfl
  | t + 1, x, i, h => by show (lit kd s1 s2 N t _).2 i = _; rw [lit_kp t (lsf_mono N 0 h), lsf_kp N 0 h]
theorem lv_st {v : Nat → Nat} {g : Nat} (hs : stb (kd g) = true) : lv_ N kd s1 s2 v none g = v g := by
  unfold lv_
  rw [lit_kp N (by show (decide ((none : Option Nat) = some g) || stb (kd g)) = true; rw [hs, Bool.or_true])]
  show (if (none : Option Nat) = some g then 0 else if stb (kd g) = true then v g else 2) = _
  rw [if_neg (by intro h; cases h), if_pos hs]
/-! the class's trace -/
def tc (N : Nat) (kd v : Nat → Nat) : Int32 := sI (sO N kd v) ||| (sI (sU N kd v) <<< ((10 : Int32) &&& 31))
theorem bt_tc (v : Nat → Nat) {i : Nat} (hi : i < 32) : bt (tc N kd v) i = ((decide (i < 10) && sO N kd v i) || (decide (10 ≤ i) && (decide (i - 10 < 10) && sU N kd v (i - 10)))) := by
  unfold tc
  rw [b_or, show (10 : Int32) = nI 10 from rfl, b_shl 10 (by omega) _ hi, bt_sI, bt_sI]
theorem tc_eq (hN : N ≤ 10) {v w : Nat → Nat} (hv : ∀ i, v i ≤ 2) (hw : ∀ i, w i ≤ 2) : tc N kd v = tc N kd w ↔ ∀ g, g < N → stb (kd g) = true → v g = w g := by
  constructor
  · intro h g hg hs
    have h1 := congrArg (fun x => bt x g) h
    have h2 := congrArg (fun x => bt x (g + 10)) h
    simp only [bt_tc _ (show g < 32 by omega), bt_tc _ (show g + 10 < 32 by omega)] at h1 h2
    have h3 := hv g
    have h4 := hw g
    have e1 : (v g == 1) = (w g == 1) := by
      simpa only [sO, sU, hg, hs, decide_eq_true (show g < 10 by omega), decide_eq_false (show ¬ 10 ≤ g by omega), decide_true, Bool.true_and, Bool.false_and, Bool.or_false] using h1
    have e2 : (v g == 2) = (w g == 2) := by
      simpa only [sO, sU, Nat.add_sub_cancel, hg, hs, decide_eq_false (show ¬ g + 10 < 10 by omega), decide_eq_true (show g < 10 by omega), decide_eq_true (show 10 ≤ g + 10 by omega), decide_true, Bool.true_and, Bool.false_and, Bool.false_or] using h2
    revert e1 e2
    rcases (show v g = 0 ∨ v g = 1 ∨ v g = 2 by omega) with e | e | e <;> rcases (show w g = 0 ∨ w g = 1 ∨ w g = 2 by omega) with e' | e' | e' <;> rw [e, e'] <;> decide
  · intro h
    have e1 : sI (sO N kd v) = sI (sO N kd w) := by
      apply sI_cong; intro i _; unfold sO
      by_cases hi : i < N
      · cases hs : stb (kd i) with
        | true => rw [h i hi hs]
        | false => simp
      · simp [hi]
    have e2 : sI (sU N kd v) = sI (sU N kd w) := by
      apply sI_cong; intro i _; unfold sU
      by_cases hi : i < N
      · cases hs : stb (kd i) with
        | true => rw [h i hi hs]
        | false => simp
      · simp [hi]
    unfold tc; rw [e1, e2]
theorem trace_loop (hO : POK N kd s1 s2 ck) (hA : PA N kd s1 s2 kinds firsts seconds sets) {x0 : SX} (hv : ∀ i, x0.1 i ≤ 2) (hc : x0.2 < 2 ^ 20) {nc no np nl nu cp cl : Int32} {Q : Int32 → Int32 → Int32 → Int32 → Int32 → Int32 → Int32 → Int32 → (Nat → Int32) → Prop}
    (hQ : ∀ a b c d e f g h tr, (∀ i, i < 121 → tr i = tc N kd (stpn N kd s1 s2 ck none i x0).1) → Q a b c d e f g h tr) :
    ∀ (d i : Nat) (lo lk lu : Int32) (tr : Nat → Int32), i + d = 121 → (∀ j, j < i → tr j = tc N kd (stpn N kd s1 s2 ck none j x0).1) →
      wp_X9_traceSteps_h13 nc no np nl nu firsts (nI N) (sI (inF N kd)) kinds (sI (reF N kd)) seconds (sI (slF N kd ck)) sets Q (d + 1) (nI i) (nI (stpn N kd s1 s2 ck none i x0).2) (sI (sO N kd (stpn N kd s1 s2 ck none i x0).1)) cp cl (sI (sU N kd (stpn N kd s1 s2 ck none i x0).1)) lo lk lu tr := by
  intro d
  induction d with
  | zero =>
    intro i lo lk lu tr hid h
    show wp_X9_traceSteps_b13 nc no np nl nu firsts (nI N) (sI (inF N kd)) kinds (sI (reF N kd)) seconds (sI (slF N kd ck)) sets Q _ _ _ _ _ _ _ _ _ _ _
    unfold wp_X9_traceSteps_b13
    exact pk_le 121 i (fun _ => hQ _ _ _ _ _ _ _ _ _ (fun j hj => h j (by omega))) (fun h => absurd h (by omega))
  | succ d ih =>
    intro i lo lk lu tr hid h
    show wp_X9_traceSteps_b13 nc no np nl nu firsts (nI N) (sI (inF N kd)) kinds (sI (reF N kd)) seconds (sI (slF N kd ck)) sets Q (wp_X9_traceSteps_h13 nc no np nl nu firsts (nI N) (sI (inF N kd)) kinds (sI (reF N kd)) seconds (sI (slF N kd ck)) sets Q (d + 1)) _ _ _ _ _ _ _ _ _ _
    unfold wp_X9_traceSteps_b13
    refine pk_le 121 i (fun h => absurd h (by omega)) (fun _ => all_e ⟨vp_in_nI (by omega) (by omega), all_e ?_⟩)
    have hct := stpn_ct (N := N) (kd := kd) (s1 := s1) (s2 := s2) (ck := ck) (stuck := none) i x0
    refine ev_makeSteps (n := 1) (x := stpn N kd s1 s2 ck none i x0) hO hA (stpn_le i hv) (by omega) (fun a b e => all_e ?_)
    rw [nI_1, nI_clamp (by omega)]
    have es : stpn N kd s1 s2 ck none 1 (stpn N kd s1 s2 ck none i x0) = stpn N kd s1 s2 ck none (i + 1) x0 := (stpn_add i 1 x0).symm
    rw [es]
    refine ih (i + 1) _ _ _ _ (by omega) (fun j hj => ?_)
    by_cases e : j = i
    · rw [e, upd_s]; rfl
    · rw [upd_n e]; exact h j (by omega)
/-! the reference's states -/
def t3 (w : Nat → Nat) (a : Nat) : Nat → Nat
  | 0 => a
  | n + 1 => 3 * t3 w a n + w n
theorem t3_lt {w : Nat → Nat} {a : Nat} (hw : ∀ i, w i ≤ 2) : ∀ n, t3 w a n + 1 ≤ (a + 1) * 3 ^ n
  | 0 => by simp [t3]
  | n + 1 => by
    have ih := t3_lt (a := a) hw n
    have := hw n
    rw [t3, Nat.pow_succ, ← Nat.mul_assoc]
    omega
theorem t3_eq {w w' : Nat → Nat} {a a' : Nat} (hw : ∀ i, w i ≤ 2) (hw' : ∀ i, w' i ≤ 2) : ∀ n, t3 w a n = t3 w' a' n ↔ a = a' ∧ ∀ g, g < n → w g = w' g
  | 0 => ⟨fun h => ⟨h, fun g hg => absurd hg (Nat.not_lt_zero g)⟩, fun h => h.1⟩
  | n + 1 => by
    have ih := t3_eq hw hw' (a := a) (a' := a') n
    have h1 := hw n
    have h2 := hw' n
    rw [t3, t3]
    constructor
    · intro h
      obtain ⟨e1, e2⟩ := ih.mp (by omega)
      refine ⟨e1, fun g hg => ?_⟩
      by_cases e : g = n
      · rw [e]; omega
      · exact e2 g (by omega)
    · intro ⟨e1, e2⟩
      rw [ih.mpr ⟨e1, fun g hg => e2 g (by omega)⟩, e2 n (by omega)]
theorem state_loop (hN : N ≤ 10) {w : Nat → Nat} (hw : ∀ i, w i ≤ 2) {a : Nat} (ha : a ≤ 1) {f r : Nat → Int32} (hf : WR N w f) {kn : Int32} {Q : Int32 → Int32 → (Nat → Int32) → Prop} (hQ : Q (nI (t3 w a N)) kn f) :
    ∀ (d g : Nat), g + d = N → wp_X10_stateOf_h16 (nI N) kind second source r Q (d + 1) (nI (t3 w a g)) (nI g) kn f := by
  intro d
  induction d with
  | zero =>
    intro g hgd
    show wp_X10_stateOf_b16 (nI N) kind second source r Q _ _ _ _ _
    unfold wp_X10_stateOf_b16
    have e : g = N := by omega
    subst e
    exact pk_le g g (fun _ => hQ) (fun h => absurd h (by omega))
  | succ d ih =>
    intro g hgd
    show wp_X10_stateOf_b16 (nI N) kind second source r Q (wp_X10_stateOf_h16 (nI N) kind second source r Q (d + 1)) _ _ _ _
    unfold wp_X10_stateOf_b16
    rw [nI_clamp (by omega), hf g (by omega)]
    refine pk_le N g (fun h => absurd h (by omega)) (fun _ => ⟨vp_in_nI (by omega) (by omega), all_e (all_e ?_)⟩)
    rw [nI_1, show (3 : Int32) * nI (t3 w a g) = nI (3 * t3 w a g) from pk_mul 3 _, nI_add]
    exact ih (g + 1) (by omega)
theorem ev_stateOf (hO : POK N kd s1 s2 ck) (hB : PB N kd s1 s2 kind source second) {x : SX} {r : Nat → Int32} (hR : RV N kd x.1 x.2 r) (hv : ∀ i, x.1 i ≤ 2) (hc : x.2 < 2 ^ 31) {kn : Int32} {wo : Nat → Int32} {Q : Int32 → Int32 → (Nat → Int32) → Prop} (hQ : ∀ kn f, Q (nI (t3 (lv_ N kd s1 s2 x.1 none) (x.2 % 2) N)) kn f) : wp_X10_stateOf (nI N) kind kn second source wo r Q := by
  unfold wp_X10_stateOf
  refine ev_layWorth (stuck := none) hO hB hR hv (by intro g h; cases h) (fun kn f' hf' => ⟨vp_in_nI (n := 21) (by omega) (by omega), ?_⟩)
  rw [show (21 : Int32).toNatClampNeg = 21 from by decide, hR.2, show nI x.2 - nI x.2 / (2 : Int32) * (2 : Int32) = nI (x.2 % 2) from pk_rem hc (by decide) (by decide)]
  exact all_e ⟨N + 1, state_loop hO.1 (lv_le hv) (by omega) hf' (hQ kn f') N 0 (by omega)⟩
/-! the search -/
def sq (Er : Nat → Nat → Bool) (n : Nat) : Nat → Nat → Option Nat
  | 0, _ => none
  | d + 1, j => if Er n (n + 2 * j) = true then some (2 * j) else sq Er n d (j + 1)
def rq (Er : Nat → Nat → Bool) : Nat → Nat → Option (Nat × Nat)
  | 0, _ => none
  | d + 1, n => match sq Er n 30 1 with
    | some m => some (n, m)
    | none => rq Er d (n + 1)
theorem sq_le {Er : Nat → Nat → Bool} {n m : Nat} : ∀ (d j : Nat), j + d ≤ 31 → sq Er n d j = some m → m ≤ 60
  | 0, _, _, h => by cases h
  | d + 1, j, hj, h => by
    rw [sq] at h
    split at h
    · cases h; omega
    · exact sq_le d (j + 1) (by omega) h
theorem period_loop {Er : Nat → Nat → Bool} {tr : Nat → Int32} (hE : ∀ i j, i < 121 → j < 121 → (tr i = tr j ↔ Er i j = true)) {n : Nat} (hn : n ≤ 60) {Q : Int32 → Prop} :
    ∀ (d j : Nat), j + d = 31 → Q (stI (sq Er n d j)) → wp_X9_periodFrom_h11 tr (nI n) Q (d + 1) (tr n) (nI (2 * j)) := by
  intro d
  induction d with
  | zero =>
    intro j hjd hQ
    show wp_X9_periodFrom_b11 _ _ _ _ _ _
    unfold wp_X9_periodFrom_b11
    exact pk_lt 60 (2 * j) (fun _ => hQ) (fun h => absurd h (by omega))
  | succ d ih =>
    intro j hjd hQ
    show wp_X9_periodFrom_b11 _ _ _ (wp_X9_periodFrom_h11 tr (nI n) Q (d + 1)) _ _
    unfold wp_X9_periodFrom_b11
    rw [nI_add]
    refine pk_lt 60 (2 * j) (fun h => absurd h (by omega)) (fun _ => ev_cell (by omega) (by omega) ?_)
    rw [sq] at hQ
    have hiff := hE n (n + 2 * j) (by omega) (by omega)
    by_cases h : Er n (n + 2 * j) = true
    · rw [if_pos h] at hQ
      exact bn_t (hiff.mpr h).symm hQ
    · rw [if_neg h] at hQ
      refine bn_f (fun e => h (hiff.mp e.symm)) (all_e ?_)
      rw [show nI (2 * j) + (2 : Int32) = nI (2 * (j + 1)) from nI_add (2 * j) 2]
      exact ih (j + 1) (by omega) hQ
theorem roundA_loop {Er : Nat → Nat → Bool} {tr : Nat → Int32} (hE : ∀ i j, i < 121 → j < 121 → (tr i = tr j ↔ Er i j = true)) {a nc no np nl nu inp reg slow ga : Int32} {cc co cp cl cu lo lk lu : Int32} {Q : Int32 → Int32 → Int32 → Int32 → Int32 → Int32 → Int32 → Int32 → Int32 → (Nat → Int32) → Prop} :
    ∀ (d n : Nat), n + d = 61 → Q (match rq Er d n with | some q => if a = 0 then nI q.1 else nI q.2 | none => -9) cc co cp cl cu lo lk lu tr → wp_X9_round_h18 nc no np nl nu firsts ga inp kinds reg seconds slow sets a Q (d + 1) (nI n) cc co cp cl cu lo lk lu tr := by
  intro d
  induction d with
  | zero =>
    intro n hnd hQ
    show wp_X9_round_b18 nc no np nl nu firsts ga inp kinds reg seconds slow sets a Q _ _ _ _ _ _ _ _ _ _ _
    unfold wp_X9_round_b18
    exact pk_lt 60 n (fun _ => hQ) (fun h => absurd h (by omega))
  | succ d ih =>
    intro n hnd hQ
    show wp_X9_round_b18 nc no np nl nu firsts ga inp kinds reg seconds slow sets a Q (wp_X9_round_h18 nc no np nl nu firsts ga inp kinds reg seconds slow sets a Q (d + 1)) _ _ _ _ _ _ _ _ _ _
    unfold wp_X9_round_b18 wp_X9_periodFrom
    refine pk_lt 60 n (fun h => absurd h (by omega)) (fun _ => ev_cell (by omega) (by omega) ⟨31, period_loop hE (by omega) 30 1 (by omega) ?_⟩)
    rw [rq] at hQ
    cases hs : sq Er n 30 1 with
    | none =>
      rw [hs] at hQ
      refine br_t rfl (all_e ?_)
      rw [nI_1]
      exact ih (n + 1) (by omega) hQ
    | some m =>
      rw [hs] at hQ
      have hm := sq_le 30 1 (by omega) hs
      refine br_f (nI_ne9 (by omega)) ?_
      by_cases h0 : a = 0
      · refine bn_t h0 ?_
        have hQ : Q (if a = 0 then nI n else nI m) cc co cp cl cu lo lk lu tr := hQ
        rw [if_pos h0] at hQ; exact hQ
      · refine bn_f h0 ?_
        have hQ : Q (if a = 0 then nI n else nI m) cc co cp cl cu lo lk lu tr := hQ
        rw [if_neg h0] at hQ; exact hQ
theorem roundB_in {Er : Nat → Nat → Bool} {st : Nat → Int32} (hE : ∀ i j, i < 121 → j < 121 → (st i = st j ↔ (i % 2 = j % 2 ∧ Er i j = true))) {n : Nat} (hn : n ≤ 60) {a kn th ga : Int32} {pg tr wo : Nat → Int32} {Q : Int32 → Int32 → (Nat → Int32) → Int32 → (Nat → Int32) → (Nat → Int32) → Prop} {k62 : Int32 → Int32 → (Nat → Int32) → Int32 → (Nat → Int32) → (Nat → Int32) → Prop} :
    ∀ (d j : Nat), 1 ≤ j → j + d = 31 → (match sq Er n d j with | some m => Q (if a = 0 then nI n else nI m) kn st th tr wo | none => ∀ v, v = nI n + 1 → k62 v kn st th tr wo) → wp_X10_round_h70 clock ga kind pg second source a Q k62 (2 * d + 1) (nI n) (nI (2 * j - 1)) kn st th tr wo := by
  intro d
  induction d with
  | zero =>
    intro j h1 hjd hQ
    show wp_X10_round_b70 clock ga kind pg second source a Q k62 _ _ _ _ _ _ _ _
    unfold wp_X10_round_b70
    exact pk_lt 60 (2 * j - 1) (fun _ => hQ) (fun h => absurd h (by omega))
  | succ d ih =>
    intro j h1 hjd hQ
    rw [show 2 * (d + 1) + 1 = (2 * d + 1) + 1 + 1 by omega]
    show wp_X10_round_b70 clock ga kind pg second source a Q k62 (wp_X10_round_h70 clock ga kind pg second source a Q k62 ((2 * d + 1) + 1)) _ _ _ _ _ _ _
    unfold wp_X10_round_b70
    rw [nI_add, nI_clamp (by omega), nI_clamp (by omega)]
    refine pk_lt 60 (2 * j - 1) (fun h => absurd h (by omega)) (fun _ => ⟨vp_in_nI (by omega) (by omega), vp_in_nI (by omega) (by omega), bn_f (fun e => ?_) (all_e ?_)⟩)
    · have := ((hE n (n + (2 * j - 1)) (by omega) (by omega)).mp e).1
      omega
    · rw [nI_1, show 2 * j - 1 + 1 = 2 * j by omega]
      show wp_X10_round_b70 clock ga kind pg second source a Q k62 (wp_X10_round_h70 clock ga kind pg second source a Q k62 (2 * d + 1)) _ _ _ _ _ _ _
      unfold wp_X10_round_b70
      rw [nI_add, nI_clamp (by omega), nI_clamp (by omega)]
      have hiff := hE n (n + 2 * j) (by omega) (by omega)
      refine pk_lt 60 (2 * j) (fun h => absurd h (by omega)) (fun _ => ⟨vp_in_nI (by omega) (by omega), vp_in_nI (by omega) (by omega), ?_⟩)
      rw [sq] at hQ
      by_cases h : Er n (n + 2 * j) = true
      · rw [if_pos h] at hQ
        have hQ : Q (if a = 0 then nI n else nI (2 * j)) kn st th tr wo := hQ
        refine bn_t (hiff.mpr ⟨by omega, h⟩) ?_
        by_cases h0 : a = 0
        · rw [if_pos h0] at hQ; exact bn_t h0 hQ
        · rw [if_neg h0] at hQ; exact bn_f h0 hQ
      · rw [if_neg h] at hQ
        refine bn_f (fun e => h (hiff.mp e).2) (all_e ?_)
        rw [nI_1, show 2 * j + 1 = 2 * (j + 1) - 1 by omega]
        exact ih (j + 1) (by omega) (by omega) hQ
theorem roundB_out {Er : Nat → Nat → Bool} {st : Nat → Int32} (hE : ∀ i j, i < 121 → j < 121 → (st i = st j ↔ (i % 2 = j % 2 ∧ Er i j = true))) {a kn th ga : Int32} {pg tr wo : Nat → Int32} {Q : Int32 → Int32 → (Nat → Int32) → Int32 → (Nat → Int32) → (Nat → Int32) → Prop} :
    ∀ (d n : Nat), n + d = 61 → Q (match rq Er d n with | some q => if a = 0 then nI q.1 else nI q.2 | none => -9) kn st th tr wo → wp_X10_round_h62 clock ga kind pg second source a Q (d + 1) (nI n) kn st th tr wo := by
  intro d
  induction d with
  | zero =>
    intro n hnd hQ
    show wp_X10_round_b62 clock ga kind pg second source a Q _ _ _ _ _ _ _
    unfold wp_X10_round_b62
    exact pk_lt 60 n (fun _ => hQ) (fun h => absurd h (by omega))
  | succ d ih =>
    intro n hnd hQ
    show wp_X10_round_b62 clock ga kind pg second source a Q (wp_X10_round_h62 clock ga kind pg second source a Q (d + 1)) _ _ _ _ _ _
    unfold wp_X10_round_b62
    refine pk_lt 60 n (fun h => absurd h (by omega)) (fun _ => ⟨2 * 30 + 1, roundB_in hE (by omega) 30 1 (by omega) (by omega) ?_⟩)
    rw [rq] at hQ
    cases hs : sq Er n 30 1 with
    | none =>
      rw [hs] at hQ
      show ∀ v, v = nI n + 1 → _
      refine all_e ?_
      rw [nI_1]
      exact ih (n + 1) (by omega) hQ
    | some m =>
      rw [hs] at hQ
      exact hQ
theorem states_loop (hO : POK N kd s1 s2 ck) (hB : PB N kd s1 s2 kind source second) (hC : ∀ g, g < N → clock g = cI_ kd ck g) {x0 : SX} (hv : ∀ i, x0.1 i ≤ 2) (hc : x0.2 < 2 ^ 20) {a th : Int32} {pg : Nat → Int32} {Q : Int32 → Int32 → (Nat → Int32) → Int32 → (Nat → Int32) → (Nat → Int32) → Prop}
    (hQ : ∀ kn st tr wo, (∀ i, i < 121 → st i = nI (t3 (lv_ N kd s1 s2 (stpn N kd s1 s2 ck none i x0).1 none) ((x0.2 + i) % 2) N)) → ∃ n, wp_X10_round_h62 clock (nI N) kind pg second source a Q n 0 kn st th tr wo) :
    ∀ (d i : Nat) (kn : Int32) (st tr wo : Nat → Int32), i + d = 121 → RV N kd (stpn N kd s1 s2 ck none i x0).1 (stpn N kd s1 s2 ck none i x0).2 tr → (∀ j, j < i → st j = nI (t3 (lv_ N kd s1 s2 (stpn N kd s1 s2 ck none j x0).1 none) ((x0.2 + j) % 2) N)) →
      wp_X10_round_h24 clock (nI N) kind pg second source a Q (d + 1) (nI i) kn st th tr wo := by
  intro d
  induction d with
  | zero =>
    intro i kn st tr wo hid hR h
    show wp_X10_round_b24 clock (nI N) kind pg second source a Q _ _ _ _ _ _ _
    unfold wp_X10_round_b24
    exact pk_le 121 i (fun _ => hQ kn st tr wo (fun j hj => h j (by omega))) (fun h => absurd h (by omega))
  | succ d ih =>
    intro i kn st tr wo hid hR h
    show wp_X10_round_b24 clock (nI N) kind pg second source a Q (wp_X10_round_h24 clock (nI N) kind pg second source a Q (d + 1)) _ _ _ _ _ _
    unfold wp_X10_round_b24
    have hct := stpn_ct (N := N) (kd := kd) (s1 := s1) (s2 := s2) (ck := ck) (stuck := none) i x0
    refine pk_le 121 i (fun h => absurd h (by omega)) (fun _ => ev_stateOf hO hB hR (stpn_le i hv) (by omega) (fun kn f => ⟨vp_in_nI (by omega) (by omega), all_e ?_⟩))
    refine ev_stepOn (stuck := none) hO hB hC hR (stpn_le i hv) (by omega) (by intro g h; cases h) (fun kn wo r' hR' _ => all_e ?_)
    rw [nI_1, nI_clamp (by omega)]
    have es : stpn N kd s1 s2 ck none (i + 1) x0 = stp1 N kd s1 s2 ck none (stpn N kd s1 s2 ck none i x0) := stpn_succ i x0
    refine ih (i + 1) _ _ r' _ (by omega) (by rw [es]; exact hR') (fun j hj => ?_)
    by_cases e : j = i
    · rw [e, upd_s, hct]
    · rw [upd_n e]; exact h j (by omega)
end
set_option maxRecDepth 20000 in
set_option maxHeartbeats 2000000 in
theorem law_round {k : Nat} {f_keptSlots : Int32} {f_trace : Nat → Int32} {f_lastSeed : Int64} {f_text_letters : Nat → Int32} {f_text_length : Int32} {f_plan_chips : Int32} {f_plan_gates : Int32} {f_plan_inputs : Int32} {f_plan_registers : Int32} {f_plan_slowRegisters : Int32} {f_plan_kinds : Nat → Int32} {f_plan_firsts : Nat → Int32} {f_plan_seconds : Nat → Int32} {f_plan_clocks : Nat → Int32} {f_plan_sourceSets : Nat → Int32} {f_now_ones : Int32} {f_now_unknowns : Int32} {f_now_places : Int32} {f_now_pins : Int32} {f_now_count : Int32} {f_copy_ones : Int32} {f_copy_unknowns : Int32} {f_copy_places : Int32} {f_copy_pins : Int32} {f_copy_count : Int32} {f_logic_ones : Int32} {f_logic_unknowns : Int32} {f_logic_settled : Int32} {f_hist_next : Int32} {f_hist_held : Int32} {f_ring_cells : Nat → Int32} {f_kept_cells : Nat → Int32} {f_sight_steps : Nat → Int32} {f_sight_gates : Nat → Int32} {f_sight_values : Nat → Int32} {f_sight_truths : Nat → Int32} {f_sight_held : Int32} {m_thrown : Int32} {m_text : Nat → Int32} {m_textSize : Int32} {m_chips : Int32} {m_gates : Int32} {m_kind : Nat → Int32} {m_source : Nat → Int32} {m_second : Nat → Int32} {m_clock : Nat → Int32} {m_page : Nat → Int32} {m_trial : Nat → Int32} {m_book : Nat → Int32} {m_doings : Int32} {m_kept : Nat → Int32} {m_isKept : Nat → Int32} {m_seen : Int32} {m_seenBehind : Nat → Int32} {m_seenGate : Nat → Int32} {m_seenWorth : Nat → Int32} {m_seenWas : Nat → Int32} {m_seed : Int64} {m_worth : Nat → Int32} {m_known : Int32} {m_states : Nat → Int32} (hk : k < 512) (hI : Inv k f_keptSlots f_lastSeed f_text_letters f_text_length f_plan_chips f_plan_gates f_plan_inputs f_plan_registers f_plan_slowRegisters f_plan_kinds f_plan_firsts f_plan_seconds f_plan_clocks f_plan_sourceSets f_now_ones f_now_unknowns f_now_places f_now_pins f_now_count f_hist_next f_hist_held f_ring_cells f_kept_cells f_sight_steps f_sight_gates f_sight_values f_sight_truths f_sight_held m_text m_textSize m_chips m_gates m_kind m_source m_second m_clock m_page m_book m_doings m_kept m_isKept m_seen m_seenBehind m_seenGate m_seenWorth m_seenWas m_seed) (a1 : Int32) :
    wp_X9_round f_copy_count f_copy_ones f_copy_pins f_copy_places f_copy_unknowns f_logic_ones f_logic_settled f_logic_unknowns f_now_count f_now_ones f_now_pins f_now_places f_now_unknowns f_plan_firsts f_plan_gates f_plan_inputs f_plan_kinds f_plan_registers f_plan_seconds f_plan_slowRegisters f_plan_sourceSets f_trace a1 (fun r y_copy_count y_copy_ones y_copy_pins y_copy_places y_copy_unknowns y_logic_ones y_logic_settled y_logic_unknowns y_trace => wp_X10_round m_clock m_gates m_kind m_known m_page m_second m_source m_states m_thrown m_trial m_worth a1 (fun r2 z_known z_states z_thrown z_trial z_worth => r = r2 ∧ Inv (k + 1) f_keptSlots f_lastSeed f_text_letters f_text_length f_plan_chips f_plan_gates f_plan_inputs f_plan_registers f_plan_slowRegisters f_plan_kinds f_plan_firsts f_plan_seconds f_plan_clocks f_plan_sourceSets f_now_ones f_now_unknowns f_now_places f_now_pins f_now_count f_hist_next f_hist_held f_ring_cells f_kept_cells f_sight_steps f_sight_gates f_sight_values f_sight_truths f_sight_held m_text m_textSize m_chips m_gates m_kind m_source m_second m_clock m_page m_book m_doings m_kept m_isKept m_seen m_seenBehind m_seenGate m_seenWorth m_seenWas m_seed)) := by
  have same := inv_mono hI
  obtain ⟨hT, ⟨N, C, kd, s1, s2, ck, hP, ⟨z, hz, hA, hB⟩, hH, hK⟩, hSe, hSd⟩ := hI
  obtain ⟨hO, hC, ⟨rfl, rfl, rfl, rfl, rfl⟩, hPA, hck, ⟨rfl, rfl⟩, hPB, hckM⟩ := hP
  have hN := hO.1
  have hct := hz.2.2.2.2
  obtain ⟨rfl, rfl, rfl, rfl, rfl⟩ := hA
  unfold wp_X9_round wp_X10_round wp_X9_traceSteps wp_X7_takeFrom
  rcases rg_ix a1 0 1 (by omega) with ⟨n, hn1, hn, rfl⟩ | ha
  · refine in_ll (L := 0) (H := 1) hn1 hn (by omega) ⟨122, ?_⟩
    have hE : ∀ i j, (decide (∀ g, g < N → stb (kd g) = true → (stpn N kd s1 s2 ck none i (z.1, z.2.2.2)).1 g = (stpn N kd s1 s2 ck none j (z.1, z.2.2.2)).1 g)) = true ↔ ∀ g, g < N → stb (kd g) = true → (stpn N kd s1 s2 ck none i (z.1, z.2.2.2)).1 g = (stpn N kd s1 s2 ck none j (z.1, z.2.2.2)).1 g := fun i j => decide_eq_true_iff
    refine trace_loop (x0 := (z.1, z.2.2.2)) hO hPA hz.1 (by show z.2.2.2 < _; omega) (fun a b c d e f g h tr htr => ⟨62, ?_⟩) 121 0 _ _ _ _ (by omega) (fun j hj => absurd hj (by omega))
    refine roundA_loop (Er := fun i j => decide (∀ g, g < N → stb (kd g) = true → (stpn N kd s1 s2 ck none i (z.1, z.2.2.2)).1 g = (stpn N kd s1 s2 ck none j (z.1, z.2.2.2)).1 g)) (fun i j hi hj => ?_) 61 0 (by omega) ?_
    · rw [htr i hi, htr j hj, tc_eq hN (stpn_le i hz.1) (stpn_le j hz.1)]
      exact (hE i j).symm
    · refine ev_in_t (L := 0) (H := 1) hn1 hn (by omega) (bn_f (by decide) (ev_layTrial (fun t' ht => ⟨122, ?_⟩)))
      refine states_loop (x0 := (z.1, z.2.2.2)) hO hPB hckM hz.1 (by show z.2.2.2 < _; omega) (fun kn st tr wo hst => ⟨62, ?_⟩) 121 0 _ _ t' _ (by omega) (hB.cong hN ht).1 (fun j hj => absurd hj (by omega))
      refine roundB_out (Er := fun i j => decide (∀ g, g < N → stb (kd g) = true → (stpn N kd s1 s2 ck none i (z.1, z.2.2.2)).1 g = (stpn N kd s1 s2 ck none j (z.1, z.2.2.2)).1 g)) (fun i j hi hj => ?_) 61 0 (by omega) ⟨rfl, same⟩
      have b1 := t3_lt (a := (z.2.2.2 + i) % 2) (lv_le (N := N) (kd := kd) (s1 := s1) (s2 := s2) (stuck := none) (stpn_le (N := N) (kd := kd) (s1 := s1) (s2 := s2) (ck := ck) (stuck := none) i (x := (z.1, z.2.2.2)) hz.1)) N
      have b2 := t3_lt (a := (z.2.2.2 + j) % 2) (lv_le (N := N) (kd := kd) (s1 := s1) (s2 := s2) (stuck := none) (stpn_le (N := N) (kd := kd) (s1 := s1) (s2 := s2) (ck := ck) (stuck := none) j (x := (z.1, z.2.2.2)) hz.1)) N
      have b3 : 3 ^ N ≤ 3 ^ 10 := Nat.pow_le_pow_right (by omega) hN
      have b4 : ((z.2.2.2 + i) % 2 + 1) * 3 ^ N ≤ 2 * 3 ^ 10 := Nat.mul_le_mul (by omega) b3
      have b5 : ((z.2.2.2 + j) % 2 + 1) * 3 ^ N ≤ 2 * 3 ^ 10 := Nat.mul_le_mul (by omega) b3
      have b6 : (2 : Nat) * 3 ^ 10 < 2 ^ 30 := by decide
      rw [hst i hi, hst j hj, nI_eq (by show t3 _ ((z.2.2.2 + i) % 2) N < _; omega) (by show t3 _ ((z.2.2.2 + j) % 2) N < _; omega), t3_eq (lv_le (stpn_le i hz.1)) (lv_le (stpn_le j hz.1))]
      show ((z.2.2.2 + i) % 2 = (z.2.2.2 + j) % 2 ∧ _) ↔ _
      rw [hE i j]
      constructor
      · rintro ⟨p1, p2⟩
        refine ⟨by omega, fun g hg hs => ?_⟩
        have := p2 g hg
        rw [lv_st hs, lv_st hs] at this
        exact this
      · rintro ⟨p1, p2⟩
        exact ⟨by omega, fun g hg => lv_ag hO (stpn_le i hz.1) p2 hg⟩
  · exact out_ll (L := 0) (H := 1) (by omega) (by omega) ha (ev_in_f ha (bn_t rfl ⟨rfl, same⟩))
