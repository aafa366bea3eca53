/-! a whole text, on both sides -/
def PZ (N C : Nat) (kd s1 s2 ck l : Nat → Nat) : Prop := POK N kd s1 s2 ck ∧ (∀ g, g < N → l g < C) ∧ ∀ i, l i < 4
def fOK (G : Nat) (kd s1 s2 : Nat → Nat) (g : Nat) : Bool := decide ((kd g ≠ 0 → s1 g < G) ∧ (two (kd g) = true → s2 g < G))
section
variable {T : Nat} {letters text : Nat → Int32} {C : Nat}
theorem check_loop {G : Nat} {kd s1 s2 ck l : Nat → Nat} {M : Nat} (h : QK G C kd s1 s2 ck l M) {rclk rk rl rsec rsrc : Nat → Int32} (hK : KB G kd s1 s2 ck l rclk rk rl rsec rsrc (nI G)) {pl ch rpi : Int32} {Q : Int32 → Int32 → Int32 → (Nat → Int32) → Int32 → (Nat → Int32) → (Nat → Int32) → Int32 → (Nat → Int32) → (Nat → Int32) → Prop} (hQ : Q (if alB (fOK G kd s1 s2) G = true then -9 else nI T) pl ch rclk (nI G) rk rl rpi rsec rsrc) :
    ∀ (d x : Nat), x + d = G → wp_X10_readBoard_h49 text (nI T) Q (d + 1) (if alB (fOK G kd s1 s2) x = true then 1 else 0) (nI x) pl ch rclk (nI G) rk rl rpi rsec rsrc := by
  have hG := h.1
  intro d
  induction d with
  | zero =>
    intro x hxd
    show wp_X10_readBoard_b49 text (nI T) Q _ _ _ _ _ _ _ _ _ _ _ _
    unfold wp_X10_readBoard_b49
    have e : x = G := by omega
    subst e
    refine pk_le x x (fun _ => ?_) (fun h => absurd h (by omega))
    cases ha : alB (fOK x kd s1 s2) x with
    | true => rw [ha] at hQ; exact br_f (by decide) hQ
    | false => rw [ha] at hQ; exact br_t rfl hQ
  | succ d ih =>
    intro x hxd
    show wp_X10_readBoard_b49 text (nI T) Q (wp_X10_readBoard_h49 text (nI T) Q (d + 1)) _ _ _ _ _ _ _ _ _ _ _
    unfold wp_X10_readBoard_b49 wp_X10_readBoard_b91 wp_X10_readBoard_b92
    have hx : x < G := by omega
    obtain ⟨q1, q2, q3, q4, q5⟩ := hK.2 x hx
    have hs := (h.2.2.2.1 10).mp h.2.2.2.2 x hx
    rw [nI_clamp (by omega), q2, q3]
    have next : ∀ y : Int32, y = (if alB (fOK G kd s1 s2) (x + 1) = true then 1 else 0) → ∀ v1, v1 = nI x + 1 → wp_X10_readBoard_h49 text (nI T) Q (d + 1) y v1 pl ch rclk (nI G) rk rl rpi rsec rsrc := by
      intro y hy v1 h1
      rw [h1, nI_1, hy]
      exact ih (x + 1) (by omega)
    refine pk_le G x (fun h => absurd h (by omega)) (fun _ => ?_)
    have ix : vp_in (nI x) 10 := vp_in_nI (by omega) (by omega)
    cases ha : alB (fOK G kd s1 s2) x with
    | false => exact br_t rfl (next 0 (by rw [alB, ha]; rfl))
    | true =>
      refine br_f (by decide) ⟨ix, ?_⟩
      have a1 : nI G ≤ fI kd s1 x ↔ kd x ≠ 0 ∧ G ≤ s1 x := by
        unfold fI
        by_cases h0 : kd x = 0
        · rw [if_pos h0, lit_le (by omega), show (-9 : Int32).toInt = -9 by decide]
          exact ⟨fun z => absurd z (by omega), fun z => absurd h0 z.1⟩
        · rw [if_neg h0, nI_leI (by omega) (by have := hs.1 h0; omega)]; exact ⟨fun z => ⟨h0, z⟩, fun z => z.2⟩
      have a2 : nI G ≤ eI kd s2 x ↔ two (kd x) = true ∧ G ≤ s2 x := by
        unfold eI
        by_cases h0 : two (kd x) = true
        · rw [if_pos h0, nI_leI (by omega) (by have := hs.2 h0; omega)]; exact ⟨fun z => ⟨h0, z⟩, fun z => z.2⟩
        · rw [if_neg h0, lit_le (by omega), show (-9 : Int32).toInt = -9 by decide]
          exact ⟨fun z => absurd z (by omega), fun z => absurd z.1 h0⟩
      by_cases c1 : nI G ≤ fI kd s1 x
      · refine br_t c1 (next 0 ?_)
        have := a1.mp c1
        have f : fOK G kd s1 s2 x = false := by unfold fOK; exact decide_eq_false (fun z => by have := z.1 this.1; omega)
        rw [alB, f, Bool.and_false]; rfl
      · refine br_f c1 ⟨ix, ?_⟩
        by_cases c2 : nI G ≤ eI kd s2 x
        · refine br_t c2 (next 0 ?_)
          have := a2.mp c2
          have f : fOK G kd s1 s2 x = false := by unfold fOK; exact decide_eq_false (fun z => by have := z.2 this.1; omega)
          rw [alB, f, Bool.and_false]; rfl
        · refine br_f c2 (next 1 ?_)
          have f : fOK G kd s1 s2 x = true := by
            unfold fOK
            refine decide_eq_true ⟨fun z => ?_, fun z => ?_⟩
            · apply Classical.byContradiction; intro w; exact c1 (a1.mpr ⟨z, by omega⟩)
            · apply Classical.byContradiction; intro w; exact c2 (a2.mpr ⟨z, by omega⟩)
          rw [alB, ha, f]; rfl
theorem gates_sim (hT : T ≤ 90) (hl : ∀ j, j < T → letters j = text j) (hC : 1 ≤ C ∧ C ≤ 4) : ∀ (m i G : Nat) (kd s1 s2 ck l : Nat → Nat) (M : Nat), T - i ≤ m → i ≤ T → QK G C kd s1 s2 ck l M →
    ∃ (res : Int32) (N : Nat) (kd' s1' s2' ck' l' : Nat → Nat) (nf : Nat), (res = -9 → PZ N C kd' s1' s2' ck' l') ∧
      (∀ (Q : Int32 → Int32 → Int32 → Int32 → (Nat → Int32) → Int32 → Int32 → (Nat → Int32) → Int32 → Int32 → (Nat → Int32) → Int32 → (Nat → Int32) → Int32 → (Nat → Int32) → Prop) (gs fpi fpl ga inp re sl : Int32) (clo fi ki se ss : Nat → Int32), KA G kd s1 s2 ck l clo fi ki se ss fpl ga inp re sl → GS gs M → (∀ gs pl ch clo fpi' fpl fi ga inp ki re se sl ss, (res = -9 → ch = nI C ∧ fpi' = fpi ∧ KA N kd' s1' s2' ck' l' clo fi ki se ss fpl ga inp re sl) → Q res gs pl ch clo fpi' fpl fi ga inp ki re se sl ss) → wp_X3_read_h17 (nI T) letters Q (T - i + 1) (nI i) gs 3 (nI C) clo fpi fpl fi ga inp ki re se sl ss) ∧
      (∀ (Q : Int32 → Int32 → Int32 → (Nat → Int32) → Int32 → (Nat → Int32) → (Nat → Int32) → Int32 → (Nat → Int32) → (Nat → Int32) → Prop) (rga rpi : Int32) (rclk rk rl rsec rsrc : Nat → Int32), KB G kd s1 s2 ck l rclk rk rl rsec rsrc rga → (∀ pl ch rclk rga rk rl rpi' rsec rsrc, (res = -9 → ch = nI C ∧ rpi' = rpi ∧ KB N kd' s1' s2' ck' l' rclk rk rl rsec rsrc rga) → Q res pl ch rclk rga rk rl rpi' rsec rsrc) → wp_X10_readBoard_h22 text (nI T) Q nf (nI i) (nI C) rclk rga rk rl rpi rsec rsrc) := by
  intro m
  induction m with
  | zero =>
    intro i G kd s1 s2 ck l M hm hi h
    have hiT : i = T := by omega
    subst hiT
    have hG := h.1
    have iff : alB (fOK G kd s1 s2) G = true ↔ M ≤ G := by
      rw [h.2.2.2.1 G, alB_t]
      exact ⟨fun z g hg => of_decide_eq_true (z g hg), fun z g hg => decide_eq_true (z g hg)⟩
    refine ⟨if alB (fOK G kd s1 s2) G = true then -9 else nI i, G, kd, s1, s2, ck, l, 1, fun e => ?_, ?_, ?_⟩
    · have ha : alB (fOK G kd s1 s2) G = true := by
        cases hh : alB (fOK G kd s1 s2) G with
        | true => rfl
        | false => rw [hh] at e; exact absurd e (nI_ne9 (by omega))
      have hs := (h.2.2.2.1 G).mp (iff.mp ha)
      exact ⟨⟨hG, fun g hg => ⟨(h.2.2.1 g hg).1, (hs g hg).1, (hs g hg).2, (h.2.2.1 g hg).2.2⟩⟩, fun g hg => (h.2.2.1 g hg).2.1, h.2.1⟩
    · intro Q gs fpi fpl ga inp re sl clo fi ki se ss hK hgs hQ
      rw [Nat.sub_self]
      show wp_X3_read_b17 _ _ _ _ _ _ _ _ _ _ _ _ _ _ _ _ _ _ _
      unfold wp_X3_read_b17 wp_X3_read_b81
      have q := hQ gs 3 (nI C) clo fpi fpl fi ga inp ki re se sl ss (fun _ => ⟨rfl, rfl, hK⟩)
      have e := hgs G (by omega)
      refine pk_le i i (fun _ => bn_t rfl ?_) (fun h => absurd h (by omega))
      rw [hK.1] at q ⊢
      by_cases hMG : M ≤ G
      · rw [iff.mpr hMG, if_pos rfl] at q
        refine br_f (fun z => ?_) q
        have := e.mpr hMG
        rw [Int32.lt_iff_toInt_lt] at this; rw [Int32.le_iff_toInt_le] at z; omega
      · have : alB (fOK G kd s1 s2) G = false := by
          cases hh : alB (fOK G kd s1 s2) G with
          | false => rfl
          | true => exact absurd (iff.mp hh) hMG
        rw [this, if_neg (by decide)] at q
        refine br_t ?_ q
        rw [Int32.le_iff_toInt_le]
        have : ¬ gs < nI G := fun z => hMG (e.mp z)
        rw [Int32.lt_iff_toInt_lt] at this; omega
    · intro Q rga rpi rclk rk rl rsec rsrc hK hQ
      show wp_X10_readBoard_b22 _ _ _ _ _ _ _ _ _ _ _ _ _
      unfold wp_X10_readBoard_b22
      have q := hQ (nI i) (nI C) rclk rga rk rl rpi rsec rsrc (fun _ => ⟨rfl, rfl, hK⟩)
      have hr := hK.1
      subst hr
      exact pk_le i i (fun _ => ⟨G + 1, check_loop h hK q G 0 (by omega)⟩) (fun h => absurd h (by omega))
  | succ m ih =>
    intro i G kd s1 s2 ck l M hm hi h
    by_cases hiT : i = T
    · exact ih i G kd s1 s2 ck l M (by omega) hi h
    have hlt : i < T := by omega
    rcases part_sim hT hl hC hlt h with ⟨q, hq1, hq2, hA, hB⟩ | ⟨kd1, s11, s21, ck1, l1, M1, i1, hi1, hi2, hG, h1, hA, hB⟩
    · refine ⟨nI q, 0, kd, s1, s2, ck, l, 1, fun e => absurd e (nI_ne9 (by omega)), ?_, ?_⟩
      · intro Q gs fpi fpl ga inp re sl clo fi ki se ss hK hgs hQ
        exact hA Q gs fpi fpl ga inp re sl clo fi ki se ss hK (fun _ _ _ _ _ _ _ _ _ _ _ _ _ _ => hQ _ _ _ _ _ _ _ _ _ _ _ _ _ _ (fun e => absurd e (nI_ne9 (by omega))))
      · intro Q rga rpi rclk rk rl rsec rsrc hK hQ
        show wp_X10_readBoard_b22 _ _ _ _ _ _ _ _ _ _ _ _ _
        unfold wp_X10_readBoard_b22
        refine pk_le T i (fun h => absurd h (by omega)) (fun _ => hB _ _ _ _ _ _ _ hK (fun _ _ _ _ _ _ => bn_t rfl (hQ _ _ _ _ _ _ _ _ _ (fun e => absurd e (nI_ne9 (by omega))))))
    · obtain ⟨res, N, kd', s1', s2', ck', l', nf, hz, gA, gB⟩ := ih i1 (G + 1) kd1 s11 s21 ck1 l1 M1 (by omega) hi2 h1
      refine ⟨res, N, kd', s1', s2', ck', l', nf + 1, hz, ?_, ?_⟩
      · intro Q gs fpi fpl ga inp re sl clo fi ki se ss hK hgs hQ
        exact hA Q gs fpi fpl ga inp re sl clo fi ki se ss hK hgs (fun gs fpl ga inp re sl clo fi ki se ss hK' hgs' => gA Q gs fpi fpl ga inp re sl clo fi ki se ss hK' hgs' hQ)
      · intro Q rga rpi rclk rk rl rsec rsrc hK hQ
        show wp_X10_readBoard_b22 _ _ _ (wp_X10_readBoard_h22 text (nI T) Q nf) _ _ _ _ _ _ _ _ _
        unfold wp_X10_readBoard_b22
        exact pk_le T i (fun h => absurd h (by omega)) (fun _ => hB _ _ _ _ _ _ _ hK (fun rclk rga rk rl rsec rsrc hK' => bn_f (by decide) (gB Q rga rpi rclk rk rl rsec rsrc hK' hQ)))
theorem pI_0 : pI (fun _ => 0) = 0 := by decide +kernel
theorem all_sim (hT : T ≤ 90) (hl : ∀ j, j < T → letters j = text j) : ∃ (res : Int32) (N C p : Nat) (kd s1 s2 ck l : Nat → Nat), (res = -9 → PZ N C kd s1 s2 ck l ∧ (1 ≤ C ∧ C ≤ 4) ∧ (1 ≤ p ∧ p ≤ 9)) ∧
      (∀ (Q : Int32 → Int32 → Int32 → Int32 → (Nat → Int32) → Int32 → Int32 → (Nat → Int32) → Int32 → Int32 → (Nat → Int32) → Int32 → (Nat → Int32) → Int32 → (Nat → Int32) → Prop) (gs pl ch fpi fpl ga inp re sl : Int32) (clo fi ki se ss : Nat → Int32), (∀ gs pl ch clo fpi fpl fi ga inp ki re se sl ss, (res = -9 → ch = nI C ∧ fpi = nI p ∧ KA N kd s1 s2 ck l clo fi ki se ss fpl ga inp re sl) → Q res gs pl ch clo fpi fpl fi ga inp ki re se sl ss) → wp_X3_read gs pl (nI T) letters ch clo fpi fpl fi ga inp ki re se sl ss Q) ∧
      (∀ (Q : Int32 → Int32 → Int32 → (Nat → Int32) → Int32 → (Nat → Int32) → (Nat → Int32) → Int32 → (Nat → Int32) → (Nat → Int32) → Prop) (pl rch rga rpi : Int32) (rclk rk rl rsec rsrc : Nat → Int32), (∀ pl ch rclk rga rk rl rpi rsec rsrc, (res = -9 → ch = nI C ∧ rpi = nI p ∧ KB N kd s1 s2 ck l rclk rk rl rsec rsrc rga) → Q res pl ch rclk rga rk rl rpi rsec rsrc) → wp_X10_readBoard pl rch rclk rga rk rl rpi rsec rsrc text (nI T) Q) := by
  have z0 : (0 : Int32).toNatClampNeg = 0 := by decide
  by_cases hB : 0 < T ∧ text 0 = 66
  case neg =>
    refine ⟨nI 0, 0, 1, 1, fun _ => 0, fun _ => 0, fun _ => 0, fun _ => 0, fun _ => 0, fun e => absurd e (by decide), ?_, ?_⟩
    · intro Q gs pl ch fpi fpl ga inp re sl clo fi ki se ss hQ
      unfold wp_X3_read wp_X2_clear
      refine ⟨1, ?_⟩
      show wp_X3_read_b17 _ _ _ _ _ _ _ _ _ _ _ _ _ _ _ _ _ _ _
      unfold wp_X3_read_b17 wp_X3_read_b81 wp_X8_letterAt wp_X3_fits
      have q := fun a b c d e f g h i j k l m n => hQ a b c d e f g h i j k l m n (fun z => absurd z (by decide))
      refine pk_le T 0 (fun h => ?_) (fun h => ev_cell (j := 0) (by omega) (by omega) ?_)
      · have e0 : T = 0 := by omega
        subst e0
        exact bn_f (by decide) (q _ _ _ _ _ _ _ _ _ _ _ _ _ _)
      · rw [hl 0 h]
        exact all_e (br_t rfl (bn_f (fun z => hB ⟨h, z⟩) (bn_t rfl (q _ _ _ _ _ _ _ _ _ _ _ _ _ _))))
    · intro Q pl rch rga rpi rclk rk rl rsec rsrc hQ
      unfold wp_X10_readBoard wp_X10_readHead
      rw [z0]
      have q := fun a b c d e f g h i => hQ a b c d e f g h i (fun z => absurd z (by decide))
      refine pk_eq T 0 (fun _ => bn_t rfl (q _ _ _ _ _ _ _ _ _)) (fun h => ⟨vp_in_nI (n := 0) (by omega) (by omega), br_f (fun z => hB ⟨by omega, z⟩) (bn_t rfl (q _ _ _ _ _ _ _ _ _))⟩)
  case pos =>
  obtain ⟨h0, hB⟩ := hB
  have cB : ∀ (Q : Int32 → Int32 → Int32 → Int32 → (Nat → Int32) → Int32 → Int32 → (Nat → Int32) → Int32 → Int32 → (Nat → Int32) → Int32 → (Nat → Int32) → Int32 → (Nat → Int32) → Prop) (gs pl ch fpi fpl ga inp re sl : Int32) (clo fi ki se ss : Nat → Int32), wp_X3_read_h17 (nI T) letters Q (T - 1 + 1) (nI 1) (-9) (nI 1) (nI 1) clo 1 0 fi 0 0 ki 0 se 0 ss → wp_X3_read gs pl (nI T) letters ch clo fpi fpl fi ga inp ki re se sl ss Q := by
    intro Q gs pl ch fpi fpl ga inp re sl clo fi ki se ss hQ
    unfold wp_X3_read wp_X2_clear
    refine ⟨T - 1 + 1 + 1, ?_⟩
    show wp_X3_read_b17 _ _ _ (wp_X3_read_h17 (nI T) letters Q (T - 1 + 1)) _ _ _ _ _ _ _ _ _ _ _ _ _ _ _
    unfold wp_X3_read_b17 wp_X8_letterAt wp_X3_fits wp_X3_take
    refine pk_le T 0 (fun h => absurd h (by omega)) (fun h => ev_cell (j := 0) (by omega) (by omega) ?_)
    rw [hl 0 h0]
    exact all_e (br_t rfl (bn_t hB (bn_f (by decide) (all_e (br_t rfl (all_e hQ))))))
  have rB : ∀ (Q : Int32 → Int32 → Int32 → (Nat → Int32) → Int32 → (Nat → Int32) → (Nat → Int32) → Int32 → (Nat → Int32) → (Nat → Int32) → Prop) (pl rch rga rpi : Int32) (rclk rk rl rsec rsrc : Nat → Int32), wp_X10_figure (nI 1) text (nI T) (nI 1) (nI 4) (fun r3 y4 => ((¬ r3 = (-9 : Int32)) → (wp_X10_figure y4 text (nI T) (nI 1) (nI 9) (fun r6 y7 => ((r6 = (-9 : Int32)) → (((¬ (0 : Int32) = 0) → (∃ n, wp_X10_readBoard_h22 text (nI T) Q n y7 r3 rclk 0 rk rl r6 rsec rsrc)) ∧ (((0 : Int32) = 0) → Q y7 y7 r3 rclk 0 rk rl r6 rsec rsrc))) ∧ ((¬ r6 = (-9 : Int32)) → (((¬ (1 : Int32) = 0) → (∃ n, wp_X10_readBoard_h22 text (nI T) Q n y7 r3 rclk 0 rk rl r6 rsec rsrc)) ∧ (((1 : Int32) = 0) → Q y7 y7 r3 rclk 0 rk rl r6 rsec rsrc)))))) ∧ ((r3 = (-9 : Int32)) → (((¬ (0 : Int32) = 0) → (∃ n, wp_X10_readBoard_h22 text (nI T) Q n y4 r3 rclk 0 rk rl rpi rsec rsrc)) ∧ (((0 : Int32) = 0) → Q y4 y4 r3 rclk 0 rk rl rpi rsec rsrc)))) → wp_X10_readBoard pl rch rclk rga rk rl rpi rsec rsrc text (nI T) Q := by
    intro Q pl rch rga rpi rclk rk rl rsec rsrc hQ
    unfold wp_X10_readBoard wp_X10_readHead
    rw [z0]
    exact pk_eq T 0 (fun h => absurd h (by omega)) (fun h => ⟨vp_in_nI (n := 0) (by omega) (by omega), br_t hB hQ⟩)
  rcases rd_case (text := text) (T := T) (i := 1) (L := 1) (H := 4) (by omega) (by omega) with ⟨c, hi1, hc1, hc2, hjc⟩ | hno
  case inr =>
    refine ⟨nI 1, 0, 1, 1, fun _ => 0, fun _ => 0, fun _ => 0, fun _ => 0, fun _ => 0, fun e => absurd e (by decide), ?_, ?_⟩
    · intro Q gs pl ch fpi fpl ga inp re sl clo fi ki se ss hQ
      exact cB Q _ _ _ _ _ _ _ _ _ _ _ _ _ _ (cl_no (pl := 1) (C := 1) hT hl (Or.inl rfl) ⟨by omega, by omega⟩ hno (hQ _ _ _ _ _ _ _ _ _ _ _ _ _ _ (fun z => absurd z (by decide))))
    · intro Q pl rch rga rpi rclk rk rl rsec rsrc hQ
      exact rB Q _ _ _ _ _ _ _ _ _ (fig_no hT (by omega) (by omega) hno (bn_t rfl (bn_t rfl (hQ _ _ _ _ _ _ _ _ _ (fun z => absurd z (by decide))))))
  rcases rd_case (text := text) (T := T) (i := 1 + 1) (L := 1) (H := 9) (by omega) (by omega) with ⟨p, hi2, hp1, hp2, hjp⟩ | hno
  case inr =>
    refine ⟨nI (1 + 1), 0, 1, 1, fun _ => 0, fun _ => 0, fun _ => 0, fun _ => 0, fun _ => 0, fun e => absurd e (by decide), ?_, ?_⟩
    · intro Q gs pl ch fpi fpl ga inp re sl clo fi ki se ss hQ
      refine cB Q _ _ _ _ _ _ _ _ _ _ _ _ _ _ ?_
      rw [fuel_s hi1]
      refine cl_ok (pl := 1) (C := 1) hT hl (Or.inl rfl) ⟨by omega, by omega⟩ hi1 hc1 hc2 hjc ?_
      unfold wp_X3_take
      refine ax hjc (br_f (by decide) (br_t rfl ?_))
      exact cl_no (pl := 2) (C := c) hT hl (Or.inr (Or.inl rfl)) ⟨hc1, hc2⟩ hno (hQ _ _ _ _ _ _ _ _ _ _ _ _ _ _ (fun z => absurd z (by decide)))
    · intro Q pl rch rga rpi rclk rk rl rsec rsrc hQ
      refine rB Q _ _ _ _ _ _ _ _ _ (fig_ok hT hi1 hc1 hc2 (by omega) hjc (bn_f (nI_ne9 (by omega)) ?_))
      exact fig_no hT (by omega) (by omega) hno (br_t rfl (bn_t rfl (hQ _ _ _ _ _ _ _ _ _ (fun z => absurd z (by decide)))))
  obtain ⟨res, N, kd', s1', s2', ck', l', nf, hz, gA, gB⟩ := gates_sim (T := T) (letters := letters) (text := text) (C := c) hT hl ⟨hc1, hc2⟩ (T - (1 + 1 + 1)) (1 + 1 + 1) 0 (fun _ => 0) (fun _ => 0) (fun _ => 0) (fun _ => 0) (fun _ => 0) 0 (Nat.le_refl _) (by omega) ⟨by omega, fun _ => by show 0 < 4; omega, fun g hg => absurd hg (by omega), fun n => ⟨fun _ g hg => absurd hg (by omega), fun _ => by omega⟩, by omega⟩
  refine ⟨res, N, c, p, kd', s1', s2', ck', l', fun e => ⟨hz e, ⟨hc1, hc2⟩, hp1, hp2⟩, ?_, ?_⟩
  · intro Q gs pl ch fpi fpl ga inp re sl clo fi ki se ss hQ
    refine cB Q _ _ _ _ _ _ _ _ _ _ _ _ _ _ ?_
    rw [fuel_s hi1, fuel_s hi2]
    refine cl_ok (pl := 1) (C := 1) hT hl (Or.inl rfl) ⟨by omega, by omega⟩ hi1 hc1 hc2 hjc ?_
    unfold wp_X3_take
    refine ax hjc (br_f (by decide) (br_t rfl ?_))
    refine cl_ok (pl := 2) (C := c) hT hl (Or.inr (Or.inl rfl)) ⟨hc1, hc2⟩ hi2 hp1 hp2 hjp ?_
    unfold wp_X3_take
    refine ax hjp (br_f (by decide) (br_f (by decide) (br_t rfl ?_)))
    refine gA Q (-9) (nI p) 0 0 0 0 0 clo fi ki se ss ⟨rfl, ?_, ?_, ?_, ?_, fun g hg => absurd hg (by omega)⟩ (fun n hn => ⟨fun _ => by omega, fun _ => ?_⟩) hQ
    · decide +kernel
    · decide +kernel
    · decide +kernel
    · decide +kernel
    · rw [Int32.lt_iff_toInt_lt, nI_toInt (by omega), show (-9 : Int32).toInt = -9 by decide]; omega
  · intro Q pl rch rga rpi rclk rk rl rsec rsrc hQ
    refine rB Q _ _ _ _ _ _ _ _ _ (fig_ok hT hi1 hc1 hc2 (by omega) hjc (bn_f (nI_ne9 (by omega)) ?_))
    refine fig_ok hT hi2 hp1 hp2 (by omega) hjp (br_f (nI_ne9 (by omega)) (bn_f (by decide) ⟨nf, ?_⟩))
    exact gB Q 0 (nI p) rclk rk rl rsec rsrc ⟨rfl, fun g hg => absurd hg (by omega)⟩ hQ
end
set_option maxRecDepth 20000 in
set_option maxHeartbeats 2000000 in
theorem law_fault {k : Nat} {f_keptSlots : Int32} {f_lastSeed : Int64} {f_text_letters : Nat → Int32} {f_text_length : Int32} {f_reader_place : Int32} {f_reader_greatestSource : Int32} {f_plan_chips : Int32} {f_plan_gates : Int32} {f_plan_inputs : Int32} {f_plan_registers : Int32} {f_plan_slowRegisters : Int32} {f_plan_kinds : Nat → Int32} {f_plan_firsts : Nat → Int32} {f_plan_seconds : Nat → Int32} {f_plan_clocks : Nat → Int32} {f_plan_sourceSets : Nat → Int32} {f_spare_chips : Int32} {f_spare_firstPins : Int32} {f_spare_firstPlaces : Int32} {f_spare_gates : Int32} {f_spare_inputs : Int32} {f_spare_registers : Int32} {f_spare_slowRegisters : Int32} {f_spare_kinds : Nat → Int32} {f_spare_firsts : Nat → Int32} {f_spare_seconds : Nat → Int32} {f_spare_clocks : Nat → Int32} {f_spare_sourceSets : Nat → Int32} {f_now_ones : Int32} {f_now_unknowns : Int32} {f_now_places : Int32} {f_now_pins : Int32} {f_now_count : Int32} {f_hist_next : Int32} {f_hist_held : Int32} {f_ring_cells : Nat → Int32} {f_kept_cells : Nat → Int32} {f_sight_steps : Nat → Int32} {f_sight_gates : Nat → Int32} {f_sight_values : Nat → Int32} {f_sight_truths : Nat → Int32} {f_sight_held : Int32} {m_thrown : Int32} {m_text : Nat → Int32} {m_textSize : Int32} {m_place : Int32} {m_chips : Int32} {m_gates : Int32} {m_kind : Nat → Int32} {m_source : Nat → Int32} {m_second : Nat → Int32} {m_clock : Nat → Int32} {m_readChips : Int32} {m_readPins : Int32} {m_readGates : Int32} {m_readKind : Nat → Int32} {m_readLies : Nat → Int32} {m_readSource : Nat → Int32} {m_readSecond : Nat → Int32} {m_readClock : Nat → Int32} {m_page : Nat → Int32} {m_book : Nat → Int32} {m_doings : Int32} {m_kept : Nat → Int32} {m_isKept : Nat → Int32} {m_seen : Int32} {m_seenBehind : Nat → Int32} {m_seenGate : Nat → Int32} {m_seenWorth : Nat → Int32} {m_seenWas : Nat → Int32} {m_seed : Int64} (hk : k < 512) (hI : Inv k f_keptSlots f_lastSeed f_text_letters f_text_length f_plan_chips f_plan_gates f_plan_inputs f_plan_registers f_plan_slowRegisters f_plan_kinds f_plan_firsts f_plan_seconds f_plan_clocks f_plan_sourceSets f_now_ones f_now_unknowns f_now_places f_now_pins f_now_count f_hist_next f_hist_held f_ring_cells f_kept_cells f_sight_steps f_sight_gates f_sight_values f_sight_truths f_sight_held m_text m_textSize m_chips m_gates m_kind m_source m_second m_clock m_page m_book m_doings m_kept m_isKept m_seen m_seenBehind m_seenGate m_seenWorth m_seenWas m_seed)  :
    wp_X9_fault f_reader_greatestSource f_reader_place f_spare_chips f_spare_clocks f_spare_firstPins f_spare_firstPlaces f_spare_firsts f_spare_gates f_spare_inputs f_spare_kinds f_spare_registers f_spare_seconds f_spare_slowRegisters f_spare_sourceSets f_text_length f_text_letters  (fun r y_reader_greatestSource y_reader_place y_spare_chips y_spare_clocks y_spare_firstPins y_spare_firstPlaces y_spare_firsts y_spare_gates y_spare_inputs y_spare_kinds y_spare_registers y_spare_seconds y_spare_slowRegisters y_spare_sourceSets => wp_X10_fault m_place m_readChips m_readClock m_readGates m_readKind m_readLies m_readPins m_readSecond m_readSource m_text m_textSize m_thrown  (fun r2 z_place z_readChips z_readClock z_readGates z_readKind z_readLies z_readPins z_readSecond z_readSource z_thrown => r = r2 ∧ Inv (k + 1) f_keptSlots f_lastSeed f_text_letters f_text_length f_plan_chips f_plan_gates f_plan_inputs f_plan_registers f_plan_slowRegisters f_plan_kinds f_plan_firsts f_plan_seconds f_plan_clocks f_plan_sourceSets f_now_ones f_now_unknowns f_now_places f_now_pins f_now_count f_hist_next f_hist_held f_ring_cells f_kept_cells f_sight_steps f_sight_gates f_sight_values f_sight_truths f_sight_held m_text m_textSize m_chips m_gates m_kind m_source m_second m_clock m_page m_book m_doings m_kept m_isKept m_seen m_seenBehind m_seenGate m_seenWorth m_seenWas m_seed)) := by
  have same := inv_mono hI
  obtain ⟨⟨T, hT, rfl, rfl, hL⟩, hrest⟩ := hI
  obtain ⟨res, N, C, p, kd, s1, s2, ck, l, _, h1, h2⟩ := all_sim (letters := f_text_letters) (text := m_text) hT (fun j hj => (hL j hj).1)
  unfold wp_X9_fault wp_X10_fault
  exact h1 _ _ _ _ _ _ _ _ _ _ _ _ _ _ _ (fun gs pl ch clo fpi fpl fi ga inp ki re se sl ss _ => h2 _ _ _ _ _ _ _ _ _ _ (fun pl ch rclk rga rk rl rpi rsec rsrc _ => ⟨rfl, same⟩))
