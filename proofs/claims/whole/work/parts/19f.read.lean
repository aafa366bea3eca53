/-! ===== one gate: both sides agree ===== -/
section
variable {T : Nat} {letters text : Nat → Int32} {G C : Nat} {kd s1 s2 ck l : Nat → Nat} {M i : Nat}
def PFa (T : Nat) (letters : Nat → Int32) (G C : Nat) (kd s1 s2 ck l : Nat → Nat) (i q : Nat) : Prop := ∀ (Q : Int32 → Int32 → Int32 → Int32 → (Nat → Int32) → Int32 → Int32 → (Nat → Int32) → Int32 → Int32 → (Nat → Int32) → Int32 → (Nat → Int32) → Int32 → (Nat → Int32) → Prop) (gs fpi fpl ga inp re sl : Int32) (clo fi ki se ss : Nat → Int32), KA G kd s1 s2 ck l clo fi ki se ss fpl ga inp re sl → (∀ gs pl ch clo fpi fpl fi ga inp ki re se sl ss, Q (nI q) gs pl ch clo fpi fpl fi ga inp ki re se sl ss) → wp_X3_read_h17 (nI T) letters Q (T - i + 1) (nI i) gs 3 (nI C) clo fpi fpl fi ga inp ki re se sl ss
def PFb (T : Nat) (text : Nat → Int32) (G C : Nat) (kd s1 s2 ck l : Nat → Nat) (i q : Nat) : Prop := ∀ (Q : Int32 → Int32 → (Nat → Int32) → Int32 → (Nat → Int32) → (Nat → Int32) → (Nat → Int32) → (Nat → Int32) → Prop) (rga : Int32) (rclk rk rl rsec rsrc : Nat → Int32), KB G kd s1 s2 ck l rclk rk rl rsec rsrc rga → (∀ rclk rga rk rl rsec rsrc, Q 0 (nI q) rclk rga rk rl rsec rsrc) → wp_X10_readPart (nI i) (nI C) rclk rga rk rl rsec rsrc text (nI T) Q
def PSa (T : Nat) (letters : Nat → Int32) (G C : Nat) (kd s1 s2 ck l : Nat → Nat) (M i : Nat) (kd' s1' s2' ck' l' : Nat → Nat) (M' i' : Nat) : Prop := ∀ (Q : Int32 → Int32 → Int32 → Int32 → (Nat → Int32) → Int32 → Int32 → (Nat → Int32) → Int32 → Int32 → (Nat → Int32) → Int32 → (Nat → Int32) → Int32 → (Nat → Int32) → Prop) (gs fpi fpl ga inp re sl : Int32) (clo fi ki se ss : Nat → Int32), KA G kd s1 s2 ck l clo fi ki se ss fpl ga inp re sl → GS gs M → (∀ gs fpl ga inp re sl clo fi ki se ss, KA (G + 1) kd' s1' s2' ck' l' clo fi ki se ss fpl ga inp re sl → GS gs M' → wp_X3_read_h17 (nI T) letters Q (T - i' + 1) (nI i') gs 3 (nI C) clo fpi fpl fi ga inp ki re se sl ss) → wp_X3_read_h17 (nI T) letters Q (T - i + 1) (nI i) gs 3 (nI C) clo fpi fpl fi ga inp ki re se sl ss
def PSb (T : Nat) (text : Nat → Int32) (G C : Nat) (kd s1 s2 ck l : Nat → Nat) (i : Nat) (kd' s1' s2' ck' l' : Nat → Nat) (i' : Nat) : Prop := ∀ (Q : Int32 → Int32 → (Nat → Int32) → Int32 → (Nat → Int32) → (Nat → Int32) → (Nat → Int32) → (Nat → Int32) → Prop) (rga : Int32) (rclk rk rl rsec rsrc : Nat → Int32), KB G kd s1 s2 ck l rclk rk rl rsec rsrc rga → (∀ rclk rga rk rl rsec rsrc, KB (G + 1) kd' s1' s2' ck' l' rclk rk rl rsec rsrc rga → Q 1 (nI i') rclk rga rk rl rsec rsrc) → wp_X10_readPart (nI i) (nI C) rclk rga rk rl rsec rsrc text (nI T) Q
/-- the reference's way into a gate -/
theorem rp_in (hT : T ≤ 90) (hC : 1 ≤ C ∧ C ≤ 4) (hG : G < 10) (hi : i < T) {k : Nat} (hk : k ≤ 5) (hkm : ∀ Q : Int32 → Prop, Q (nI k) → wp_X10_kindOf (text i) Q) {rclk rk rl rsec rsrc : Nat → Int32} {Q : Int32 → Int32 → (Nat → Int32) → Int32 → (Nat → Int32) → (Nat → Int32) → (Nat → Int32) → (Nat → Int32) → Prop}
    (hQ : wp_X10_figure (nI (i + 1)) text (nI T) (nI 0) (nI (C - 1)) (fun r21 y22 => (vp_in (nI G) 10) ∧ ∀ y23, y23 = upd rl G r21 → ((vp_in (nI G) 10) ∧ (((¬ (y23 G) = (-9 : Int32)) → (((nI k = 0) → (wp_X10_readPart_b136 (nI C) text (nI T) Q (nI k) (nI G) y22 (upd rclk G (-9)) (nI G) (upd rk G (nI k)) y23 (upd rsec G (-9)) (upd rsrc G (-9)))) ∧ ((¬ nI k = 0) → (wp_X10_figure y22 text (nI T) (nI 0) (nI 9) (fun r26 y27 => (vp_in (nI G) 10) ∧ ∀ y28, y28 = upd (upd rsrc G (-9)) G r26 → ((vp_in (nI G) 10) ∧ (((¬ (y28 G) = (-9 : Int32)) → (wp_X10_readPart_b136 (nI C) text (nI T) Q (nI k) (nI G) y27 (upd rclk G (-9)) (nI G) (upd rk G (nI k)) y23 (upd rsec G (-9)) y28)) ∧ (((y28 G) = (-9 : Int32)) → (Q 0 y27 (upd rclk G (-9)) (nI G) (upd rk G (nI k)) y23 (upd rsec G (-9)) y28))))))))) ∧ (((y23 G) = (-9 : Int32)) → (Q 0 y22 (upd rclk G (-9)) (nI G) (upd rk G (nI k)) y23 (upd rsec G (-9)) (upd rsrc G (-9))))))) ) :
    wp_X10_readPart (nI i) (nI C) rclk (nI G) rk rl rsec rsrc text (nI T) Q := by
  unfold wp_X10_readPart
  rw [nI_clamp (by omega), nI_clamp (by omega)]
  have ig : vp_in (nI G) 10 := vp_in_nI hG (by omega)
  refine ⟨vp_in_nI (by omega) (by omega), hkm _ (br_f (nI_ne9 (by omega)) (bn_f (by rw [show (10 : Int32) = nI 10 from rfl, nI_eq (by omega) (by omega)]; omega) ?_))⟩
  rw [show nI C - 1 = nI (C - 1) from pk_sub (a := C) (b := 1) (by omega)]
  refine ax (nI_1 i) ⟨ig, all_e ⟨ig, all_e ⟨ig, all_e ⟨ig, all_e hQ⟩⟩⟩⟩
theorem part_sim (hT : T ≤ 90) (hl : ∀ j, j < T → letters j = text j) (hC : 1 ≤ C ∧ C ≤ 4) (hi : i < T) (h : QK G C kd s1 s2 ck l M) :
    (∃ q, i ≤ q ∧ q ≤ T ∧ PFa T letters G C kd s1 s2 ck l i q ∧ PFb T text G C kd s1 s2 ck l i q) ∨ (∃ kd' s1' s2' ck' l' M' i', i < i' ∧ i' ≤ T ∧ G < 10 ∧ QK (G + 1) C kd' s1' s2' ck' l' M' ∧ PSa T letters G C kd s1 s2 ck l M i kd' s1' s2' ck' l' M' i' ∧ PSb T text G C kd s1 s2 ck l i kd' s1' s2' ck' l' i') := by
  have hll := h.2.1
  rcases kind_case (text i) with ⟨k, hk, hka, hkb⟩ | ⟨hka, hkb⟩
  case inr =>
    refine Or.inl ⟨i, Nat.le_refl i, Nat.le_of_lt hi, fun Q gs fpi fpl ga inp re sl clo fi ki se ss _ hQ => ?_, fun Q rga rclk rk rl rsec rsrc _ hQ => ?_⟩
    · exact cg_no hT hl hi (Or.inl hka) (hQ _ _ _ _ _ _ _ _ _ _ _ _ _ _)
    · unfold wp_X10_readPart
      rw [nI_clamp (by omega)]
      exact ⟨vp_in_nI (by omega) (by omega), hkb _ (br_t rfl (hQ _ _ _ _ _ _))⟩
  by_cases hG : G = 10
  · refine Or.inl ⟨i, Nat.le_refl i, Nat.le_of_lt hi, fun Q gs fpi fpl ga inp re sl clo fi ki se ss hK hQ => ?_, fun Q rga rclk rk rl rsec rsrc hK hQ => ?_⟩
    · exact cg_no hT hl hi (Or.inr ⟨⟨k, hk, hka⟩, by rw [hK.1, hG]; rfl⟩) (hQ _ _ _ _ _ _ _ _ _ _ _ _ _ _)
    · unfold wp_X10_readPart
      rw [nI_clamp (by omega), hK.1]
      exact ⟨vp_in_nI (by omega) (by omega), hkb _ (br_f (nI_ne9 (by omega)) (bn_t (by rw [hG]; rfl) (hQ _ _ _ _ _ _)))⟩
  have hG : G < 10 := by have := h.1; omega
  have ig : vp_in (nI G) 10 := vp_in_nI hG (by omega)
  have cG : (nI G).toNatClampNeg = G := nI_clamp (by omega)
  have k0' : k ≠ 0 → ¬ nI k = 0 := fun e => by rw [← nI_0, nI_eq (by omega) (by omega)]; exact e
  rcases rd_case (text := text) (T := T) (i := i + 1) (L := 0) (H := C - 1) (by omega) (by omega) with ⟨c, hi1, _, hc, hjc⟩ | hno
  case inr =>
    refine Or.inl ⟨i + 1, by omega, by omega, fun Q gs fpi fpl ga inp re sl clo fi ki se ss hK hQ => ?_, fun Q rga rclk rk rl rsec rsrc hK hQ => ?_⟩
    · rw [hK.1, fuel_s hi]
      exact cg_ok hT hl hi hk hG hka (cl_no hT hl (Or.inr (Or.inr (Or.inl rfl))) hC hno (hQ _ _ _ _ _ _ _ _ _ _ _ _ _ _))
    · rw [hK.1]
      refine rp_in hT hC hG hi hk hkb (fig_no hT (by omega) (by omega) hno ⟨ig, all_e ⟨ig, bn_t upd_s (hQ _ _ _ _ _ _)⟩⟩)
  have hc : c < C := by omega
  by_cases k0 : k = 0
  · subst k0
    refine Or.inr ⟨_, _, _, _, _, _, i + 2, by omega, by omega, hG, ext_QK (k := 0) (c := c) (a := 0) (b := 0) (e := 0) h hG hC.2 hk hc (by omega) (by omega) (by omega), fun Q gs fpi fpl ga inp re sl clo fi ki se ss hK hgs hQ => ?_, fun Q rga rclk rk rl rsec rsrc hK hQ => ?_⟩
    · have hK' := hK
      obtain ⟨p1, p2, p3, p4, p5, p6⟩ := hK'
      rw [p1, p5, fuel_s hi, fuel_s hi1]
      refine cg_ok hT hl hi hk hG hka (cc_ok (k := 0) hT hl hC hi1 hc hjc hG hll upd_s hk (hQ _ _ _ _ _ _ _ _ _ _ _ (ext_KA (k := 0) (c := c) (a := 0) (b := 0) (e := 0) hG hK rfl rfl rfl rfl rfl (fun g hg => by rw [upd_n hg, upd_n hg, upd_n hg, upd_n hg, upd_n hg]; exact ⟨rfl, rfl, rfl, rfl, rfl⟩) upd_s ?_ ?_ ?_ ?_) hgs))
      · rw [upd_s]; unfold fI; rw [upN_s]; rfl
      · rw [upd_s]; unfold eI; rw [upN_s]; rfl
      · rw [upd_s, ← sI_none]; apply sI_cong; intro j _; unfold tF; rw [upN_s]; rfl
      · rw [upd_s]; unfold cI_; rw [upN_s]; rfl
    · rw [hK.1]
      refine rp_in hT hC hG hi hk hkb (fig_ok hT hi1 (Nat.zero_le c) (by omega) (by omega) hjc ⟨ig, all_e ⟨ig, bn_f (by rw [upd_s]; exact nI_ne9 (by omega)) (br_t rfl ?_)⟩⟩)
      unfold wp_X10_readPart_b136 wp_X10_readPart_b176 wp_X10_readPart_b206
      refine ev_in_f (L := 2) (H := 4) (by decide) (br_t rfl (bn_f (by decide) (all_e (hQ _ _ _ _ _ _ (ext_KB (k := 0) (c := c) (a := 0) (b := 0) (e := 0) hK (nI_1 G) (fun g hg => by rw [upd_n hg, upd_n hg, upd_n hg, upd_n hg, upd_n hg]; exact ⟨rfl, rfl, rfl, rfl, rfl⟩) upd_s ?_ ?_ ?_ upd_s)))))
      · rw [upd_s]; unfold fI; rw [upN_s]; rfl
      · rw [upd_s]; unfold eI; rw [upN_s]; rfl
      · rw [upd_s]; unfold cI_; rw [upN_s]; rfl
  rcases rd_case (text := text) (T := T) (i := i + 1 + 1) (L := 0) (H := 9) (by omega) (by omega) with ⟨a, hi2, _, ha, hja⟩ | hno
  case inr =>
    refine Or.inl ⟨i + 1 + 1, by omega, by omega, fun Q gs fpi fpl ga inp re sl clo fi ki se ss hK hQ => ?_, fun Q rga rclk rk rl rsec rsrc hK hQ => ?_⟩
    · obtain ⟨p1, p2, p3, p4, p5, p6⟩ := hK
      rw [p1, p5, fuel_s hi, fuel_s hi1]
      refine cg_ok hT hl hi hk hG hka (cc_ok (k := k) hT hl hC hi1 hc hjc hG hll upd_s hk ?_)
      rw [if_neg k0]
      exact cl_no hT hl (Or.inr (Or.inr (Or.inr (Or.inl rfl)))) hC hno (hQ _ _ _ _ _ _ _ _ _ _ _ _ _ _)
    · rw [hK.1]
      refine rp_in hT hC hG hi hk hkb (fig_ok hT hi1 (Nat.zero_le c) (by omega) (by omega) hjc ⟨ig, all_e ⟨ig, bn_f (by rw [upd_s]; exact nI_ne9 (by omega)) (br_f (k0' k0) ?_)⟩⟩)
      exact fig_no hT (by omega) (by omega) hno ⟨ig, all_e ⟨ig, bn_t upd_s (hQ _ _ _ _ _ _)⟩⟩
  have e2 : i + 1 + 1 + 1 = i + 3 := by omega
  by_cases k1 : k = 1
  · subst k1
    refine Or.inr ⟨_, _, _, _, _, _, i + 1 + 1 + 1, by omega, by omega, hG, ext_QK (k := 1) (c := c) (a := a) (b := 0) (e := 0) h hG hC.2 hk hc ha (by omega) (by omega), fun Q gs fpi fpl ga inp re sl clo fi ki se ss hK hgs hQ => ?_, fun Q rga rclk rk rl rsec rsrc hK hQ => ?_⟩
    · have hK' := hK
      obtain ⟨p1, p2, p3, p4, p5, p6⟩ := hK'
      rw [p1, p5, fuel_s hi, fuel_s hi1, fuel_s hi2]
      refine cg_ok hT hl hi hk hG hka (cc_ok (k := 1) hT hl hC hi1 hc hjc hG hll upd_s hk ?_)
      rw [if_neg (by decide)]
      refine cf_ok (k := 1) hT hl hC hi2 ha hja hG upd_s ⟨by omega, by omega⟩ ?_
      rw [if_pos rfl]
      refine hQ _ _ _ _ _ _ _ _ _ _ _ (ext_KA (k := 1) (c := c) (a := a) (b := 0) (e := 0) hG hK rfl rfl rfl rfl rfl (fun g hg => by rw [upd_n hg, upd_n hg, upd_n hg, upd_n hg, upd_n hg, upd_n hg, upd_n hg]; exact ⟨rfl, rfl, rfl, rfl, rfl⟩) upd_s ?_ ?_ ?_ ?_) (gsU_GS hgs ha)
      · rw [upd_s]; unfold fI; rw [upN_s, upN_s]; rfl
      · rw [upd_s]; unfold eI; rw [upN_s]; rfl
      · rw [upd_s]; apply sI_cong; intro j _; unfold tF; rw [upN_s, upN_s]; simp [two]
      · rw [upd_s]; unfold cI_; rw [upN_s]; rfl
    · rw [hK.1]
      refine rp_in hT hC hG hi hk hkb (fig_ok hT hi1 (Nat.zero_le c) (by omega) (by omega) hjc ⟨ig, all_e ⟨ig, bn_f (by rw [upd_s]; exact nI_ne9 (by omega)) (br_f (k0' k0) ?_)⟩⟩)
      refine fig_ok hT hi2 (Nat.zero_le a) ha (by omega) hja ⟨ig, all_e ⟨ig, bn_f (by rw [upd_s]; exact nI_ne9 (by omega)) ?_⟩⟩
      unfold wp_X10_readPart_b136 wp_X10_readPart_b176 wp_X10_readPart_b206
      refine ev_in_f (L := 2) (H := 4) (by decide) (br_t rfl (bn_f (by decide) (all_e (hQ _ _ _ _ _ _ (ext_KB (k := 1) (c := c) (a := a) (b := 0) (e := 0) hK (nI_1 G) (fun g hg => by rw [upd_n hg, upd_n hg, upd_n hg, upd_n hg, upd_n hg, upd_n hg]; exact ⟨rfl, rfl, rfl, rfl, rfl⟩) upd_s ?_ ?_ ?_ upd_s)))))
      · rw [upd_s]; unfold fI; rw [upN_s, upN_s]; rfl
      · rw [upd_s]; unfold eI; rw [upN_s]; rfl
      · rw [upd_s]; unfold cI_; rw [upN_s]; rfl
  by_cases k5 : k = 5
  · subst k5
    rcases rd_case (text := text) (T := T) (i := i + 1 + 1 + 1) (L := 0) (H := 1) (by omega) (by omega) with ⟨e, hi3, _, he, hje⟩ | hno
    case inr =>
      refine Or.inl ⟨i + 1 + 1 + 1, by omega, by omega, fun Q gs fpi fpl ga inp re sl clo fi ki se ss hK hQ => ?_, fun Q rga rclk rk rl rsec rsrc hK hQ => ?_⟩
      · obtain ⟨p1, p2, p3, p4, p5, p6⟩ := hK
        rw [p1, p5, fuel_s hi, fuel_s hi1, fuel_s hi2]
        refine cg_ok hT hl hi hk hG hka (cc_ok (k := 5) hT hl hC hi1 hc hjc hG hll upd_s hk ?_)
        rw [if_neg (by decide)]
        refine cf_ok (k := 5) hT hl hC hi2 ha hja hG upd_s ⟨by omega, by omega⟩ ?_
        rw [if_neg (by decide), if_pos rfl]
        exact cl_no hT hl (Or.inr (Or.inr (Or.inr (Or.inr (Or.inr rfl))))) hC hno (hQ _ _ _ _ _ _ _ _ _ _ _ _ _ _)
      · rw [hK.1]
        refine rp_in hT hC hG hi hk hkb (fig_ok hT hi1 (Nat.zero_le c) (by omega) (by omega) hjc ⟨ig, all_e ⟨ig, bn_f (by rw [upd_s]; exact nI_ne9 (by omega)) (br_f (k0' k0) ?_)⟩⟩)
        refine fig_ok hT hi2 (Nat.zero_le a) ha (by omega) hja ⟨ig, all_e ⟨ig, bn_f (by rw [upd_s]; exact nI_ne9 (by omega)) ?_⟩⟩
        unfold wp_X10_readPart_b136 wp_X10_readPart_b176
        rw [cG]
        refine ev_in_f (L := 2) (H := 4) (by decide) (br_t rfl (bn_t rfl (fig_no (L := 0) (H := 1) hT (by omega) (by omega) hno ⟨ig, all_e ⟨ig, bn_t upd_s (hQ _ _ _ _ _ _)⟩⟩)))
    refine Or.inr ⟨_, _, _, _, _, _, i + 1 + 1 + 1 + 1, by omega, by omega, hG, ext_QK (k := 5) (c := c) (a := a) (b := 0) (e := e) h hG hC.2 hk hc ha (by omega) he, fun Q gs fpi fpl ga inp re sl clo fi ki se ss hK hgs hQ => ?_, fun Q rga rclk rk rl rsec rsrc hK hQ => ?_⟩
    · have hK' := hK
      obtain ⟨p1, p2, p3, p4, p5, p6⟩ := hK'
      rw [p1, p5, fuel_s hi, fuel_s hi1, fuel_s hi2, fuel_s hi3]
      refine cg_ok hT hl hi hk hG hka (cc_ok (k := 5) hT hl hC hi1 hc hjc hG hll upd_s hk ?_)
      rw [if_neg (by decide)]
      refine cf_ok (k := 5) hT hl hC hi2 ha hja hG upd_s ⟨by omega, by omega⟩ ?_
      rw [if_neg (by decide), if_pos rfl]
      refine ck_ok hT hl hC hi3 he hje hG ?_
      refine hQ _ _ _ _ _ _ _ _ _ _ _ (ext_KA (k := 5) (c := c) (a := a) (b := 0) (e := e) hG hK rfl rfl rfl rfl rfl (fun g hg => by rw [upd_n hg, upd_n hg, upd_n hg, upd_n hg, upd_n hg, upd_n hg, upd_n hg, upd_n hg]; exact ⟨rfl, rfl, rfl, rfl, rfl⟩) upd_s ?_ ?_ ?_ ?_) (gsU_GS hgs ha)
      · rw [upd_s]; unfold fI; rw [upN_s, upN_s]; rfl
      · rw [upd_s]; unfold eI; rw [upN_s]; rfl
      · rw [upd_s]; apply sI_cong; intro j _; unfold tF; rw [upN_s, upN_s]; simp [two]
      · rw [upd_s]; unfold cI_; rw [upN_s, upN_s]; rfl
    · rw [hK.1]
      refine rp_in hT hC hG hi hk hkb (fig_ok hT hi1 (Nat.zero_le c) (by omega) (by omega) hjc ⟨ig, all_e ⟨ig, bn_f (by rw [upd_s]; exact nI_ne9 (by omega)) (br_f (k0' k0) ?_)⟩⟩)
      refine fig_ok hT hi2 (Nat.zero_le a) ha (by omega) hja ⟨ig, all_e ⟨ig, bn_f (by rw [upd_s]; exact nI_ne9 (by omega)) ?_⟩⟩
      unfold wp_X10_readPart_b136 wp_X10_readPart_b176 wp_X10_readPart_b206
      rw [cG]
      refine ev_in_f (L := 2) (H := 4) (by decide) (br_t rfl (bn_t rfl (fig_ok (L := 0) (H := 1) hT hi3 (Nat.zero_le e) he (by omega) hje ⟨ig, all_e ⟨ig, bn_f (by rw [upd_s]; exact nI_ne9 (by omega)) (all_e (hQ _ _ _ _ _ _ (ext_KB (k := 5) (c := c) (a := a) (b := 0) (e := e) hK (nI_1 G) (fun g hg => by rw [upd_n hg, upd_n hg, upd_n hg, upd_n hg, upd_n hg, upd_n hg, upd_n hg]; exact ⟨rfl, rfl, rfl, rfl, rfl⟩) upd_s ?_ ?_ ?_ upd_s)))⟩⟩)))
      · rw [upd_s]; unfold fI; rw [upN_s, upN_s]; rfl
      · rw [upd_s]; unfold eI; rw [upN_s]; rfl
      · rw [upd_s]; unfold cI_; rw [upN_s, upN_s]; rfl
  have k24 : 2 ≤ k ∧ k ≤ 4 := by omega
  have t2 : two k = true := by
    rcases (show k = 2 ∨ k = 3 ∨ k = 4 by omega) with e | e | e <;> rw [e] <;> rfl
  have p6 : ∀ x : Int32, (if k = 1 then (3 : Int32) else if k = 5 then nI 7 else nI 6) = nI 6 := fun _ => by rw [if_neg k1, if_neg k5]
  have k5' : ¬ nI k = 5 := by rw [show (5 : Int32) = nI 5 from rfl, nI_eq (by omega) (by omega)]; exact k5
  rcases rd_case (text := text) (T := T) (i := i + 1 + 1 + 1) (L := 0) (H := 9) (by omega) (by omega) with ⟨b, hi3, _, hb, hjb⟩ | hno
  case inr =>
    refine Or.inl ⟨i + 1 + 1 + 1, by omega, by omega, fun Q gs fpi fpl ga inp re sl clo fi ki se ss hK hQ => ?_, fun Q rga rclk rk rl rsec rsrc hK hQ => ?_⟩
    · obtain ⟨p1, p2, p3, p4, p5, _⟩ := hK
      rw [p1, p5, fuel_s hi, fuel_s hi1, fuel_s hi2]
      refine cg_ok hT hl hi hk hG hka (cc_ok (k := k) hT hl hC hi1 hc hjc hG hll upd_s hk ?_)
      rw [if_neg k0]
      refine cf_ok (k := k) hT hl hC hi2 ha hja hG upd_s ⟨by omega, by omega⟩ ?_
      rw [p6 0]
      exact cl_no hT hl (Or.inr (Or.inr (Or.inr (Or.inr (Or.inl rfl))))) hC hno (hQ _ _ _ _ _ _ _ _ _ _ _ _ _ _)
    · rw [hK.1]
      refine rp_in hT hC hG hi hk hkb (fig_ok hT hi1 (Nat.zero_le c) (by omega) (by omega) hjc ⟨ig, all_e ⟨ig, bn_f (by rw [upd_s]; exact nI_ne9 (by omega)) (br_f (k0' k0) ?_)⟩⟩)
      refine fig_ok hT hi2 (Nat.zero_le a) ha (by omega) hja ⟨ig, all_e ⟨ig, bn_f (by rw [upd_s]; exact nI_ne9 (by omega)) ?_⟩⟩
      unfold wp_X10_readPart_b136
      rw [cG]
      refine ev_in_t (L := 2) (H := 4) k24.1 k24.2 (by omega) (br_f (by decide) (fig_no (L := 0) (H := 9) hT (by omega) (by omega) hno ⟨ig, all_e ⟨ig, bn_t upd_s (hQ _ _ _ _ _ _)⟩⟩))
  refine Or.inr ⟨_, _, _, _, _, _, i + 1 + 1 + 1 + 1, by omega, by omega, hG, ext_QK (k := k) (c := c) (a := a) (b := b) (e := 0) h hG hC.2 hk hc ha hb (by omega), fun Q gs fpi fpl ga inp re sl clo fi ki se ss hK hgs hQ => ?_, fun Q rga rclk rk rl rsec rsrc hK hQ => ?_⟩
  · have hK' := hK
    obtain ⟨p1, p2, p3, p4, p5, _⟩ := hK'
    rw [p1, p5, fuel_s hi, fuel_s hi1, fuel_s hi2, fuel_s hi3]
    refine cg_ok hT hl hi hk hG hka (cc_ok (k := k) hT hl hC hi1 hc hjc hG hll upd_s hk ?_)
    rw [if_neg k0]
    refine cf_ok (k := k) hT hl hC hi2 ha hja hG upd_s ⟨by omega, by omega⟩ ?_
    rw [p6 0]
    refine cs_ok hT hl hC hi3 hb hjb hG upd_s ?_
    have hm : GS (gsU (gsU gs a) b) (mU M k a b) := by
      have := gsU_GS (gsU_GS hgs ha) hb
      unfold mU; rw [if_neg k0, if_pos t2]; exact this
    refine hQ _ _ _ _ _ _ _ _ _ _ _ (ext_KA (k := k) (c := c) (a := a) (b := b) (e := 0) hG hK rfl rfl rfl (by rw [if_neg k5]) rfl (fun g hg => by rw [upd_n hg, upd_n hg, upd_n hg, upd_n hg, upd_n hg, upd_n hg, upd_n hg, upd_n hg, upd_n hg]; exact ⟨rfl, rfl, rfl, rfl, rfl⟩) upd_s ?_ ?_ ?_ ?_) hm
    · rw [upd_s]; unfold fI; rw [upN_s, upN_s, if_neg k0]
    · rw [upd_s]; unfold eI; rw [upN_s, upN_s, if_pos t2]
    · rw [upd_s]; apply sI_cong; intro j _; unfold tF; rw [upN_s, upN_s, upN_s, t2, show (k == 0) = false by simpa using k0]; simp
    · rw [upd_s]; unfold cI_; rw [upN_s, if_neg k5]
  · rw [hK.1]
    refine rp_in hT hC hG hi hk hkb (fig_ok hT hi1 (Nat.zero_le c) (by omega) (by omega) hjc ⟨ig, all_e ⟨ig, bn_f (by rw [upd_s]; exact nI_ne9 (by omega)) (br_f (k0' k0) ?_)⟩⟩)
    refine fig_ok hT hi2 (Nat.zero_le a) ha (by omega) hja ⟨ig, all_e ⟨ig, bn_f (by rw [upd_s]; exact nI_ne9 (by omega)) ?_⟩⟩
    unfold wp_X10_readPart_b136 wp_X10_readPart_b176 wp_X10_readPart_b206
    rw [cG]
    refine ev_in_t (L := 2) (H := 4) k24.1 k24.2 (by omega) (br_f (by decide) (fig_ok (L := 0) (H := 9) hT hi3 (Nat.zero_le b) hb (by omega) hjb ⟨ig, all_e ⟨ig, bn_f (by rw [upd_s]; exact nI_ne9 (by omega)) (bn_f k5' (all_e (hQ _ _ _ _ _ _ (ext_KB (k := k) (c := c) (a := a) (b := b) (e := 0) hK (nI_1 G) (fun g hg => by rw [upd_n hg, upd_n hg, upd_n hg, upd_n hg, upd_n hg, upd_n hg, upd_n hg]; exact ⟨rfl, rfl, rfl, rfl, rfl⟩) upd_s ?_ ?_ ?_ upd_s))))⟩⟩))
    · rw [upd_s]; unfold fI; rw [upN_s, upN_s, if_neg k0]
    · rw [upd_s]; unfold eI; rw [upN_s, upN_s, if_pos t2]
    · rw [upd_s]; unfold cI_; rw [upN_s, if_neg k5]
end
