/-! ===== the past: ring and book ===== -/
def put5 (f : Nat → Int32) (b : Nat) (x0 x1 x2 x3 x4 : Int32) : Nat → Int32 := upd (upd (upd (upd (upd f b x0) (b + 1) x1) (b + 2) x2) (b + 3) x3) (b + 4) x4
theorem put5_0 {f : Nat → Int32} {b : Nat} {x0 x1 x2 x3 x4 : Int32} : put5 f b x0 x1 x2 x3 x4 b = x0 := by
  unfold put5; rw [upd_n (by omega), upd_n (by omega), upd_n (by omega), upd_n (by omega), upd_s]
theorem put5_1 {f : Nat → Int32} {b : Nat} {x0 x1 x2 x3 x4 : Int32} : put5 f b x0 x1 x2 x3 x4 (b + 1) = x1 := by
  unfold put5; rw [upd_n (by omega), upd_n (by omega), upd_n (by omega), upd_s]
theorem put5_2 {f : Nat → Int32} {b : Nat} {x0 x1 x2 x3 x4 : Int32} : put5 f b x0 x1 x2 x3 x4 (b + 2) = x2 := by
  unfold put5; rw [upd_n (by omega), upd_n (by omega), upd_s]
theorem put5_3 {f : Nat → Int32} {b : Nat} {x0 x1 x2 x3 x4 : Int32} : put5 f b x0 x1 x2 x3 x4 (b + 3) = x3 := by
  unfold put5; rw [upd_n (by omega), upd_s]
theorem put5_4 {f : Nat → Int32} {b : Nat} {x0 x1 x2 x3 x4 : Int32} : put5 f b x0 x1 x2 x3 x4 (b + 4) = x4 := by
  unfold put5; rw [upd_s]
theorem put5_o {f : Nat → Int32} {b i : Nat} {x0 x1 x2 x3 x4 : Int32} (h : i < b ∨ b + 5 ≤ i) : put5 f b x0 x1 x2 x3 x4 i = f i := by
  unfold put5; rw [upd_n (by omega), upd_n (by omega), upd_n (by omega), upd_n (by omega), upd_n (by omega)]
theorem ev_put {n j : Nat} {cells : Nat → Int32} {count ones pins places unk : Int32} {Q : (Nat → Int32) → Prop} (hj : j * 5 + 4 < n) (hn : n < 2 ^ 31) (h : Q (put5 cells (j * 5) ones unk places pins count)) : wp_X5_put n cells count ones pins places unk (nI j) Q := by
  unfold wp_X5_put
  have e : nI j * (5 : Int32) = nI (j * 5) := pk_mul j 5
  intro v1 hv
  rw [hv, e, show (1 : Int32) = nI 1 from rfl, show (2 : Int32) = nI 2 from rfl, show (3 : Int32) = nI 3 from rfl, show (4 : Int32) = nI 4 from rfl, nI_add, nI_add, nI_add, nI_add]
  exact ev_setCell (by omega) hn (ev_setCell (by omega) hn (ev_setCell (by omega) hn (ev_setCell (by omega) hn (ev_setCell (by omega) hn h))))
theorem ev_get {n j : Nat} {cells : Nat → Int32} {count ones pins places unk : Int32} {Q : Int32 → Int32 → Int32 → Int32 → Int32 → Prop} (hj : j * 5 + 4 < n) (hn : n < 2 ^ 31) (h : Q (cells (j * 5 + 4)) (cells (j * 5)) (cells (j * 5 + 3)) (cells (j * 5 + 2)) (cells (j * 5 + 1))) : wp_X5_get n cells count ones pins places unk (nI j) Q := by
  unfold wp_X5_get
  have e : nI j * (5 : Int32) = nI (j * 5) := pk_mul j 5
  intro v1 hv
  rw [hv, e, show (1 : Int32) = nI 1 from rfl, show (2 : Int32) = nI 2 from rfl, show (3 : Int32) = nI 3 from rfl, show (4 : Int32) = nI 4 from rfl, nI_add, nI_add, nI_add, nI_add]
  exact ev_cell (by omega) hn (ev_cell (by omega) hn (ev_cell (by omega) hn (ev_cell (by omega) hn (ev_cell (by omega) hn h))))
def mn14 (h : Nat) : Nat := if h < 14 then h + 1 else 14
theorem ev_remember {h q : Nat} {ring : Nat → Int32} {count ones pins places unk : Int32} {Q : Int32 → Int32 → (Nat → Int32) → Prop} (hh : h ≤ 14) (hq : q < 14) (hQ : Q (nI (mn14 h)) (nI ((q + 1) % 14)) (put5 ring (q * 5) ones unk places pins count)) : wp_X0_remember (nI h) (nI q) ring count ones pins places unk Q := by
  unfold wp_X0_remember wp_X0_remember_b34
  refine ev_put (by omega) (by omega) ?_
  have em : (if (14 : Int32) < (nI h + (1 : Int32)) then (14 : Int32) else (nI h + (1 : Int32))) = nI (mn14 h) := by
    unfold mn14
    rw [nI_1, show (14 : Int32) = nI 14 from rfl]
    by_cases e : h < 14
    · rw [if_neg (by rw [nI_ltI (by omega) (by omega)]; omega), if_pos e]
    · rw [if_pos (by rw [nI_ltI (by omega) (by omega)]; omega), if_neg e]
  rw [em, nI_1]
  refine pk_le 14 (q + 1) (fun h1 => all_e ?_) (fun h1 => all_e ?_)
  · rw [show (q + 1) % 14 = 0 by omega] at hQ; exact hQ
  · rw [show (q + 1) % 14 = q + 1 by omega] at hQ; exact hQ
/-- the reference's copy into its book -/
theorem note_copy {h : Nat} {page : Nat → Int32} {Q : (Nat → Int32) → Int32 → Prop} (hh : h ≤ 13) (b0 : Nat → Int32) (hQ : ∀ b', (∀ i, i < 22 → b' (22 * h + i) = page i) → (∀ i, i < 22 * h → b' i = b0 i) → Q b' (nI (h + 1))) :
    ∀ (d i : Nat) (b : Nat → Int32), i + d = 22 → (∀ j, j < i → b (22 * h + j) = page j) → (∀ j, j < 22 * h → b j = b0 j) → wp_X10_note_h51 page Q (d + 1) (nI i) b (nI h) := by
  intro d
  induction d with
  | zero =>
    intro i b hid h1 h2
    show wp_X10_note_b51 _ _ _ _ _ _
    unfold wp_X10_note_b51
    refine pk_le 22 i (fun _ => all_e ?_) (fun h => absurd h (by omega))
    rw [nI_1]
    exact hQ b (fun j hj => h1 j (by omega)) h2
  | succ d ih =>
    intro i b hid h1 h2
    show wp_X10_note_b51 _ _ (wp_X10_note_h51 page Q (d + 1)) _ _ _
    unfold wp_X10_note_b51
    refine pk_le 22 i (fun h => absurd h (by omega)) (fun _ => ⟨vp_in_nI (by omega) (by omega), all_e ?_⟩)
    have e : ((22 : Int32) * nI h) + nI i = nI (22 * h + i) := by rw [show (22 : Int32) * nI h = nI (22 * h) from pk_mul 22 h, nI_add]
    rw [e, nI_clamp (by omega), nI_clamp (by omega)]
    refine ⟨vp_in_nI (by omega) (by omega), all_e (all_e ?_)⟩
    rw [nI_1]
    refine ih (i + 1) _ (by omega) (fun j hj => ?_) (fun j hj => by rw [upd_n (by omega)]; exact h2 j hj)
    by_cases ej : j = i
    · rw [ej, upd_s]
    · rw [upd_n (by omega)]; exact h1 j (by omega)
theorem note_shift {page : Nat → Int32} {Q : (Nat → Int32) → Int32 → Prop} (b0 : Nat → Int32) (hQ : ∀ b, (∀ i, i < 286 → b i = b0 (i + 22)) → wp_X10_note_b49 page Q b (nI 13)) :
    ∀ (d i : Nat) (b : Nat → Int32), i + d = 286 → (∀ j, j < i → b j = b0 (j + 22)) → (∀ j, i ≤ j → b j = b0 j) → wp_X10_note_h11 page Q (d + 1) (nI i) b (nI 14) := by
  intro d
  induction d with
  | zero =>
    intro i b hid h1 h2
    show wp_X10_note_b11 _ _ _ _ _ _
    unfold wp_X10_note_b11
    exact pk_le 286 i (fun _ => all_e (hQ b (fun j hj => h1 j (by omega)))) (fun h => absurd h (by omega))
  | succ d ih =>
    intro i b hid h1 h2
    show wp_X10_note_b11 _ _ (wp_X10_note_h11 page Q (d + 1)) _ _ _
    unfold wp_X10_note_b11
    refine pk_le 286 i (fun h => absurd h (by omega)) (fun _ => ?_)
    rw [show nI i + (22 : Int32) = nI (i + 22) from nI_add i 22, nI_clamp (by omega), nI_clamp (by omega)]
    refine ⟨vp_in_nI (by omega) (by omega), all_e ⟨vp_in_nI (by omega) (by omega), all_e (all_e ?_)⟩⟩
    rw [nI_1]
    refine ih (i + 1) _ (by omega) (fun j hj => ?_) (fun j hj => by rw [upd_n (by omega)]; exact h2 j (by omega))
    by_cases ej : j = i
    · rw [ej, upd_s]; exact h2 _ (by omega)
    · rw [upd_n (by omega)]; exact h1 j (by omega)
theorem ev_note {h : Nat} {page book : Nat → Int32} {Q : (Nat → Int32) → Int32 → Prop} (hh : h ≤ 14) (hQ : ∀ b', (∀ i, i < 22 → b' (22 * (mn14 h - 1) + i) = page i) → (∀ i, i < 22 * (mn14 h - 1) → b' i = book (if h < 14 then i else i + 22)) → Q b' (nI (mn14 h))) : wp_X10_note book (nI h) page Q := by
  unfold wp_X10_note
  by_cases e : h = 14
  · subst e
    refine bn_t rfl ⟨287, note_shift book (fun b hb => ⟨23, ?_⟩) 286 0 book (by omega) (fun j hj => absurd hj (by omega)) (fun j _ => rfl)⟩
    exact note_copy (by omega) b (fun b' h1 h2 => hQ b' h1 (fun i hi => (h2 i hi).trans (hb i (by have : i < 22 * 13 := hi; omega)))) 22 0 b (by omega) (fun j hj => absurd hj (by omega)) (fun j _ => rfl)
  · refine bn_f (by rw [show (14 : Int32) = nI 14 from rfl, nI_eq (by omega) (by omega)]; exact e) ⟨23, ?_⟩
    have em : mn14 h = h + 1 := by unfold mn14; rw [if_pos (by omega)]
    rw [em] at hQ
    refine note_copy (by omega) book (fun b' h1 h2 => hQ b' h1 (fun i hi => ?_)) 22 0 book (by omega) (fun j hj => absurd hj (by omega)) (fun j _ => rfl)
    rw [if_pos (by omega)]; exact h2 i hi
theorem SB.cong {N : Nat} {kd : Nat → Nat} {z : AS} {p p' : Nat → Int32} (hN : N ≤ 10) (h : SB N kd z p) (e : ∀ i, i < 22 → p' i = p i) : SB N kd z p' := by
  refine ⟨⟨fun g hg hs => ?_, ?_⟩, fun g hg => ?_, ?_⟩
  · rw [e g (by omega)]; exact h.1.1 g hg hs
  · rw [e 21 (by omega)]; exact h.1.2
  · rw [e _ (by omega)]; exact h.2.1 g hg
  · rw [e 20 (by omega)]; exact h.2.2
/-- an act is remembered -/
theorem act_past {N C k : Nat} {kd : Nat → Nat} {next held doings : Int32} {ring book page : Nat → Int32} {count ones pins places unk : Int32} {z : AS} (hN : N ≤ 10) (hH : RH N C k kd next held ring book doings) (hz : SK N C k z) (hA : SA N kd z ones unk places pins count) (hB : SB N kd z page) {Q : Int32 → Int32 → (Nat → Int32) → Prop}
    (hQ : ∀ held' next' ring', (∀ Q' : (Nat → Int32) → Int32 → Prop, (∀ book' doings', RH N C k kd next' held' ring' book' doings' → Q' book' doings') → wp_X10_note book doings page Q') → Q held' next' ring') : wp_X0_remember held next ring count ones pins places unk Q := by
  obtain ⟨h, q, zs, hh, hq, rfl, rfl, rfl, hs⟩ := hH
  refine ev_remember hh hq (hQ _ _ _ (fun Q' hQ' => ev_note hh (fun b' h1 h2 => hQ' _ _ ?_)))
  have hm : mn14 h ≤ 14 ∧ mn14 h = if h < 14 then h + 1 else 14 := by unfold mn14; constructor; (split <;> omega); rfl
  refine ⟨mn14 h, (q + 1) % 14, fun j => if j = 0 then z else zs (j - 1), hm.1, Nat.mod_lt _ (by omega), rfl, rfl, rfl, fun j hj => ?_⟩
  by_cases e0 : j = 0
  · subst e0
    have eb : ((q + 1) % 14 + 13 - 0) % 14 * 5 = q * 5 := by congr 1; omega
    show SK N C k z ∧ SA N kd z _ _ _ _ _ ∧ SB N kd z _
    refine ⟨hz, ?_, ?_⟩
    · show SA N kd z (put5 ring (q * 5) ones unk places pins count (((q + 1) % 14 + 13 - 0) % 14 * 5)) _ _ _ _
      rw [eb, put5_0, put5_1, put5_2, put5_3, put5_4]; exact hA
    · exact hB.cong hN (fun i hi => h1 i hi)
  · have ez : (if j = 0 then z else zs (j - 1)) = zs (j - 1) := if_neg e0
    show SK N C k (if j = 0 then z else zs (j - 1)) ∧ SA N kd (if j = 0 then z else zs (j - 1)) _ _ _ _ _ ∧ SB N kd (if j = 0 then z else zs (j - 1)) _
    rw [ez]
    have hjh : j - 1 < h := by
      rw [hm.2] at hj; split at hj <;> omega
    obtain ⟨a1, a2, a3⟩ := hs (j - 1) hjh
    have hj14 : j < 14 := by omega
    have eb : ((q + 1) % 14 + 13 - j) % 14 = (q + 13 - (j - 1)) % 14 := by omega
    have ene : (q + 13 - (j - 1)) % 14 ≠ q := by omega
    refine ⟨a1, ?_, ?_⟩
    · show SA N kd _ (put5 ring (q * 5) ones unk places pins count (((q + 1) % 14 + 13 - j) % 14 * 5)) _ _ _ _
      rw [eb]
      generalize (q + 13 - (j - 1)) % 14 = b at ene a2 ⊢
      rw [put5_o (by omega), put5_o (by omega), put5_o (by omega), put5_o (by omega), put5_o (by omega)]
      exact a2
    · refine a3.cong hN (fun i hi => ?_)
      have hlt : 22 * (mn14 h - 1 - j) + i < 22 * (mn14 h - 1) := by omega
      rw [h2 _ hlt]
      congr 1
      by_cases e14 : h < 14
      · rw [if_pos e14]; rw [hm.2, if_pos e14]; omega
      · rw [if_neg e14]; rw [hm.2, if_neg e14]; omega
