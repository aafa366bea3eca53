/-! ===== the reference's slots ===== -/
section
variable {N C : Nat} {kd s1 s2 ck l : Nat → Nat} {kind source second r : Nat → Int32} {p : Nat}
theorem ev_layGoing (hO : POK N kd s1 s2 ck) (hB : PB N kd s1 s2 kind source second) (hl : ∀ i, l i < 4) (hR : RLy N l r) {x : HX} {hand goes : Nat → Int32} (hH : HR N x hand) {a b : Nat} (ha : a < 4) (hb : b < 4) (hp : p < 100) {co : Nat → Nat → Bool} {al : Nat → Bool} {Q : Int32 → (Nat → Int32) → Int32 → Prop} (hG : GR co goes)
    (hQ : ∀ goes, GR (fun c g => co c g || (c == b && ofr N kd s1 s2 l p x.1 a b g)) goes → Q (nI (cN (ofr N kd s1 s2 l p x.1 a b) 10)) goes (mx (fun g => al g || ofr N kd s1 s2 l p x.1 a b g) 10)) :
    wp_X10_layGoing (nI N) goes hand (mx al 10) second source r (nI p) (nI a) (nI b) Q := by
  refine ⟨N + 1, ?_⟩
  have := going_loop hO hB hl hR hH ha hb hp (co := co) (al := al) hQ N 0 goes (by omega) (by
    intro g hg c hc
    rw [hG g hg c hc]
    simp [pre])
  have e : mx (fun i => al i || pre (ofr N kd s1 s2 l p x.1 a b) 0 i) 10 = mx al 10 := by
    apply mx_cong; intro i _; simp [pre]
  rw [e] at this
  exact this
/-- what a slot leaves, by whether it fails -/
def slo (N C : Nat) (kd s1 s2 l : Nat → Nat) (p t : Nat) (bad : Bool) (s : HX) : CX := if bad = true then cx0 else snds N C kd s1 s2 l p s.1
theorem hand_loop {h0 : Nat → Int32} {x : HX} {t : Nat} (ht : t ≤ 150) (hN : N ≤ 10) {co : Nat → Nat → Bool} {goes : Nat → Int32} (hG : GR co goes) {num cr tk : Nat} (hn : num < 2 ^ 20) {last ln : Int32} {p2 p3 p4 : Int32} {Q : Int32 → (Nat → Int32) → (Nat → Int32) → Int32 → Int32 → Int32 → Prop} {k97 : Int32 → Int32 → Int32 → (Nat → Int32) → (Nat → Int32) → Int32 → Int32 → Int32 → Prop} (hx : HR N x h0)
    (hQ : ∀ hand, HR N (take t co x) hand → k97 (nI num) (nI (t + 1)) (nI (cr + num)) goes hand (if num = 0 then last else ln) ln (nI (tk + 1))) :
    ∀ (d i : Nat) (hand : Nat → Int32), i + d = 40 → (∀ j, j < i → hand j = if co (j % 4) (j / 4) = true then nI (t + 1) else h0 j) → (∀ j, i ≤ j → hand j = h0 j) → wp_X10_laySchedule_h237 (nI C) (nI N) kind second source r p2 p3 p4 Q k97 (d + 1) (nI num) (nI t) (nI i) (nI cr) goes hand last ln (nI tk) := by
  intro d
  induction d with
  | zero =>
    intro i hand hid h1 h2
    show wp_X10_laySchedule_b237 (nI C) (nI N) kind second source r p2 p3 p4 Q k97 _ _ _ _ _ _ _ _ _ _
    unfold wp_X10_laySchedule_b237 wp_X10_laySchedule_b319
    have q := hQ hand ⟨fun g hg c hc => by
        rw [h1 (4 * g + c) (by omega), show (4 * g + c) % 4 = c by omega, show (4 * g + c) / 4 = g by omega, hx.1 g hg c hc]
        show _ = if (x.1 c g || co c g) = true then nI (if co c g = true then t + 1 else x.2 c g) else -9
        cases hc : co c g with
        | true => simp
        | false => simp, fun c g => by
        show (if _ then _ else _) ≤ 200
        split
        · exact Nat.le_trans (Nat.succ_le_succ ht) (by decide)
        · exact hx.2 c g⟩
    refine pk_le 40 i (fun _ => all_e (all_e ?_)) (fun h => absurd h (by omega))
    rw [nI_1, nI_add]
    refine pk_le num 0 (fun h => all_e ?_) (fun h => all_e ?_)
    · rw [nI_1]; rw [if_pos (by omega)] at q; exact q
    · rw [nI_1]; rw [if_neg (by omega)] at q; exact q
  | succ d ih =>
    intro i hand hid h1 h2
    show wp_X10_laySchedule_b237 (nI C) (nI N) kind second source r p2 p3 p4 Q k97 (wp_X10_laySchedule_h237 (nI C) (nI N) kind second source r p2 p3 p4 Q k97 (d + 1)) _ _ _ _ _ _ _ _ _
    unfold wp_X10_laySchedule_b237 wp_X10_laySchedule_b274
    have hi : vp_in (nI i) 40 := vp_in_nI (by omega) (by omega)
    have hGi := hG (i / 4) (by omega) (i % 4) (by omega)
    rw [show 4 * (i / 4) + i % 4 = i by omega] at hGi
    rw [nI_clamp (by omega), hGi]
    have next : ∀ w : Int32, w = (if co (i % 4) (i / 4) = true then nI (t + 1) else h0 i) → ∀ v3, v3 = nI i + 1 → wp_X10_laySchedule_h237 (nI C) (nI N) kind second source r p2 p3 p4 Q k97 (d + 1) (nI num) (nI t) v3 (nI cr) goes (upd hand i w) last ln (nI tk) := by
      intro w hw v3 h3
      rw [h3, nI_1]
      refine ih (i + 1) _ (by omega) (fun j hj => ?_) (fun j hj => ?_)
      · by_cases e : j = i
        · rw [e, upd_s, hw]
        · rw [upd_n e]; exact h1 j (by omega)
      · rw [upd_n (by omega)]; exact h2 j (by omega)
    refine pk_le 40 i (fun h => absurd h (by omega)) (fun _ => ⟨hi, ?_⟩)
    cases hc : co (i % 4) (i / 4) with
    | true =>
      refine br_f (by decide) ⟨hi, all_e (next _ ?_)⟩
      rw [hc, if_pos rfl, nI_1]
    | false =>
      refine br_t rfl ⟨hi, hi, all_e (next _ ?_)⟩
      rw [hc, if_neg (by decide)]; exact h2 i (Nat.le_refl i)
theorem chips_loop (hO : POK N kd s1 s2 ck) (hB : PB N kd s1 s2 kind source second) (hl : ∀ i, l i < 4) (hR : RLy N l r) (hC : 1 ≤ C ∧ C ≤ 4) (hp : p < 100) {x : HX} {t : Nat} (ht : t ≤ 150) {hand : Nat → Int32} (hH : HR N x hand) {cr tk : Nat} {last p3 p4 : Int32} {Q : Int32 → (Nat → Int32) → (Nat → Int32) → Int32 → Int32 → Int32 → Prop} {k97 : Int32 → Int32 → Int32 → (Nat → Int32) → (Nat → Int32) → Int32 → Int32 → Int32 → Prop}
    (hQ : ∀ goes hand ln, HR N (take t (snds N C kd s1 s2 l p x.1).1 x) hand → k97 (nI (snds N C kd s1 s2 l p x.1).2.1) (nI (t + 1)) (nI (cr + (snds N C kd s1 s2 l p x.1).2.1)) goes hand (if (snds N C kd s1 s2 l p x.1).2.1 = 0 then last else mx (snds N C kd s1 s2 l p x.1).2.2 10) ln (nI (tk + 1))) :
    ∀ (d c : Nat) (y : CX) (goes : Nat → Int32), c + d = C - 1 → y.2.1 ≤ 20 * c → GR y.1 goes → scs N kd s1 s2 l p x.1 c d y = snds N C kd s1 s2 l p x.1 → wp_X10_laySchedule_h182 (nI C) (nI N) kind second source r (nI p) p3 p4 Q k97 (d + 1) (nI y.2.1) (nI t) 0 (nI c) (nI cr) goes hand last (mx y.2.2 10) (nI tk) := by
  have hN := hO.1
  intro d
  induction d with
  | zero =>
    intro c y goes hcd hn hG he
    show wp_X10_laySchedule_b182 (nI C) (nI N) kind second source r (nI p) p3 p4 Q k97 _ _ _ _ _ _ _ _ _ _ _
    unfold wp_X10_laySchedule_b182 wp_X10_laySchedule_b234
    rw [nI_1]
    have he : y = snds N C kd s1 s2 l p x.1 := he
    subst he
    refine pk_le C (c + 1) (fun _ => ⟨41, ?_⟩) (fun h => absurd h (by omega))
    exact hand_loop ht hN hG (by omega) hH (fun hand hh => hQ goes hand _ hh) 40 0 hand (by omega) (fun j hj => absurd hj (by omega)) (fun j _ => rfl)
  | succ d ih =>
    intro c y goes hcd hn hG he
    show wp_X10_laySchedule_b182 (nI C) (nI N) kind second source r (nI p) p3 p4 Q k97 (wp_X10_laySchedule_h182 (nI C) (nI N) kind second source r (nI p) p3 p4 Q k97 (d + 1)) _ _ _ _ _ _ _ _ _ _
    unfold wp_X10_laySchedule_b182
    rw [nI_1]
    refine pk_le C (c + 1) (fun h => absurd h (by omega)) (fun _ => bn_t rfl ?_)
    refine ev_layGoing hO hB hl hR hH (by omega) (by omega) hp hG (fun g1 hg1 => ev_layGoing hO hB hl hR hH (by omega) (by omega) hp hg1 (fun g2 hg2 => all_e (all_e ?_)))
    rw [nI_add, nI_add]
    have := ih (c + 1) (s1c N kd s1 s2 l p x.1 c y) g2 (by omega) (by have := s1c_n (N := N) (kd := kd) (s1 := s1) (s2 := s2) (l := l) (p := p) (av := x.1) (c := c) (y := y); omega) (by
      intro g hg c' hc'
      rw [hg2 g hg c' hc']
      show (if ((y.1 c' g || (c' == c + 1 && ofr N kd s1 s2 l p x.1 c (c + 1) g)) || (c' == c && ofr N kd s1 s2 l p x.1 (c + 1) c g)) = true then (1 : Int32) else 0) = if (y.1 c' g || ((c' == c + 1 && ofr N kd s1 s2 l p x.1 c (c + 1) g) || (c' == c && ofr N kd s1 s2 l p x.1 (c + 1) c g))) = true then 1 else 0
      rw [Bool.or_assoc]) he
    have e : mx (s1c N kd s1 s2 l p x.1 c y).2.2 10 = mx (fun g => (y.2.2 g || ofr N kd s1 s2 l p x.1 c (c + 1) g) || ofr N kd s1 s2 l p x.1 (c + 1) c g) 10 := by
      apply mx_cong
      intro i _
      show (y.2.2 i || (ofr N kd s1 s2 l p x.1 c (c + 1) i || ofr N kd s1 s2 l p x.1 (c + 1) c i)) = _
      rw [Bool.or_assoc]
    rw [e] at this
    exact this
theorem clear_loop {t : Nat} {cr : Int32} {last ln tk p2 p3 p4 : Int32} {hand : Nat → Int32} {Q : Int32 → (Nat → Int32) → (Nat → Int32) → Int32 → Int32 → Int32 → Prop} {k97 : Int32 → Int32 → Int32 → (Nat → Int32) → (Nat → Int32) → Int32 → Int32 → Int32 → Prop}
    (hQ : ∀ goes, GR (fun _ _ => false) goes → ((p4 ≤ nI t → wp_X10_laySchedule_b176 (nI C) (nI N) kind second source r p2 p3 p4 Q k97 0 (nI t) cr goes hand last (-9) tk) ∧ (¬ p4 ≤ nI t → wp_X10_has p3 (nI t) (fun r21 => ((r21 = 0) → (wp_X10_laySchedule_b176 (nI C) (nI N) kind second source r p2 p3 p4 Q k97 0 (nI t) cr goes hand last (-9) tk)) ∧ ((¬ r21 = 0) → (wp_X10_laySchedule_b177 (nI C) (nI N) kind second source r p2 p3 p4 Q k97 0 (nI t) 1 cr goes hand last (-9) tk)))))) :
    ∀ (d i : Nat) (goes : Nat → Int32), i + d = 40 → (∀ j, j < i → goes j = 0) → wp_X10_laySchedule_h126 (nI C) (nI N) kind second source r p2 p3 p4 Q k97 (d + 1) (nI t) (nI i) cr goes hand last ln tk := by
  intro d
  induction d with
  | zero =>
    intro i goes hid h1
    show wp_X10_laySchedule_b126 (nI C) (nI N) kind second source r p2 p3 p4 Q k97 _ _ _ _ _ _ _ _ _
    unfold wp_X10_laySchedule_b126
    refine pk_le 40 i (fun _ => hQ goes ?_) (fun h => absurd h (by omega))
    intro g hg c hc
    rw [h1 _ (by omega)]; rfl
  | succ d ih =>
    intro i goes hid h1
    show wp_X10_laySchedule_b126 (nI C) (nI N) kind second source r p2 p3 p4 Q k97 (wp_X10_laySchedule_h126 (nI C) (nI N) kind second source r p2 p3 p4 Q k97 (d + 1)) _ _ _ _ _ _ _ _
    unfold wp_X10_laySchedule_b126
    have hi : vp_in (nI i) 40 := vp_in_nI (by omega) (by omega)
    refine pk_le 40 i (fun h => absurd h (by omega)) (fun _ => ⟨hi, all_e (all_e ?_)⟩)
    rw [nI_1, nI_clamp (by omega)]
    refine ih (i + 1) _ (by omega) (fun j hj => ?_)
    by_cases e : j = i
    · rw [e, upd_s]
    · rw [upd_n e]; exact h1 j (by omega)
theorem take_none {t : Nat} {x : HX} : take t (fun _ _ => false) x = x := by
  obtain ⟨a, b⟩ := x
  show ((fun c g => a c g || false), (fun c g => if false = true then t + 1 else b c g)) = (a, b)
  simp
/-- one slot of the reference -/
theorem ev_slot (hO : POK N kd s1 s2 ck) (hB : PB N kd s1 s2 kind source second) (hl : ∀ i, l i < 4) (hR : RLy N l r) (hC : 1 ≤ C ∧ C ≤ 4) (hp : p < 100) {z : HX} {t : Nat} (ht : t ≤ 150) {hand goes : Nat → Int32} (hH : HR N z hand) {cr tk F : Nat} (hF : F ≤ 8) {fl : Nat → Bool} {last ln : Int32} {Q : Int32 → (Nat → Int32) → (Nat → Int32) → Int32 → Int32 → Int32 → Prop} {k97 : Int32 → Int32 → Int32 → (Nat → Int32) → (Nat → Int32) → Int32 → Int32 → Int32 → Prop}
    (hQ : ∀ goes hand ln, (let y := if (decide (t < F) && fl t) = true then cx0 else snds N C kd s1 s2 l p (stl kd s1 s2 l N t z).1; HR N (take t y.1 (stl kd s1 s2 l N t z)) hand → k97 (nI y.2.1) (nI (t + 1)) (nI (cr + y.2.1)) goes hand (if y.2.1 = 0 then last else mx y.2.2 10) ln (nI (tk + 1)))) :
    wp_X10_laySchedule_b116 (nI C) (nI N) kind second source r (nI p) (sI fl) (nI F) Q k97 (nI t) (nI cr) goes hand last ln (nI tk) := by
  have hN := hO.1
  unfold wp_X10_laySchedule_b116
  refine ev_layReady hO hB hl hR ht hH (fun h' hH' => ⟨41, clear_loop (fun goes hG => ?_) 40 0 goes (by omega) (fun j hj => absurd hj (by omega))⟩)
  have good : (decide (t < F) && fl t) = false → wp_X10_laySchedule_b176 (nI C) (nI N) kind second source r (nI p) (sI fl) (nI F) Q k97 0 (nI t) (nI cr) goes h' last (-9) (nI tk) := by
    intro e
    unfold wp_X10_laySchedule_b176 wp_X10_laySchedule_b177
    refine ⟨C - 1 + 1, chips_loop hO hB hl hR hC hp ht hH' (fun g h ln hh => ?_) (C - 1) 0 cx0 goes (by omega) (by show 0 ≤ _; omega) hG rfl⟩
    have q := hQ g h ln
    rw [e] at q
    exact q hh
  refine pk_le F t (fun h => good (by simp; omega)) (fun h => ev_has (by omega) ?_)
  cases hf : fl t with
  | false => exact br_t rfl (good (by rw [hf]; simp))
  | true =>
    refine br_f (by decide) ?_
    unfold wp_X10_laySchedule_b177
    refine ⟨1, ?_⟩
    show wp_X10_laySchedule_b182 (nI C) (nI N) kind second source r (nI p) (sI fl) (nI F) Q k97 _ _ _ _ _ _ _ _ _ _ _
    unfold wp_X10_laySchedule_b182 wp_X10_laySchedule_b234
    have fin : ∃ n, wp_X10_laySchedule_h237 (nI C) (nI N) kind second source r (nI p) (sI fl) (nI F) Q k97 n 0 (nI t) 0 (nI cr) goes h' last (-9) (nI tk) := by
      refine ⟨41, hand_loop (num := 0) ht hN hG (by omega) hH' (fun hand hh => ?_) 40 0 h' (by omega) (fun j hj => absurd hj (by omega)) (fun j _ => rfl)⟩
      have q := hQ goes hand (-9)
      rw [show (decide (t < F) && fl t) = true by rw [hf]; simp [h], if_pos rfl] at q
      exact q hh
    exact ⟨fun _ => fin, fun _ => bn_f (by decide) fin⟩
end
