theorem all_x {α : Type} {x y : α} {P : α → Prop} (e : x = y) (h : P y) : ∀ v, v = x → P v := fun _ hv => by rw [hv, e]; exact h
section
variable {N C : Nat} {kd s1 s2 ck : Nat → Nat} {kinds firsts seconds sets kind source second clock : Nat → Int32}
theorem does_loop (hO : POK N kd s1 s2 ck) (hB : PB N kd s1 s2 kind source second) (hC : ∀ g, g < N → clock g = cI_ kd ck g) {ch : Int32} {a b : Nat} (hab : 10 * a + b < 100) {p1 cr la ln ta : Int32} {go ha r0 : Nat → Int32} {Q : Int32 → Int32 → (Nat → Int32) → (Nat → Int32) → Int32 → Int32 → Int32 → Int32 → (Nat → Int32) → (Nat → Int32) → Prop} :
    ∀ (d t : Nat) (x : SX) (r : Nat → Int32) (kn : Int32) (wo : Nat → Int32), t + d = 10 * a + b → (∀ i, x.1 i ≤ 2) → x.2 + d < 2 ^ 31 → RV N kd x.1 x.2 r → (∀ j, 10 ≤ j → j ≠ 21 → r j = r0 j) → (∀ kn wo r', RV N kd (stpn N kd s1 s2 ck none d x).1 (stpn N kd s1 s2 ck none d x).2 r' → (∀ j, 10 ≤ j → j ≠ 21 → r' j = r0 j) → Q 1 cr go ha kn la ln ta r' wo) →
      wp_X10_does_h54 ch clock (nI N) kind second source p1 (nI a) (nI b) Q (d + 1) (nI t) cr go ha kn la ln ta r wo := by
  have e10 : (10 : Int32) * nI a + nI b = nI (10 * a + b) := by rw [show (10 : Int32) * nI a = nI (10 * a) from pk_mul 10 a, nI_add]
  intro d
  induction d with
  | zero =>
    intro t x r kn wo htd hv hc hR hk hq
    show wp_X10_does_b54 ch clock (nI N) kind second source p1 (nI a) (nI b) Q _ _ _ _ _ _ _ _ _ _ _
    unfold wp_X10_does_b54
    rw [e10]
    exact pk_le (10 * a + b) t (fun _ => hq _ _ r hR hk) (fun h => absurd h (by omega))
  | succ d ih =>
    intro t x r kn wo htd hv hc hR hk hq
    show wp_X10_does_b54 ch clock (nI N) kind second source p1 (nI a) (nI b) Q (wp_X10_does_h54 ch clock (nI N) kind second source p1 (nI a) (nI b) Q (d + 1)) _ _ _ _ _ _ _ _ _ _
    unfold wp_X10_does_b54
    rw [e10]
    refine pk_le (10 * a + b) t (fun h => absurd h (by omega)) (fun _ => ?_)
    refine ev_stepOn (stuck := none) hO hB hC hR hv (by omega) (by intro g h; cases h) (fun kn wo r' hR' hk' v hv' => ?_)
    rw [hv', nI_1]
    exact ih (t + 1) (stp1 N kd s1 s2 ck none x) r' kn wo (by omega) (stp1_le hv) (by show x.2 + 1 + d < _; omega) hR' (fun j h1 h2 => (hk' j h1 h2).trans (hk j h1 h2)) hq
/-- one statement on both sides -/
theorem one_judge (hO : POK N kd s1 s2 ck) (hA : PA N kd s1 s2 kinds firsts seconds sets) (hB : PB N kd s1 s2 kind source second) (hck : ∀ g, g < N → clock g = cI_ kd ck g) (hC : 1 ≤ C ∧ C ≤ 4) {K : Nat} (hK : K < 600) {s : Nat} (hs : s < 1000) {z : AS} (hz : SK N C K z) :
    ∃ (y : Bool) (z' : AS), SK N C (K + 1) z' ∧ (∀ (Q : Int32 → Int32 → Int32 → Int32 → Int32 → Int32 → Int32 → Int32 → Int32 → (Nat → Int32) → (Nat → Int32) → Int32 → Int32 → Int32 → Int32 → (Nat → Int32) → Prop) (lo lk lu : Int32) (A Co : Nat → Int32) (ls se ta wt : Int32) (W : Nat → Int32), (∀ cnt on pi pl un lo lk lu A Co ls se ta wt W, (y = true → SA N kd z' on un pl pi cnt) → Q (if y = true then 1 else 0) cnt on pi pl un lo lk lu A Co ls se ta wt W) →
        wp_X9_holds (nI z.2.2.2) (sI (sO N kd z.1)) (nI z.2.2.1) (pI z.2.1) (sI (sU N kd z.1)) lo lk lu (nI C) firsts (nI N) (sI (inF N kd)) kinds (sI (reF N kd)) seconds (sI (slF N kd ck)) sets A Co ls se ta wt W (nI s) Q) ∧
      (∀ (Q : Int32 → Int32 → (Nat → Int32) → (Nat → Int32) → Int32 → Int32 → Int32 → Int32 → (Nat → Int32) → (Nat → Int32) → Prop) (cr kn la ln ta : Int32) (go ha tr wo : Nat → Int32), SB N kd z tr → (∀ cr go ha kn la ln ta tr wo, (y = true → SB N kd z' tr) → Q (if y = true then 1 else 0) cr go ha kn la ln ta tr wo) →
        wp_X10_does (nI C) clock cr (nI N) go ha kind kn la ln second source ta tr wo (nI (s / 100)) (nI (s / 10 % 10)) (nI (s % 10)) Q) := by
  have hN := hO.1
  obtain ⟨hv, hl, hlC, hpn, hct⟩ := hz
  have hz : SK N C K z := ⟨hv, hl, hlC, hpn, hct⟩
  have hz1 : SK N C (K + 1) z := hz.mono
  generalize hk : s / 100 = k
  generalize ha : s / 10 % 10 = a
  generalize hb : s % 10 = b
  have ha10 : a < 10 := by omega
  have hb10 : b < 10 := by omega
  have hab : s % 100 = 10 * a + b := by omega
  have hk10 : k < 10 := by omega
  have c1 : nI s - nI s / 100 * 100 = nI (10 * a + b) := by
    have := pk_rem (a := s) (d := 100) (by omega) (by omega) (by omega)
    rw [hab] at this; exact this
  have c2 : nI (10 * a + b) / 10 = nI a := by
    have := pk_div (a := 10 * a + b) (d := 10) (by omega) (by omega) (by omega)
    rw [show (10 * a + b) / 10 = a by omega] at this; exact this
  have c3 : nI (10 * a + b) - nI (10 * a + b) / 10 * 10 = nI b := by
    have := pk_rem (a := 10 * a + b) (d := 10) (by omega) (by omega) (by omega)
    rw [show (10 * a + b) % 10 = b by omega] at this; exact this
  have c4 : nI s / 100 = nI k := by
    have := pk_div (a := s) (d := 100) (by omega) (by omega) (by omega)
    rw [hk] at this; exact this
  have e10 : (10 : Int32) * nI a + nI b = nI (10 * a + b) := by rw [show (10 : Int32) * nI a = nI (10 * a) from pk_mul 10 a, nI_add]
  have kne : ∀ j : Nat, j < 10 → k ≠ j → ¬ nI k = nI j := fun j hj h => by rw [nI_eq (by omega) (by omega)]; exact h
  have i20 : vp_in (20 : Int32) 22 := vp_in_nI (n := 20) (by omega) (by omega)
  have c20 : (20 : Int32).toNatClampNeg = 20 := by decide
  by_cases k1 : k = 1
  · refine ⟨!(10 * a + b == 0), ((stpn N kd s1 s2 ck none (10 * a + b) (z.1, z.2.2.2)).1, z.2.1, z.2.2.1, (stpn N kd s1 s2 ck none (10 * a + b) (z.1, z.2.2.2)).2), ⟨stpn_le _ hv, hl, hlC, hpn, ?_⟩, ?_, ?_⟩
    · show (stpn N kd s1 s2 ck none (10 * a + b) (z.1, z.2.2.2)).2 ≤ _
      rw [stpn_ct]
      show z.2.2.2 + _ ≤ _
      omega
    · intro Q lo lk lu A Co ls se ta wt W hQ
      unfold wp_X9_holds
      refine all_x c1 (all_x c2 (all_x c3 (all_x c4 (br_t (by rw [k1]; rfl) ?_))))
      refine ev_makeSteps (x := (z.1, z.2.2.2)) hO hA hv (by show z.2.2.2 + _ < _; omega) (fun a1 b1 e1 => ?_)
      refine pk_eq (10 * a + b) 0 (fun h => ?_) (fun h => ?_)
      · have q := hQ (nI (stpn N kd s1 s2 ck none (10 * a + b) (z.1, z.2.2.2)).2) (sI (sO N kd (stpn N kd s1 s2 ck none (10 * a + b) (z.1, z.2.2.2)).1)) (nI z.2.2.1) (pI z.2.1) (sI (sU N kd (stpn N kd s1 s2 ck none (10 * a + b) (z.1, z.2.2.2)).1)) a1 b1 e1 A Co ls se ta wt W (fun _ => ⟨rfl, rfl, rfl, rfl, rfl⟩)
        rw [h] at q ⊢
        exact q
      · have q := hQ (nI (stpn N kd s1 s2 ck none (10 * a + b) (z.1, z.2.2.2)).2) (sI (sO N kd (stpn N kd s1 s2 ck none (10 * a + b) (z.1, z.2.2.2)).1)) (nI z.2.2.1) (pI z.2.1) (sI (sU N kd (stpn N kd s1 s2 ck none (10 * a + b) (z.1, z.2.2.2)).1)) a1 b1 e1 A Co ls se ta wt W (fun _ => ⟨rfl, rfl, rfl, rfl, rfl⟩)
        rw [show (10 * a + b == 0) = false by simpa using h] at q
        exact q
    · intro Q cr kn la ln ta go ha tr wo hSB hQ
      unfold wp_X10_does
      rw [e10]
      refine br_t (by rw [k1]; rfl) ?_
      by_cases h : 10 * a + b = 0
      · refine bn_t (by rw [h]; rfl) ?_
        have q := hQ cr go ha kn la ln ta tr wo (fun hh => by rw [h] at hh; exact absurd hh (by decide))
        rw [h] at q; exact q
      · refine bn_f (by rw [← nI_0, nI_eq (by omega) (by omega)]; exact h) ⟨10 * a + b + 1, ?_⟩
        refine does_loop (r0 := tr) hO hB hck (by omega) (10 * a + b) 0 (z.1, z.2.2.2) tr kn wo (by omega) hv (by show z.2.2.2 + _ < _; omega) hSB.1 (fun j _ _ => rfl) (fun kn wo r' hR' hk' => ?_)
        have q := hQ cr go ha kn la ln ta r' wo (fun _ => ⟨hR', fun g hg => by rw [hk' _ (by omega) (by omega)]; exact hSB.2.1 g hg, by rw [hk' _ (by omega) (by omega)]; exact hSB.2.2⟩)
        rw [show (10 * a + b == 0) = false by simpa using h] at q
        exact q
  have n1 := kne 1 (by omega) k1
  by_cases k2 : k = 2
  · by_cases hg : a < N ∧ kd a = 0 ∧ b ≤ 2
    · obtain ⟨hg, h0, hb2⟩ := hg
      refine ⟨true, (upN z.1 a b, z.2.1, z.2.2.1, z.2.2.2), ⟨fun i => by show upN _ _ _ i ≤ 2; unfold upN; split; omega; exact hv i, hl, hlC, hpn, by show z.2.2.2 ≤ _; omega⟩, ?_, ?_⟩
      · intro Q lo lk lu A Co ls se ta wt W hQ
        unfold wp_X9_holds wp_X9_setsInput
        refine all_x c1 (all_x c2 (all_x c3 (all_x c4 (br_f n1 (br_t (by rw [k2]; rfl) ?_)))))
        refine ev_isGate_t (by omega) hg (br_f (by decide) (ev_kindOf (by omega) ?_))
        rw [(hA a hg).1, h0]
        refine bn_t rfl (ev_isValue_t hb2 (bn_f (by decide) (ev_store hN hg (by rw [h0]; rfl) hb2 ⟨Or.inr rfl, ?_⟩)))
        exact hQ _ _ _ _ _ _ _ _ _ _ _ _ _ _ _ (fun _ => ⟨rfl, rfl, rfl, rfl, rfl⟩)
      · intro Q cr kn la ln ta go ha tr wo hSB hQ
        unfold wp_X10_does
        refine br_f n1 (br_t (by rw [k2]; rfl) (ev_noGate_t (by omega) hg (bn_t rfl ⟨vp_in_nI (by omega) (by omega), ?_⟩)))
        rw [nI_clamp (by omega), (hB a hg).1, h0]
        refine bn_t rfl (pk_le b 2 (fun _ => ⟨vp_in_nI (by omega) (by omega), all_e (hQ _ _ _ _ _ _ _ _ _ (fun _ => ?_))⟩) (fun h => absurd h (by omega)))
        refine ⟨⟨fun g hg' hs => ?_, by rw [upd_n (by omega)]; exact hSB.1.2⟩, fun g hg' => by rw [upd_n (by omega)]; exact hSB.2.1 g hg', by rw [upd_n (by omega)]; exact hSB.2.2⟩
        show upd _ _ _ g = nI (upN z.1 a b g)
        by_cases e : g = a
        · rw [e, upd_s, upN_s]
        · rw [upd_n e, upN_n e]; exact hSB.1.1 g hg' hs
    · refine ⟨false, z, hz1, ?_, ?_⟩
      · intro Q lo lk lu A Co ls se ta wt W hQ
        unfold wp_X9_holds wp_X9_setsInput
        refine all_x c1 (all_x c2 (all_x c3 (all_x c4 (br_f n1 (br_t (by rw [k2]; rfl) ?_)))))
        have q := hQ (nI z.2.2.2) (sI (sO N kd z.1)) (nI z.2.2.1) (pI z.2.1) (sI (sU N kd z.1)) lo lk lu A Co ls se ta wt W (fun h => by cases h)
        by_cases h1 : a < N
        · refine ev_isGate_t (by omega) h1 (br_f (by decide) (ev_kindOf (by omega) ?_))
          rw [(hA a h1).1]
          by_cases h2 : kd a = 0
          · rw [h2]
            refine bn_t rfl (ev_isValue_f (by rw [nI_toInt (by omega)]; omega) (bn_t rfl ⟨Or.inl rfl, q⟩))
          · exact bn_f (by rw [← nI_0, nI_eq (by have := (hO.2 a h1).1; omega) (by omega)]; exact h2) ⟨Or.inl rfl, q⟩
        · exact ev_isGate_f (by omega) (by rw [nI_toInt (by omega)]; omega) (br_t rfl ⟨Or.inl rfl, q⟩)
      · intro Q cr kn la ln ta go ha tr wo hSB hQ
        unfold wp_X10_does
        have q := hQ cr go ha kn la ln ta tr wo (fun h => by cases h)
        refine br_f n1 (br_t (by rw [k2]; rfl) ?_)
        by_cases h1 : a < N
        · refine ev_noGate_t (by omega) h1 (bn_t rfl ⟨vp_in_nI (by omega) (by omega), ?_⟩)
          rw [nI_clamp (by omega), (hB a h1).1]
          by_cases h2 : kd a = 0
          · rw [h2]
            exact bn_t rfl (pk_le b 2 (fun h => absurd ⟨h1, h2, h⟩ hg) (fun _ => q))
          · exact bn_f (by rw [← nI_0, nI_eq (by have := (hO.2 a h1).1; omega) (by omega)]; exact h2) q
        · exact ev_noGate_f (by omega) (by rw [nI_toInt (by omega)]; omega) (bn_f (by decide) q)
  have n2 := kne 2 (by omega) k2
  by_cases k3 : k = 3
  · by_cases hg : a < N ∧ b < C ∧ z.2.1 a ≠ b
    · obtain ⟨hg, hbC, hne⟩ := hg
      refine ⟨true, (z.1, upN z.2.1 a b, z.2.2.1, z.2.2.2), ⟨hv, fun i => by show upN _ _ _ i < 4; unfold upN; split; omega; exact hl i, fun g hg' => by show upN _ _ _ g < C; unfold upN; split; omega; exact hlC g hg', hpn, by show z.2.2.2 ≤ _; omega⟩, ?_, ?_⟩
      · intro Q lo lk lu A Co ls se ta wt W hQ
        unfold wp_X9_holds wp_X9_movesGate
        refine all_x c1 (all_x c2 (all_x c3 (all_x c4 (br_f n1 (br_f n2 (br_t (by rw [k3]; rfl) ?_))))))
        refine ev_isGate_t (by omega) hg (br_f (by decide) (ev_isChip_t (by omega) hbC (br_f (by decide) (ev_chipIn hl (by omega) ?_))))
        have := hl a
        refine bn_f (by rw [nI_eq (by omega) (by omega)]; exact hne) (ev_placed hl (by omega) (by omega) ⟨Or.inr rfl, ?_⟩)
        exact hQ _ _ _ _ _ _ _ _ _ _ _ _ _ _ _ (fun _ => ⟨rfl, rfl, rfl, rfl, rfl⟩)
      · intro Q cr kn la ln ta go ha tr wo hSB hQ
        unfold wp_X10_does
        refine br_f n1 (br_f n2 (br_t (by rw [k3]; rfl) (ev_noGate_t (by omega) hg (bn_t rfl (ev_noChip_t (by omega) hbC (bn_t rfl ?_))))))
        have := hl a
        rw [ix10, nI_clamp (by omega), hSB.2.1 a hg]
        refine ⟨vp_in_nI (by omega) (by omega), bn_f (by rw [nI_eq (by omega) (by omega)]; exact hne) ⟨vp_in_nI (by omega) (by omega), all_e (hQ _ _ _ _ _ _ _ _ _ (fun _ => ?_))⟩⟩
        refine ⟨⟨fun g hg' hs => by rw [upd_n (by omega)]; exact hSB.1.1 g hg' hs, by rw [upd_n (by omega)]; exact hSB.1.2⟩, fun g hg' => ?_, by rw [upd_n (by omega)]; exact hSB.2.2⟩
        show upd _ _ _ (10 + g) = nI (upN z.2.1 a b g)
        by_cases e : g = a
        · rw [e, upd_s, upN_s]
        · rw [upd_n (by omega), upN_n e]; exact hSB.2.1 g hg'
    · refine ⟨false, z, hz1, ?_, ?_⟩
      · intro Q lo lk lu A Co ls se ta wt W hQ
        unfold wp_X9_holds wp_X9_movesGate
        refine all_x c1 (all_x c2 (all_x c3 (all_x c4 (br_f n1 (br_f n2 (br_t (by rw [k3]; rfl) ?_))))))
        have q := hQ (nI z.2.2.2) (sI (sO N kd z.1)) (nI z.2.2.1) (pI z.2.1) (sI (sU N kd z.1)) lo lk lu A Co ls se ta wt W (fun h => by cases h)
        by_cases h1 : a < N
        · refine ev_isGate_t (by omega) h1 (br_f (by decide) ?_)
          by_cases h2 : b < C
          · refine ev_isChip_t (by omega) h2 (br_f (by decide) (ev_chipIn hl (by omega) ?_))
            by_cases h3 : z.2.1 a = b
            · exact bn_t (by rw [h3]) ⟨Or.inl rfl, q⟩
            · exact absurd ⟨h1, h2, h3⟩ hg
          · exact ev_isChip_f (by omega) (by rw [nI_toInt (by omega)]; omega) (br_t rfl ⟨Or.inl rfl, q⟩)
        · exact ev_isGate_f (by omega) (by rw [nI_toInt (by omega)]; omega) (br_t rfl ⟨Or.inl rfl, q⟩)
      · intro Q cr kn la ln ta go ha tr wo hSB hQ
        unfold wp_X10_does
        have q := hQ cr go ha kn la ln ta tr wo (fun h => by cases h)
        refine br_f n1 (br_f n2 (br_t (by rw [k3]; rfl) ?_))
        by_cases h1 : a < N
        · refine ev_noGate_t (by omega) h1 (bn_t rfl ?_)
          by_cases h2 : b < C
          · refine ev_noChip_t (by omega) h2 (bn_t rfl ?_)
            rw [ix10, nI_clamp (by omega), hSB.2.1 a h1]
            by_cases h3 : z.2.1 a = b
            · exact ⟨vp_in_nI (by omega) (by omega), bn_t (by rw [h3]) q⟩
            · exact absurd ⟨h1, h2, h3⟩ hg
          · exact ev_noChip_f (by omega) (by rw [nI_toInt (by omega)]; omega) (bn_f (by decide) q)
        · exact ev_noGate_f (by omega) (by rw [nI_toInt (by omega)]; omega) (bn_f (by decide) q)
  have n3 := kne 3 (by omega) k3
  by_cases k4 : k = 4
  · refine ⟨decide (a < N) && lv_ N kd s1 s2 z.1 none a == b, z, hz1, ?_, ?_⟩
    · intro Q lo lk lu A Co ls se ta wt W hQ
      unfold wp_X9_holds wp_X9_holds_b121
      refine all_x c1 (all_x c2 (all_x c3 (all_x c4 (br_f n1 (br_f n2 (br_f n3 (br_t (by rw [k4]; rfl) ?_)))))))
      by_cases h1 : a < N
      · refine ev_isGate_t (by omega) h1 (br_f (by decide) (ev_valueNow hO hA hv h1 (fun a1 b1 e1 => ?_)))
        have q := hQ (nI z.2.2.2) (sI (sO N kd z.1)) (nI z.2.2.1) (pI z.2.1) (sI (sU N kd z.1)) a1 b1 e1 A Co ls se ta wt W (fun _ => ⟨rfl, rfl, rfl, rfl, rfl⟩)
        have hle := lv_le (N := N) (kd := kd) (s1 := s1) (s2 := s2) (stuck := none) hv a
        by_cases h2 : lv_ N kd s1 s2 z.1 none a = b
        · refine bn_t (by rw [h2]) ?_
          rw [h2] at q; simpa [h1] using q
        · refine bn_f (by rw [nI_eq (by omega) (by omega)]; exact h2) ?_
          rw [show (lv_ N kd s1 s2 z.1 none a == b) = false by simpa using h2, Bool.and_false] at q; exact q
      · have q := hQ (nI z.2.2.2) (sI (sO N kd z.1)) (nI z.2.2.1) (pI z.2.1) (sI (sU N kd z.1)) lo lk lu A Co ls se ta wt W (fun _ => ⟨rfl, rfl, rfl, rfl, rfl⟩)
        rw [decide_eq_false h1, Bool.false_and] at q
        exact ev_isGate_f (by omega) (by rw [nI_toInt (by omega)]; omega) (br_t rfl q)
    · intro Q cr kn la ln ta go ha tr wo hSB hQ
      unfold wp_X10_does wp_X10_does_b184
      refine br_f n1 (br_f n2 (br_f n3 (br_t (by rw [k4]; rfl) ?_)))
      by_cases h1 : a < N
      · refine ev_noGate_t (by omega) h1 (bn_t rfl (ev_worthOf hO hB hSB.1 hv h1 (fun kn f => ?_)))
        have q := hQ cr go ha kn la ln ta tr f (fun _ => hSB)
        have hle := lv_le (N := N) (kd := kd) (s1 := s1) (s2 := s2) (stuck := none) hv a
        by_cases h2 : lv_ N kd s1 s2 z.1 none a = b
        · refine bn_t (by rw [h2]) ?_
          rw [h2] at q; simpa [h1] using q
        · refine bn_f (by rw [nI_eq (by omega) (by omega)]; exact h2) ?_
          rw [show (lv_ N kd s1 s2 z.1 none a == b) = false by simpa using h2, Bool.and_false] at q; exact q
      · have q := hQ cr go ha kn la ln ta tr wo (fun _ => hSB)
        rw [decide_eq_false h1, Bool.false_and] at q
        exact ev_noGate_f (by omega) (by rw [nI_toInt (by omega)]; omega) (bn_f (by decide) q)
  have n4 := kne 4 (by omega) k4
  by_cases k5 : k = 5
  · refine ⟨(sch N C kd s1 s2 z.2.1 z.2.2.1).2.1 == 10 * a + b, z, hz1, ?_, ?_⟩
    · intro Q lo lk lu A Co ls se ta wt W hQ
      unfold wp_X9_holds
      refine all_x c1 (all_x c2 (all_x c3 (all_x c4 (br_f n1 (br_f n2 (br_f n3 (br_f n4 (br_t (by rw [k5]; rfl) (ev_run hO hA hl hC (by omega) (fun A Co wt W => ?_))))))))))
      have q := hQ (nI z.2.2.2) (sI (sO N kd z.1)) (nI z.2.2.1) (pI z.2.1) (sI (sU N kd z.1)) lo lk lu A Co (sI (sch N C kd s1 s2 z.2.1 z.2.2.1).2.2.2) (nI (sch N C kd s1 s2 z.2.1 z.2.2.1).2.2.1) (nI (sch N C kd s1 s2 z.2.1 z.2.2.1).2.1) wt W (fun _ => ⟨rfl, rfl, rfl, rfl, rfl⟩)
      have hbd := sch_bd (N := N) (C := C) (kd := kd) (s1 := s1) (s2 := s2) (l := z.2.1) (p := z.2.2.1) hC.2
      by_cases h2 : (sch N C kd s1 s2 z.2.1 z.2.2.1).2.1 = 10 * a + b
      · refine bn_t (by rw [h2]) ?_
        rw [show ((sch N C kd s1 s2 z.2.1 z.2.2.1).2.1 == 10 * a + b) = true by simpa using h2] at q; exact q
      · refine bn_f (by rw [nI_eq (by omega) (by omega)]; exact h2) ?_
        rw [show ((sch N C kd s1 s2 z.2.1 z.2.2.1).2.1 == 10 * a + b) = false by simpa using h2] at q; exact q
    · intro Q cr kn la ln ta go ha tr wo hSB hQ
      unfold wp_X10_does
      rw [e10, c20, hSB.2.2]
      refine br_f n1 (br_f n2 (br_f n3 (br_f n4 (br_t (by rw [k5]; rfl) ⟨i20, ev_laySchedule hO hB hl hSB.2.1 hC (by omega) (fun goes hand ln hH' => ?_)⟩))))
      have q := hQ (nI (sch N C kd s1 s2 z.2.1 z.2.2.1).2.2.1) goes hand kn (mx (sch N C kd s1 s2 z.2.1 z.2.2.1).2.2.2 10) ln (nI (sch N C kd s1 s2 z.2.1 z.2.2.1).2.1) tr wo (fun _ => hSB)
      have hbd := sch_bd (N := N) (C := C) (kd := kd) (s1 := s1) (s2 := s2) (l := z.2.1) (p := z.2.2.1) hC.2
      by_cases h2 : (sch N C kd s1 s2 z.2.1 z.2.2.1).2.1 = 10 * a + b
      · refine bn_t (by rw [h2]) ?_
        rw [show ((sch N C kd s1 s2 z.2.1 z.2.2.1).2.1 == 10 * a + b) = true by simpa using h2] at q; exact q
      · refine bn_f (by rw [nI_eq (by omega) (by omega)]; exact h2) ?_
        rw [show ((sch N C kd s1 s2 z.2.1 z.2.2.1).2.1 == 10 * a + b) = false by simpa using h2] at q; exact q
  have n5 := kne 5 (by omega) k5
  by_cases k6 : k = 6
  · by_cases hg : a = 0 ∧ b ≠ 0
    · obtain ⟨rfl, hb0⟩ := hg
      refine ⟨true, (z.1, z.2.1, b, z.2.2.2), ⟨hv, hl, hlC, (show 1 ≤ b ∧ b ≤ 9 by omega), by show z.2.2.2 ≤ _; omega⟩, ?_, ?_⟩
      · intro Q lo lk lu A Co ls se ta wt W hQ
        unfold wp_X9_holds wp_X9_setsPins
        refine all_x c1 (all_x c2 (all_x c3 (all_x c4 (br_f n1 (br_f n2 (br_f n3 (br_f n4 (br_f n5 (br_t (by rw [k6]; rfl) (bn_t rfl (ev_isPins_t ⟨by omega, by omega⟩ (bn_f (by decide) (br_f (by decide) ?_)))))))))))))
        exact hQ _ _ _ _ _ _ _ _ _ _ _ _ _ _ _ (fun _ => ⟨rfl, rfl, rfl, rfl, rfl⟩)
      · intro Q cr kn la ln ta go ha tr wo hSB hQ
        unfold wp_X10_does
        rw [c20]
        refine br_f n1 (br_f n2 (br_f n3 (br_f n4 (br_f n5 (br_t (by rw [k6]; rfl) (bn_t rfl (bn_f (by rw [← nI_0, nI_eq (by omega) (by omega)]; exact hb0) ⟨i20, all_e (hQ _ _ _ _ _ _ _ _ _ (fun _ => ?_))⟩)))))))
        exact ⟨⟨fun g hg' hs => by rw [upd_n (by omega)]; exact hSB.1.1 g hg' hs, by rw [upd_n (by omega)]; exact hSB.1.2⟩, fun g hg' => by rw [upd_n (by omega)]; exact hSB.2.1 g hg', upd_s⟩
    · refine ⟨false, z, hz1, ?_, ?_⟩
      · intro Q lo lk lu A Co ls se ta wt W hQ
        unfold wp_X9_holds wp_X9_setsPins wp_X9_holds_b182
        refine all_x c1 (all_x c2 (all_x c3 (all_x c4 (br_f n1 (br_f n2 (br_f n3 (br_f n4 (br_f n5 (br_t (by rw [k6]; rfl) ?_)))))))))
        have q := hQ (nI z.2.2.2) (sI (sO N kd z.1)) (nI z.2.2.1) (pI z.2.1) (sI (sU N kd z.1)) lo lk lu A Co ls se ta wt W (fun h => by cases h)
        by_cases h1 : a = 0
        · have hb0 : b = 0 := by apply Classical.byContradiction; intro h; exact hg ⟨h1, h⟩
          subst h1; subst hb0
          exact bn_t rfl (ev_isPins_f (by decide) (bn_t rfl (br_t rfl q)))
        · exact bn_f (by rw [← nI_0, nI_eq (by omega) (by omega)]; exact h1) q
      · intro Q cr kn la ln ta go ha tr wo hSB hQ
        unfold wp_X10_does
        have q := hQ cr go ha kn la ln ta tr wo (fun h => by cases h)
        refine br_f n1 (br_f n2 (br_f n3 (br_f n4 (br_f n5 (br_t (by rw [k6]; rfl) ?_)))))
        by_cases h1 : a = 0
        · have hb0 : b = 0 := by apply Classical.byContradiction; intro h; exact hg ⟨h1, h⟩
          subst h1; subst hb0
          exact bn_t rfl (bn_t rfl q)
        · exact bn_f (by rw [← nI_0, nI_eq (by omega) (by omega)]; exact h1) q
  have n6 := kne 6 (by omega) k6
  refine ⟨false, z, hz1, ?_, ?_⟩
  · intro Q lo lk lu A Co ls se ta wt W hQ
    unfold wp_X9_holds
    exact all_x c1 (all_x c2 (all_x c3 (all_x c4 (br_f n1 (br_f n2 (br_f n3 (br_f n4 (br_f n5 (br_f n6 (hQ _ _ _ _ _ _ _ _ _ _ _ _ _ _ _ (fun h => by cases h)))))))))))
  · intro Q cr kn la ln ta go ha tr wo hSB hQ
    unfold wp_X10_does
    exact br_f n1 (br_f n2 (br_f n3 (br_f n4 (br_f n5 (br_f n6 (hQ _ _ _ _ _ _ _ _ _ (fun h => by cases h)))))))
theorem judge_loop (hO : POK N kd s1 s2 ck) (hA : PA N kd s1 s2 kinds firsts seconds sets) (hB : PB N kd s1 s2 kind source second) (hck : ∀ g, g < N → clock g = cI_ kd ck g) (hC : 1 ≤ C ∧ C ≤ 4) {K : Nat} (hK : K < 520) {n R : Nat} (hn : n ≤ 4) (hR : R < 2 ^ 60) {nc no np nl nu : Int32} {pg : Nat → Int32} {th : Int32} :
    ∀ (d i : Nat) (z : AS), i + d = n → SK N C (K + i) z → ∃ res : Int32,
      (∀ (Q : Int32 → Int32 → Int32 → Int32 → Int32 → Int32 → Int32 → Int32 → Int32 → (Nat → Int32) → (Nat → Int32) → Int32 → Int32 → Int32 → Int32 → (Nat → Int32) → Prop) (lo lk lu : Int32) (A Co : Nat → Int32) (ls se ta wt : Int32) (W : Nat → Int32), (∀ cnt on pi pl un lo lk lu A Co ls se ta wt W, Q res cnt on pi pl un lo lk lu A Co ls se ta wt W) →
        wp_X9_judge_h45 nc no np nl nu (nI C) firsts (nI N) (sI (inF N kd)) kinds (sI (reF N kd)) seconds (sI (slF N kd ck)) sets (nI n) (lN R) Q (d + 1) (nI i) (nI z.2.2.2) (sI (sO N kd z.1)) (nI z.2.2.1) (pI z.2.1) (sI (sU N kd z.1)) lo lk lu A Co ls se ta wt W) ∧
      (∀ (Q : Int32 → Int32 → (Nat → Int32) → (Nat → Int32) → Int32 → Int32 → Int32 → Int32 → Int32 → (Nat → Int32) → (Nat → Int32) → Prop) (cr kn la ln ta : Int32) (go ha tr wo : Nat → Int32), SB N kd z tr → (∀ cr go ha kn la ln ta tr wo, Q res cr go ha kn la ln ta th tr wo) →
        wp_X10_judge_h44 (nI C) clock (nI N) kind pg second source (nI n) (lN R) Q (d + 1) (nI i) cr go ha kn la ln ta th tr wo) := by
  intro d
  induction d with
  | zero =>
    intro i z hid hz
    refine ⟨-9, fun Q lo lk lu A Co ls se ta wt W hQ => ?_, fun Q cr kn la ln ta go ha tr wo hSB hQ => ?_⟩
    · show wp_X9_judge_b45 nc no np nl nu (nI C) firsts (nI N) (sI (inF N kd)) kinds (sI (reF N kd)) seconds (sI (slF N kd ck)) sets (nI n) (lN R) Q _ _ _ _ _ _ _ _ _ _ _ _ _ _ _ _ _
      unfold wp_X9_judge_b45
      exact pk_le n i (fun _ => hQ _ _ _ _ _ _ _ _ _ _ _ _ _ _ _) (fun h => absurd h (by omega))
    · show wp_X10_judge_b44 (nI C) clock (nI N) kind pg second source (nI n) (lN R) Q _ _ _ _ _ _ _ _ _ _ _ _
      unfold wp_X10_judge_b44
      exact pk_le n i (fun _ => hQ _ _ _ _ _ _ _ _ _) (fun h => absurd h (by omega))
  | succ d ih =>
    intro i z hid hz
    have em : (nI n - 1) - nI i = nI (n - 1 - i) := by
      rw [show nI n - 1 = nI (n - 1) from pk_sub (a := n) (b := 1) (by omega), pk_sub (by omega)]
    obtain ⟨y, z', hz', h1, h2⟩ := one_judge (clock := clock) hO hA hB hck hC (K := K + i) (by omega) (s := R / 1000 ^ (n - 1 - i) % 1000) (Nat.mod_lt _ (by omega)) hz
    have hpw : 1000 ^ (n - 1 - i) < 2 ^ 62 := Nat.lt_of_le_of_lt (Nat.pow_le_pow_right (by omega) (show n - 1 - i ≤ 3 by omega)) (by decide)
    have hpp : 0 < 1000 ^ (n - 1 - i) := Nat.pow_pos (by omega)
    have eS : ((lN R / lN (1000 ^ (n - 1 - i))) - (lN R / lN (1000 ^ (n - 1 - i))) / (1000 : Int64) * (1000 : Int64)).toInt32 = nI (R / 1000 ^ (n - 1 - i) % 1000) := by
      rw [lN_div (by omega) hpp (by omega)]
      have := lN_rem (a := R / 1000 ^ (n - 1 - i)) (d := 1000) (Nat.lt_of_le_of_lt (Nat.div_le_self _ _) (by omega)) (by omega) (by omega)
      have this : lN (R / 1000 ^ (n - 1 - i)) - lN (R / 1000 ^ (n - 1 - i)) / (1000 : Int64) * (1000 : Int64) = _ := this
      rw [this, lN_i]
    have hsl : R / 1000 ^ (n - 1 - i) % 1000 < 1000 := Nat.mod_lt _ (by omega)
    have hne0 : ¬ lN (1000 ^ (n - 1 - i)) = 0 := by
      intro h
      have := congrArg Int64.toInt h
      rw [pk_lT (by omega)] at this
      have z0 : (0 : Int64).toInt = 0 := rfl
      omega
    generalize eN : R / 1000 ^ (n - 1 - i) % 1000 = s at h1 h2 eS hsl
    have e1 : nI s / 100 = nI (s / 100) := pk_div (a := s) (d := 100) (by omega) (by omega) (by omega)
    have e2 : nI s / 10 - nI s / 10 / 10 * 10 = nI (s / 10 % 10) := by
      rw [show nI s / 10 = nI (s / 10) from pk_div (a := s) (d := 10) (by omega) (by omega) (by omega)]
      exact pk_rem (a := s / 10) (d := 10) (by omega) (by omega) (by omega)
    have e3 : nI s - nI s / 10 * 10 = nI (s % 10) := pk_rem (a := s) (d := 10) (by omega) (by omega) (by omega)
    cases y with
    | false =>
      refine ⟨nI i, fun Q lo lk lu A Co ls se ta wt W hQ => ?_, fun Q cr kn la ln ta go ha tr wo hSB hQ => ?_⟩
      · show wp_X9_judge_b45 nc no np nl nu (nI C) firsts (nI N) (sI (inF N kd)) kinds (sI (reF N kd)) seconds (sI (slF N kd ck)) sets (nI n) (lN R) Q _ _ _ _ _ _ _ _ _ _ _ _ _ _ _ _ _
        unfold wp_X9_judge_b45
        rw [em]
        refine pk_le n i (fun h => absurd h (by omega)) (fun _ => ev_statementOf hR (by omega) ?_)
        rw [eN]
        refine h1 _ _ _ _ _ _ _ _ _ _ _ (fun cnt on pi pl un lo lk lu A Co ls se ta wt W _ => bn_t rfl (hQ _ _ _ _ _ _ _ _ _ _ _ _ _ _ _))
      · show wp_X10_judge_b44 (nI C) clock (nI N) kind pg second source (nI n) (lN R) Q _ _ _ _ _ _ _ _ _ _ _ _
        unfold wp_X10_judge_b44
        rw [em]
        refine pk_le n i (fun h => absurd h (by omega)) (fun _ => ev_longPower (b := 1000) (by omega) ⟨hne0, all_x eS ?_⟩)
        rw [e1, e2, e3]
        exact h2 _ _ _ _ _ _ _ _ _ _ hSB (fun cr go ha kn la ln ta tr wo _ => bn_t rfl (hQ _ _ _ _ _ _ _ _ _))
    | true =>
      obtain ⟨res, g1, g2⟩ := ih (i + 1) z' (by omega) hz'
      refine ⟨res, fun Q lo lk lu A Co ls se ta wt W hQ => ?_, fun Q cr kn la ln ta go ha tr wo hSB hQ => ?_⟩
      · show wp_X9_judge_b45 nc no np nl nu (nI C) firsts (nI N) (sI (inF N kd)) kinds (sI (reF N kd)) seconds (sI (slF N kd ck)) sets (nI n) (lN R) Q (wp_X9_judge_h45 nc no np nl nu (nI C) firsts (nI N) (sI (inF N kd)) kinds (sI (reF N kd)) seconds (sI (slF N kd ck)) sets (nI n) (lN R) Q (d + 1)) _ _ _ _ _ _ _ _ _ _ _ _ _ _ _ _
        unfold wp_X9_judge_b45
        rw [em]
        refine pk_le n i (fun h => absurd h (by omega)) (fun _ => ev_statementOf hR (by omega) ?_)
        rw [eN]
        refine h1 _ _ _ _ _ _ _ _ _ _ _ (fun cnt on pi pl un lo lk lu A Co ls se ta wt W hs => bn_f (by decide) (all_e ?_))
        obtain ⟨rfl, rfl, rfl, rfl, rfl⟩ := hs rfl
        rw [nI_1]
        exact g1 Q _ _ _ _ _ _ _ _ _ _ hQ
      · show wp_X10_judge_b44 (nI C) clock (nI N) kind pg second source (nI n) (lN R) Q (wp_X10_judge_h44 (nI C) clock (nI N) kind pg second source (nI n) (lN R) Q (d + 1)) _ _ _ _ _ _ _ _ _ _ _
        unfold wp_X10_judge_b44
        rw [em]
        refine pk_le n i (fun h => absurd h (by omega)) (fun _ => ev_longPower (b := 1000) (by omega) ⟨hne0, all_x eS ?_⟩)
        rw [e1, e2, e3]
        refine h2 _ _ _ _ _ _ _ _ _ _ hSB (fun cr go ha kn la ln ta tr wo hs => bn_f (by decide) (all_e ?_))
        rw [nI_1]
        exact g2 Q _ _ _ _ _ _ _ _ _ (hs rfl) hQ
end
set_option maxRecDepth 20000 in
set_option maxHeartbeats 2000000 in
theorem law_judge {k : Nat} {f_keptSlots : Int32} {f_lastSeed : Int64} {f_text_letters : Nat → Int32} {f_text_length : Int32} {f_plan_chips : Int32} {f_plan_gates : Int32} {f_plan_inputs : Int32} {f_plan_registers : Int32} {f_plan_slowRegisters : Int32} {f_plan_kinds : Nat → Int32} {f_plan_firsts : Nat → Int32} {f_plan_seconds : Nat → Int32} {f_plan_clocks : Nat → Int32} {f_plan_sourceSets : Nat → Int32} {f_now_ones : Int32} {f_now_unknowns : Int32} {f_now_places : Int32} {f_now_pins : Int32} {f_now_count : Int32} {f_copy_ones : Int32} {f_copy_unknowns : Int32} {f_copy_places : Int32} {f_copy_pins : Int32} {f_copy_count : Int32} {f_logic_ones : Int32} {f_logic_unknowns : Int32} {f_logic_settled : Int32} {f_sched_available : Nat → Int32} {f_sched_wanted : Nat → Int32} {f_sched_coming : Nat → Int32} {f_sched_waiting : Int32} {f_sched_taken : Int32} {f_sched_sent : Int32} {f_sched_lastSent : Int32} {f_hist_next : Int32} {f_hist_held : Int32} {f_ring_cells : Nat → Int32} {f_kept_cells : Nat → Int32} {f_sight_steps : Nat → Int32} {f_sight_gates : Nat → Int32} {f_sight_values : Nat → Int32} {f_sight_truths : Nat → Int32} {f_sight_held : Int32} {m_thrown : Int32} {m_text : Nat → Int32} {m_textSize : Int32} {m_chips : Int32} {m_gates : Int32} {m_kind : Nat → Int32} {m_source : Nat → Int32} {m_second : Nat → Int32} {m_clock : Nat → Int32} {m_page : Nat → Int32} {m_trial : Nat → Int32} {m_book : Nat → Int32} {m_doings : Int32} {m_kept : Nat → Int32} {m_isKept : Nat → Int32} {m_seen : Int32} {m_seenBehind : Nat → Int32} {m_seenGate : Nat → Int32} {m_seenWorth : Nat → Int32} {m_seenWas : Nat → Int32} {m_seed : Int64} {m_worth : Nat → Int32} {m_known : Int32} {m_hand : Nat → Int32} {m_goes : Nat → Int32} {m_takes : Int32} {m_crossed : Int32} {m_last : Int32} {m_lastNow : Int32} (hk : k < 512) (hI : Inv k f_keptSlots f_lastSeed f_text_letters f_text_length f_plan_chips f_plan_gates f_plan_inputs f_plan_registers f_plan_slowRegisters f_plan_kinds f_plan_firsts f_plan_seconds f_plan_clocks f_plan_sourceSets f_now_ones f_now_unknowns f_now_places f_now_pins f_now_count f_hist_next f_hist_held f_ring_cells f_kept_cells f_sight_steps f_sight_gates f_sight_values f_sight_truths f_sight_held m_text m_textSize m_chips m_gates m_kind m_source m_second m_clock m_page m_book m_doings m_kept m_isKept m_seen m_seenBehind m_seenGate m_seenWorth m_seenWas m_seed) (a1 : Int32) (a2 : Int64) :
    wp_X9_judge f_copy_count f_copy_ones f_copy_pins f_copy_places f_copy_unknowns f_logic_ones f_logic_settled f_logic_unknowns f_now_count f_now_ones f_now_pins f_now_places f_now_unknowns f_plan_chips f_plan_firsts f_plan_gates f_plan_inputs f_plan_kinds f_plan_registers f_plan_seconds f_plan_slowRegisters f_plan_sourceSets f_sched_available f_sched_coming f_sched_lastSent f_sched_sent f_sched_taken f_sched_waiting f_sched_wanted a1 a2 (fun r y_copy_count y_copy_ones y_copy_pins y_copy_places y_copy_unknowns y_logic_ones y_logic_settled y_logic_unknowns y_sched_available y_sched_coming y_sched_lastSent y_sched_sent y_sched_taken y_sched_waiting y_sched_wanted => wp_X10_judge m_chips m_clock m_crossed m_gates m_goes m_hand m_kind m_known m_last m_lastNow m_page m_second m_source m_takes m_thrown m_trial m_worth a1 a2 (fun r2 z_crossed z_goes z_hand z_known z_last z_lastNow z_takes z_thrown z_trial z_worth => r = r2 ∧ Inv (k + 1) f_keptSlots f_lastSeed f_text_letters f_text_length f_plan_chips f_plan_gates f_plan_inputs f_plan_registers f_plan_slowRegisters f_plan_kinds f_plan_firsts f_plan_seconds f_plan_clocks f_plan_sourceSets f_now_ones f_now_unknowns f_now_places f_now_pins f_now_count f_hist_next f_hist_held f_ring_cells f_kept_cells f_sight_steps f_sight_gates f_sight_values f_sight_truths f_sight_held m_text m_textSize m_chips m_gates m_kind m_source m_second m_clock m_page m_book m_doings m_kept m_isKept m_seen m_seenBehind m_seenGate m_seenWorth m_seenWas m_seed)) := by
  have same := inv_mono hI
  obtain ⟨hT, ⟨N, C, kd, s1, s2, ck, hP, ⟨z, hz, hA, hB⟩, hH, hK⟩, hSe, hSd⟩ := hI
  obtain ⟨hO, hC, ⟨rfl, rfl, rfl, rfl, rfl⟩, hPA, hck, ⟨rfl, rfl⟩, hPB, hckM⟩ := hP
  have hN := hO.1
  obtain ⟨rfl, rfl, rfl, rfl, rfl⟩ := hA
  unfold wp_X9_judge wp_X10_judge wp_X7_takeFrom
  rcases rg_ix a1 1 4 (by omega) with ⟨n, hn1, hn, rfl⟩ | ha
  · refine in_lg (L := 1) (H := 4) hn1 hn (by omega) ?_
    have hpw : 1000 ^ n < 2 ^ 60 := Nat.lt_of_le_of_lt (Nat.pow_le_pow_right (by omega) (show n ≤ 4 by omega)) (by decide)
    have hpp : 0 < 1000 ^ n := Nat.pow_pos (by omega)
    rw [lg_cmp_lt, Int64.lt_iff_toInt_lt, show (0 : Int64).toInt = 0 from rfl]
    have es : (lN (1000 ^ n) - (1 : Int64)).toInt = (1000 ^ n : Nat) - 1 := by
      rw [show lN (1000 ^ n) - (1 : Int64) = lN (1000 ^ n - 1) from lN_sub (b := 1) (by omega), pk_lT (by omega)]; omega
    rcases lg_ix a2 (1000 ^ n) (by omega) with ⟨R, hR, rfl⟩ | hr
    · rw [pk_lT (show R < 2 ^ 63 by omega)]
      refine br_f (by omega) (ev_cpower (b := 1000) (by omega) (by omega) ?_)
      rw [lg_cmp_lt, Int64.lt_iff_toInt_lt, pk_lT (show R < 2 ^ 63 by omega), pk_lT (by omega)]
      refine br_t (by omega) ?_
      obtain ⟨res, h1, h2⟩ := judge_loop (clock := m_clock) (th := 0) (nc := nI z.2.2.2) (no := sI (sO N kd z.1)) (np := nI z.2.2.1) (nl := pI z.2.1) (nu := sI (sU N kd z.1)) (pg := m_page) hO hPA hPB hckM hC (K := k) (by omega) hn (show R < 2 ^ 60 by omega) n 0 z (by omega) hz
      refine ⟨n + 1, h1 _ _ _ _ _ _ _ _ _ _ _ (fun cnt on pi pl un lo lk lu A Co ls se ta wt W => ?_)⟩
      refine ev_in_t (L := 1) (H := 4) hn1 hn (by omega) (br_f (by decide) (ev_longPower (b := 1000) (by omega) (ev_in ?_)))
      rw [es, pk_lT (show R < 2 ^ 63 by omega), show (0 : Int64).toInt = 0 from rfl, if_pos (by omega)]
      refine bn_f (by decide) (ev_layTrial (fun t' ht => ⟨n + 1, h2 _ _ _ _ _ _ _ _ _ _ (hB.cong hN ht) (fun cr go ha kn la ln ta tr wo => ⟨rfl, same⟩)⟩))
    · by_cases h0 : a2.toInt < 0
      · refine br_t h0 (ev_in_t (L := 1) (H := 4) hn1 hn (by omega) (br_f (by decide) (ev_longPower (b := 1000) (by omega) (ev_in ?_))))
        rw [es, show (0 : Int64).toInt = 0 from rfl, if_neg (by omega)]
        exact bn_t rfl ⟨rfl, same⟩
      · refine br_f h0 (ev_cpower (b := 1000) (by omega) (by omega) ?_)
        rw [lg_cmp_lt, Int64.lt_iff_toInt_lt, pk_lT (by omega)]
        refine br_f (by omega) (ev_in_t (L := 1) (H := 4) hn1 hn (by omega) (br_f (by decide) (ev_longPower (b := 1000) (by omega) (ev_in ?_))))
        rw [es, show (0 : Int64).toInt = 0 from rfl, if_neg (by omega)]
        exact bn_t rfl ⟨rfl, same⟩
  · exact out_lg (L := 1) (H := 4) (by omega) (by omega) ha (ev_in_f ha (br_t rfl ⟨rfl, same⟩))
