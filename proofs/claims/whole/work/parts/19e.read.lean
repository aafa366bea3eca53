/-! ===== one gate of a text, on both sides ===== -/
def QK (G C : Nat) (kd s1 s2 ck l : Nat → Nat) (M : Nat) : Prop := G ≤ 10 ∧ (∀ i, l i < 4) ∧ (∀ g, g < G → kd g ≤ 5 ∧ l g < C ∧ (kd g = 5 → ck g < 2)) ∧ (∀ n, M ≤ n ↔ ∀ g, g < G → (kd g ≠ 0 → s1 g < n) ∧ (two (kd g) = true → s2 g < n)) ∧ M ≤ 10
def KA (G : Nat) (kd s1 s2 ck l : Nat → Nat) (clo fi ki se ss : Nat → Int32) (fpl ga inp re sl : Int32) : Prop := ga = nI G ∧ inp = sI (inF G kd) ∧ re = sI (reF G kd) ∧ sl = sI (slF G kd ck) ∧ fpl = pI l ∧ ∀ g, g < G → ki g = nI (kd g) ∧ fi g = fI kd s1 g ∧ se g = eI kd s2 g ∧ ss g = sI (tF kd s1 s2 g) ∧ clo g = cI_ kd ck g
def KB (G : Nat) (kd s1 s2 ck l : Nat → Nat) (rclk rk rl rsec rsrc : Nat → Int32) (rga : Int32) : Prop := rga = nI G ∧ ∀ g, g < G → rk g = nI (kd g) ∧ rsrc g = fI kd s1 g ∧ rsec g = eI kd s2 g ∧ rclk g = cI_ kd ck g ∧ rl g = nI (l g)
def GS (gs : Int32) (M : Nat) : Prop := ∀ n, n ≤ 20 → (gs < nI n ↔ M ≤ n)
theorem gsU_GS {gs : Int32} {M a : Nat} (h : GS gs M) (ha : a ≤ 9) : GS (gsU gs a) (max M (a + 1)) := by
  intro n hn
  unfold gsU
  have h1 := h a (by omega)
  by_cases hlt : gs < nI a
  · rw [if_pos hlt, nI_ltI (by omega) (by omega)]
    have := h1.mp hlt
    omega
  · rw [if_neg hlt, h n hn]
    have : ¬ M ≤ a := fun z => hlt (h1.mpr z)
    omega
section
variable {G C : Nat} {kd s1 s2 ck l : Nat → Nat} {M : Nat}
theorem ext_fI {k a g : Nat} (h : g ≠ G) : fI (upN kd G k) (upN s1 G a) g = fI kd s1 g := by unfold fI; rw [upN_n h, upN_n h]
theorem ext_eI {k a g : Nat} (h : g ≠ G) : eI (upN kd G k) (upN s2 G a) g = eI kd s2 g := by unfold eI; rw [upN_n h, upN_n h]
theorem ext_cI {k a g : Nat} (h : g ≠ G) : cI_ (upN kd G k) (upN ck G a) g = cI_ kd ck g := by unfold cI_; rw [upN_n h, upN_n h]
theorem ext_tF {k a b g : Nat} (h : g ≠ G) : tF (upN kd G k) (upN s1 G a) (upN s2 G b) g = tF kd s1 s2 g := by
  funext i; unfold tF; rw [upN_n h, upN_n h, upN_n h]
theorem ext_in {k : Nat} (hG : G < 10) : inU k G (sI (inF G kd)) 0 = sI (inF (G + 1) (upN kd G k)) := by
  have e : sI (inF (G + 1) (upN kd G k)) = sI (fun i => inF G kd i || (i == G && k == 0)) := by
    apply sI_cong; intro i _; unfold inF
    by_cases h : i = G
    · subst h; rw [upN_s]; simp
    · have : (i < G + 1) = (i < G) := by simp; omega
      rw [upN_n h, show (i == G) = false by simpa using h]; simp [this]
  rw [e]; unfold inU
  by_cases h : k = 0
  · rw [if_pos h, sI_or, h]; simp
  · rw [if_neg h, show (k == 0) = false by simpa using h]; simp
theorem ext_re {k : Nat} (hG : G < 10) : inU k G (sI (reF G kd)) 5 = sI (reF (G + 1) (upN kd G k)) := by
  have e : sI (reF (G + 1) (upN kd G k)) = sI (fun i => reF G kd i || (i == G && k == 5)) := by
    apply sI_cong; intro i _; unfold reF
    by_cases h : i = G
    · subst h; rw [upN_s]; simp
    · have : (i < G + 1) = (i < G) := by simp; omega
      rw [upN_n h, show (i == G) = false by simpa using h]; simp [this]
  rw [e]; unfold inU
  by_cases h : k = 5
  · rw [if_pos h, sI_or, h]; simp
  · rw [if_neg h, show (k == 5) = false by simpa using h]; simp
theorem ext_sl {k e : Nat} (hG : G < 10) : (if k = 5 then inU e G (sI (slF G kd ck)) 1 else sI (slF G kd ck)) = sI (slF (G + 1) (upN kd G k) (upN ck G e)) := by
  have e1 : sI (slF (G + 1) (upN kd G k) (upN ck G e)) = sI (fun i => slF G kd ck i || (i == G && (k == 5 && e == 1))) := by
    apply sI_cong; intro i _; unfold slF
    by_cases h : i = G
    · subst h; rw [upN_s, upN_s]; simp
    · have : (i < G + 1) = (i < G) := by simp; omega
      rw [upN_n h, upN_n h, show (i == G) = false by simpa using h]; simp [this]
  rw [e1]
  by_cases h : k = 5
  · rw [if_pos h]; unfold inU
    by_cases h1 : e = 1
    · rw [if_pos h1, sI_or, h, h1]; simp
    · rw [if_neg h1, show (e == 1) = false by simpa using h1]; simp
  · rw [if_neg h, show (k == 5) = false by simpa using h]; simp
/-- the greatest source so far -/
def mU (M k a b : Nat) : Nat := if k = 0 then M else if two k = true then max (max M (a + 1)) (b + 1) else max M (a + 1)
theorem ext_QK {k c a b e : Nat} (h : QK G C kd s1 s2 ck l M) (hG : G < 10) (hC : C ≤ 4) (hk : k ≤ 5) (hc : c < C) (ha : a ≤ 9) (hb : b ≤ 9) (he : e ≤ 1) : QK (G + 1) C (upN kd G k) (upN s1 G a) (upN s2 G b) (upN ck G e) (upN l G c) (mU M k a b) := by
  obtain ⟨_, h2, h3, h4, h5⟩ := h
  refine ⟨by omega, fun i => ?_, fun g hg => ?_, fun n => ?_, ?_⟩
  · unfold upN; split; omega; exact h2 i
  · by_cases eg : g = G
    · subst eg; rw [upN_s, upN_s, upN_s]; exact ⟨hk, hc, fun _ => by omega⟩
    · rw [upN_n eg, upN_n eg, upN_n eg]; exact h3 g (by omega)
  · have split : (∀ g, g < G + 1 → (upN kd G k g ≠ 0 → upN s1 G a g < n) ∧ (two (upN kd G k g) = true → upN s2 G b g < n)) ↔ (∀ g, g < G → (kd g ≠ 0 → s1 g < n) ∧ (two (kd g) = true → s2 g < n)) ∧ ((k ≠ 0 → a < n) ∧ (two k = true → b < n)) := by
      constructor
      · intro h
        refine ⟨fun g hg => ?_, ?_⟩
        · have := h g (by omega)
          have ne : g ≠ G := by omega
          rw [upN_n ne, upN_n ne, upN_n ne] at this; exact this
        · have := h G (by omega)
          rw [upN_s, upN_s, upN_s] at this; exact this
      · rintro ⟨p1, p2⟩ g hg
        by_cases eg : g = G
        · subst eg; rw [upN_s, upN_s, upN_s]; exact p2
        · rw [upN_n eg, upN_n eg, upN_n eg]; exact p1 g (by omega)
    rw [split, ← h4 n]
    unfold mU
    by_cases k0 : k = 0
    · have t0 : two k = false := by rw [k0]; rfl
      rw [if_pos k0, t0]
      constructor
      · intro z; exact ⟨z, fun w => absurd k0 w, fun w => by cases w⟩
      · intro z; exact z.1
    · rw [if_neg k0]
      by_cases t : two k = true
      · rw [if_pos t]
        constructor
        · intro z; exact ⟨by omega, fun _ => by omega, fun _ => by omega⟩
        · rintro ⟨z1, z2, z3⟩
          have := z2 k0; have := z3 t; omega
      · rw [if_neg t]
        constructor
        · intro z; exact ⟨by omega, fun _ => by omega, fun w => absurd w t⟩
        · rintro ⟨z1, z2, _⟩
          have := z2 k0; omega
  · unfold mU; split
    · exact h5
    · split <;> omega
theorem ext_KA {k c a b e : Nat} (hG : G < 10) {clo fi ki se ss : Nat → Int32} {fpl ga inp re sl : Int32} (h : KA G kd s1 s2 ck l clo fi ki se ss fpl ga inp re sl) {clo' fi' ki' se' ss' : Nat → Int32} {fpl' ga' inp' re' sl' : Int32}
    (e1 : ga' = nI (G + 1)) (e2 : inp' = inU k G inp 0) (e3 : re' = inU k G re 5) (e4 : sl' = if k = 5 then inU e G sl 1 else sl) (e5 : fpl' = pI (upN l G c)) (eo : ∀ g, g ≠ G → ki' g = ki g ∧ fi' g = fi g ∧ se' g = se g ∧ ss' g = ss g ∧ clo' g = clo g)
    (n1 : ki' G = nI k) (n2 : fi' G = fI (upN kd G k) (upN s1 G a) G) (n3 : se' G = eI (upN kd G k) (upN s2 G b) G) (n4 : ss' G = sI (tF (upN kd G k) (upN s1 G a) (upN s2 G b) G)) (n5 : clo' G = cI_ (upN kd G k) (upN ck G e) G) : KA (G + 1) (upN kd G k) (upN s1 G a) (upN s2 G b) (upN ck G e) (upN l G c) clo' fi' ki' se' ss' fpl' ga' inp' re' sl' := by
  obtain ⟨p1, p2, p3, p4, p5, p6⟩ := h
  refine ⟨e1, by rw [e2, p2]; exact ext_in hG, by rw [e3, p3]; exact ext_re hG, by rw [e4, p4]; exact ext_sl hG, e5, fun g hg => ?_⟩
  by_cases eg : g = G
  · subst eg
    exact ⟨by rw [upN_s]; exact n1, n2, n3, n4, n5⟩
  · obtain ⟨q1, q2, q3, q4, q5⟩ := p6 g (by omega)
    obtain ⟨o1, o2, o3, o4, o5⟩ := eo g eg
    rw [o1, o2, o3, o4, o5, upN_n eg, ext_fI eg, ext_eI eg, ext_tF eg, ext_cI eg]
    exact ⟨q1, q2, q3, q4, q5⟩
theorem ext_KB {k c a b e : Nat} {rclk rk rl rsec rsrc : Nat → Int32} {rga : Int32} (h : KB G kd s1 s2 ck l rclk rk rl rsec rsrc rga) {rclk' rk' rl' rsec' rsrc' : Nat → Int32} {rga' : Int32} (e1 : rga' = nI (G + 1)) (eo : ∀ g, g ≠ G → rk' g = rk g ∧ rsrc' g = rsrc g ∧ rsec' g = rsec g ∧ rclk' g = rclk g ∧ rl' g = rl g)
    (n1 : rk' G = nI k) (n2 : rsrc' G = fI (upN kd G k) (upN s1 G a) G) (n3 : rsec' G = eI (upN kd G k) (upN s2 G b) G) (n4 : rclk' G = cI_ (upN kd G k) (upN ck G e) G) (n5 : rl' G = nI c) : KB (G + 1) (upN kd G k) (upN s1 G a) (upN s2 G b) (upN ck G e) (upN l G c) rclk' rk' rl' rsec' rsrc' rga' := by
  obtain ⟨p1, p2⟩ := h
  refine ⟨e1, fun g hg => ?_⟩
  by_cases eg : g = G
  · subst eg
    exact ⟨by rw [upN_s]; exact n1, n2, n3, n4, by rw [upN_s]; exact n5⟩
  · obtain ⟨q1, q2, q3, q4, q5⟩ := p2 g (by omega)
    obtain ⟨o1, o2, o3, o4, o5⟩ := eo g eg
    rw [o1, o2, o3, o4, o5, upN_n eg, ext_fI eg, ext_eI eg, ext_cI eg, upN_n eg]
    exact ⟨q1, q2, q3, q4, q5⟩
end
