/-! ===== steps: the class ===== -/
def tk (kd s1 ck w v : Nat → Nat) (c : Nat) : Nat → Nat := fun g => if kd g = 5 ∧ (ck g = 0 ∨ c % 2 = 1) then w (s1 g) else v g
abbrev SX : Type := (Nat → Nat) × Nat
def stp1 (N : Nat) (kd s1 s2 ck : Nat → Nat) (stuck : Option Nat) (x : SX) : SX := (tk kd s1 ck (lv_ N kd s1 s2 x.1 stuck) x.1 x.2, x.2 + 1)
def stpn (N : Nat) (kd s1 s2 ck : Nat → Nat) (stuck : Option Nat) : Nat → SX → SX
  | 0, x => x
  | t + 1, x => stpn N kd s1 s2 ck stuck t (stp1 N kd s1 s2 ck stuck x)
section
variable {N : Nat} {kd s1 s2 ck : Nat → Nat} {kinds firsts seconds sets clocks : Nat → Int32} {stuck : Option Nat}
theorem lv_le {v : Nat → Nat} (hv : ∀ i, v i ≤ 2) (i : Nat) : lv_ N kd s1 s2 v stuck i ≤ 2 := (lit_LG (N := N) (kd := kd) N (l0_LG hv)).1 i
theorem stp1_le {x : SX} (hv : ∀ i, x.1 i ≤ 2) (i : Nat) : (stp1 N kd s1 s2 ck stuck x).1 i ≤ 2 := by
  show tk _ _ _ _ _ _ i ≤ 2
  unfold tk
  split
  · exact lv_le hv _
  · exact hv i
theorem stpn_le : ∀ (n : Nat) {x : SX}, (∀ i, x.1 i ≤ 2) → ∀ i, (stpn N kd s1 s2 ck stuck n x).1 i ≤ 2
  | 0, _, h => h
  | n + 1, _, h => stpn_le n (stp1_le h)
theorem stpn_ct : ∀ (n : Nat) (x : SX), (stpn N kd s1 s2 ck stuck n x).2 = x.2 + n
  | 0, x => rfl
  | n + 1, x => by
    show (stpn N kd s1 s2 ck stuck n (stp1 N kd s1 s2 ck stuck x)).2 = _
    rw [stpn_ct n]
    show x.2 + 1 + n = _
    omega
theorem stpn_add : ∀ (a b : Nat) (x : SX), stpn N kd s1 s2 ck stuck (a + b) x = stpn N kd s1 s2 ck stuck b (stpn N kd s1 s2 ck stuck a x)
  | 0, b, x => by rw [Nat.zero_add]; rfl
  | a + 1, b, x => by
    rw [Nat.add_right_comm]
    show stpn N kd s1 s2 ck stuck (a + b) _ = _
    rw [stpn_add a b]; rfl
theorem stpn_succ (n : Nat) (x : SX) : stpn N kd s1 s2 ck stuck (n + 1) x = stp1 N kd s1 s2 ck stuck (stpn N kd s1 s2 ck stuck n x) := by
  rw [stpn_add n 1]; rfl
theorem ev_store {v : Nat → Nat} {g a : Nat} {Q : Int32 → Int32 → Prop} (hN : N ≤ 10) (hg : g < N) (hs : stb (kd g) = true) (ha : a ≤ 2) (h : Q (sI (sO N kd (upN v g a))) (sI (sU N kd (upN v g a)))) : wp_X7_store (sI (sO N kd v)) (sI (sU N kd v)) (nI g) (nI a) Q := by
  have hg10 : g < 10 := by omega
  have cO1 : a = 1 → sI (sO N kd v) ||| sI (fun i => i == g) = sI (sO N kd (upN v g a)) := by
    intro e
    rw [sI_or]
    apply sI_cong
    intro i _
    unfold sO
    by_cases ei : i = g
    · subst ei; simp [upN_s, hg, hs, e]
    · simp [upN_n ei, ei]
  have cO2 : a ≠ 1 → sI (sO N kd v) &&& (sI (fun i => i == g) ^^^ (-1)) = sI (sO N kd (upN v g a)) := by
    intro e
    rw [sI_dif]
    apply sI_cong
    intro i _
    unfold sO
    by_cases ei : i = g
    · subst ei; simp [upN_s, e]
    · simp [upN_n ei, ei]
  have cU1 : a = 2 → sI (sU N kd v) ||| sI (fun i => i == g) = sI (sU N kd (upN v g a)) := by
    intro e
    rw [sI_or]
    apply sI_cong
    intro i _
    unfold sU
    by_cases ei : i = g
    · subst ei; simp [upN_s, hg, hs, e]
    · simp [upN_n ei, ei]
  have cU2 : a ≠ 2 → sI (sU N kd v) &&& (sI (fun i => i == g) ^^^ (-1)) = sI (sU N kd (upN v g a)) := by
    intro e
    rw [sI_dif]
    apply sI_cong
    intro i _
    unfold sU
    by_cases ei : i = g
    · subst ei; simp [upN_s, e]
    · simp [upN_n ei, ei]
  unfold wp_X7_store wp_X7_store_b29
  rcases (show a = 0 ∨ a = 1 ∨ a = 2 by omega) with e | e | e
  · refine bn_f (by rw [e]; decide) (ev_bit hg10 (bn_f (by rw [e]; decide) (ev_bit hg10 (all_e ?_))))
    rw [cO2 (by omega), cU2 (by omega)]; exact h
  · refine bn_t (by rw [e]; decide) (ev_bit hg10 (bn_f (by rw [e]; decide) (ev_bit hg10 (all_e ?_))))
    rw [cO1 e, cU2 (by omega)]; exact h
  · refine bn_f (by rw [e]; decide) (ev_bit hg10 (bn_t (by rw [e]; decide) (ev_bit hg10 (all_e ?_))))
    rw [cO2 (by omega), cU1 e]; exact h
theorem vOU {w : Nat → Nat} {j : Nat} (hj : j < N) (hw : w j ≤ 2) : (if vU N w j then 2 else if vO N w j then 1 else 0) = w j := by
  unfold vU vO
  simp only [hj, decide_true, Bool.true_and, beq_iff_eq]
  split
  · omega
  · split <;> omega
/-- which registers tick -/
def tiF (N : Nat) (kd ck : Nat → Nat) (c : Nat) : Nat → Bool := fun i => decide (i < N) && (kd i == 5 && (ck i == 0 || c % 2 == 1))
def tkp (kd s1 ck w v : Nat → Nat) (c g : Nat) : Nat → Nat := fun i => if i < g then tk kd s1 ck w v c i else v i
theorem tick_loop (hO : POK N kd s1 s2 ck) (hf : ∀ g, g < N → firsts g = fI kd s1 g) {w v : Nat → Nat} (hw : ∀ i, w i ≤ 2) {c : Nat} {reg slow cnt : Int32} {Q : Int32 → Int32 → Int32 → Prop} (hq : Q (cnt + 1) (sI (sO N kd (tk kd s1 ck w v c))) (sI (sU N kd (tk kd s1 ck w v c)))) :
    ∀ (d g : Nat), g + d = N → wp_X1_tick_h43 (sI (vO N w)) (sI (vU N w)) firsts (nI N) reg slow Q (d + 1) (sI (tiF N kd ck c)) (nI g) cnt (sI (sO N kd (tkp kd s1 ck w v c g))) (sI (sU N kd (tkp kd s1 ck w v c g))) := by
  have hN := hO.1
  intro d
  induction d with
  | zero =>
    intro g hgd
    show wp_X1_tick_b43 _ _ _ _ _ _ _ _ _ _ _ _ _
    unfold wp_X1_tick_b43
    refine pk_le N g (fun _ => all_e ?_) (fun h => absurd h (by omega))
    have e1 : sI (sO N kd (tkp kd s1 ck w v c g)) = sI (sO N kd (tk kd s1 ck w v c)) := by
      apply sI_cong; intro i _; unfold sO tkp
      by_cases hi : i < N
      · rw [if_pos (by omega)]
      · simp [hi]
    have e2 : sI (sU N kd (tkp kd s1 ck w v c g)) = sI (sU N kd (tk kd s1 ck w v c)) := by
      apply sI_cong; intro i _; unfold sU tkp
      by_cases hi : i < N
      · rw [if_pos (by omega)]
      · simp [hi]
    rw [e1, e2]; exact hq
  | succ d ih =>
    intro g hgd
    show wp_X1_tick_b43 _ _ _ _ _ _ _ (wp_X1_tick_h43 (sI (vO N w)) (sI (vU N w)) firsts (nI N) reg slow Q (d + 1)) _ _ _ _ _
    unfold wp_X1_tick_b43 wp_X1_tick_b86
    have hg : g < N := by omega
    have hg10 : g < 10 := by omega
    have next : ∀ v1, v1 = nI g + 1 → wp_X1_tick_h43 (sI (vO N w)) (sI (vU N w)) firsts (nI N) reg slow Q (d + 1) (sI (tiF N kd ck c)) v1 cnt (sI (sO N kd (tkp kd s1 ck w v c (g + 1)))) (sI (sU N kd (tkp kd s1 ck w v c (g + 1)))) := by
      intro v1 hv1
      rw [hv1, nI_1]
      exact ih (g + 1) (by omega)
    refine pk_le N g (fun h => absurd h (by omega)) (fun _ => ev_bit hg10 ?_)
    by_cases ht : tiF N kd ck c g = true
    · refine br_f (by rw [sI_andb hg10]; simp [ht]) (ev_firstOf hg10 ?_)
      have h5 : kd g = 5 ∧ (ck g = 0 ∨ c % 2 = 1) := by
        unfold tiF at ht
        simpa [hg] using ht
      have hs1 := (hO.2 g hg).2.1 (by omega)
      rw [hf g hg, fI, if_neg (by omega)]
      refine ev_valueIn (by omega) ?_
      rw [vOU hs1 (hw _)]
      refine ev_store hN hg (by rw [h5.1]; rfl) (hw _) ?_
      have e : upN (tkp kd s1 ck w v c g) g (w (s1 g)) = tkp kd s1 ck w v c (g + 1) := by
        funext i
        unfold upN tkp
        by_cases e : i = g
        · rw [if_pos e, if_pos (by omega), e]
          unfold tk
          rw [if_pos h5]
        · rw [if_neg e]
          by_cases h : i < g
          · rw [if_pos h, if_pos (by omega)]
          · rw [if_neg h, if_neg (by omega)]
      rw [e]; exact next
    · have ht' : tiF N kd ck c g = false := by simpa using ht
      refine br_t (by rw [sI_andb hg10]; exact ht') ?_
      have e : tkp kd s1 ck w v c g = tkp kd s1 ck w v c (g + 1) := by
        funext i
        unfold tkp
        by_cases e : i = g
        · rw [if_neg (by omega), if_pos (by omega), e]
          unfold tk
          rw [if_neg]
          intro h
          apply ht
          unfold tiF
          simpa [hg] using h
        · by_cases h : i < g
          · rw [if_pos h, if_pos (by omega)]
          · rw [if_neg h, if_neg (by omega)]
      rw [e]; exact next
theorem and1 (c : Nat) (hc : c < 2 ^ 31) : nI c &&& 1 = nI (c % 2) := by rw [pk_andN (by omega) 1 (by decide)]
theorem ev_tick (hO : POK N kd s1 s2 ck) (hf : ∀ g, g < N → firsts g = fI kd s1 g) {w v : Nat → Nat} (hw : ∀ i, w i ≤ 2) {c : Nat} (hc : c + 1 < 2 ^ 31) {Q : Int32 → Int32 → Int32 → Prop} (h : Q (nI (c + 1)) (sI (sO N kd (tk kd s1 ck w v c))) (sI (sU N kd (tk kd s1 ck w v c)))) :
    wp_X1_tick (sI (vO N w)) (sI (vU N w)) firsts (nI N) (sI (reF N kd)) (sI (slF N kd ck)) (nI c) (sI (sO N kd v)) (sI (sU N kd v)) Q := by
  have hN := hO.1
  unfold wp_X1_tick wp_X1_tick_b15 wp_X1_tick_b38
  have fin : ∃ n, wp_X1_tick_h43 (sI (vO N w)) (sI (vU N w)) firsts (nI N) (sI (reF N kd)) (sI (slF N kd ck)) Q n (sI (tiF N kd ck c)) (0 : Int32) (nI c) (sI (sO N kd v)) (sI (sU N kd v)) := by
    refine ⟨N + 1, ?_⟩
    have := tick_loop hO hf hw (c := c) (v := v) (cnt := nI c) (reg := sI (reF N kd)) (slow := sI (slF N kd ck)) (Q := Q) (by rw [nI_1]; exact h) N 0 (by omega)
    have e : tkp kd s1 ck w v c 0 = v := by funext i; unfold tkp; rw [if_neg (by omega)]
    rw [e] at this
    exact this
  rw [and1 c (by omega)]
  by_cases hodd : c % 2 = 1
  · refine bn_t (by rw [hodd]; rfl) (br_f (by decide) ?_)
    have e : sI (reF N kd) = sI (tiF N kd ck c) := by
      apply sI_cong; intro i _; unfold reF tiF; simp [hodd]
    rw [e] at fin ⊢
    exact fin
  · have h0 : c % 2 = 0 := by omega
    refine bn_f (by rw [h0]; decide) (br_t rfl ?_)
    have e : sI (reF N kd) &&& (sI (slF N kd ck) ^^^ (-1)) = sI (tiF N kd ck c) := by
      rw [sI_dif]
      apply sI_cong; intro i _; unfold reF slF tiF
      by_cases hi : i < N
      · by_cases h5 : kd i = 5
        · have := (hO.2 i hi).2.2.2 h5
          rcases (show ck i = 0 ∨ ck i = 1 by omega) with e | e <;> simp [hi, h5, h0, e]
        · have h5' : (kd i == 5) = false := by simpa using h5
          simp [h5']
      · simp [hi]
    rw [e]
    exact fin
/-- n steps of the class on a state -/
theorem steps_loop (hO : POK N kd s1 s2 ck) (hA : PA N kd s1 s2 kinds firsts seconds sets) {n : Nat} (hn : n < 2 ^ 31) {Q : Int32 → Int32 → Int32 → Int32 → Int32 → Int32 → Prop} :
    ∀ (d t : Nat) (x : SX) (lo lk lu : Int32), t + d = n → (∀ i, x.1 i ≤ 2) → x.2 + d < 2 ^ 31 → (∀ a b e, Q a b e (nI (stpn N kd s1 s2 ck none d x).2) (sI (sO N kd (stpn N kd s1 s2 ck none d x).1)) (sI (sU N kd (stpn N kd s1 s2 ck none d x).1))) →
      wp_X9_makeSteps_h2 firsts (nI N) (sI (inF N kd)) kinds (sI (reF N kd)) seconds (sI (slF N kd ck)) sets (nI n) Q (d + 1) (nI t) lo lk lu (nI x.2) (sI (sO N kd x.1)) (sI (sU N kd x.1)) := by
  intro d
  induction d with
  | zero =>
    intro t x lo lk lu htd hv hc hq
    show wp_X9_makeSteps_b2 _ _ _ _ _ _ _ _ _ _ _ _ _ _ _ _ _ _
    unfold wp_X9_makeSteps_b2
    exact pk_le n t (fun _ => hq _ _ _) (fun h => absurd h (by omega))
  | succ d ih =>
    intro t x lo lk lu htd hv hc hq
    show wp_X9_makeSteps_b2 _ _ _ _ _ _ _ _ _ _ (wp_X9_makeSteps_h2 firsts (nI N) (sI (inF N kd)) kinds (sI (reF N kd)) seconds (sI (slF N kd ck)) sets (nI n) Q (d + 1)) _ _ _ _ _ _ _
    unfold wp_X9_makeSteps_b2
    refine pk_le n t (fun h => absurd h (by omega)) (fun _ => ?_)
    refine ev_compute (stuck := none) hO hA hv (by intro g h; cases h) (fun z => ?_)
    refine ev_tick hO (fun g hg => (hA g hg).2.1) (lv_le hv) (by omega) (fun v10 h10 => ?_)
    rw [h10, nI_1]
    exact ih (t + 1) (stp1 N kd s1 s2 ck none x) _ _ _ (by omega) (stp1_le hv) (by show x.2 + 1 + d < _; omega) hq
theorem ev_makeSteps (hO : POK N kd s1 s2 ck) (hA : PA N kd s1 s2 kinds firsts seconds sets) {n : Nat} {x : SX} (hv : ∀ i, x.1 i ≤ 2) (hc : x.2 + n < 2 ^ 31) {lo lk lu : Int32} {Q : Int32 → Int32 → Int32 → Int32 → Int32 → Int32 → Prop} (h : ∀ a b e, Q a b e (nI (stpn N kd s1 s2 ck none n x).2) (sI (sO N kd (stpn N kd s1 s2 ck none n x).1)) (sI (sU N kd (stpn N kd s1 s2 ck none n x).1))) :
    wp_X9_makeSteps lo lk lu firsts (nI N) (sI (inF N kd)) kinds (sI (reF N kd)) seconds (sI (slF N kd ck)) sets (nI x.2) (sI (sO N kd x.1)) (sI (sU N kd x.1)) (nI n) Q :=
  ⟨n + 1, steps_loop hO hA (by omega) n 0 x lo lk lu (by omega) hv hc h⟩
theorem ev_valueNow (hO : POK N kd s1 s2 ck) (hA : PA N kd s1 s2 kinds firsts seconds sets) {v : Nat → Nat} (hv : ∀ i, v i ≤ 2) {g : Nat} (hg : g < N) {lo lk lu : Int32} {Q : Int32 → Int32 → Int32 → Int32 → Prop} (h : ∀ a b e, Q (nI (lv_ N kd s1 s2 v none g)) a b e) :
    wp_X9_valueNow lo lk lu firsts (nI N) (sI (inF N kd)) kinds (sI (reF N kd)) seconds sets (sI (sO N kd v)) (sI (sU N kd v)) (nI g) Q := by
  unfold wp_X9_valueNow
  refine ev_compute (stuck := none) hO hA hv (by intro g h; cases h) (fun z => ?_)
  refine ev_valueIn (by have := hO.1; omega) ?_
  rw [vOU hg (lv_le hv g)]
  exact h _ _ _
end
