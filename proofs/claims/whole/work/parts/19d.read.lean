/-! ===== the class's letters, one by one ===== -/
def inU (k G : Nat) (x : Int32) (j : Nat) : Int32 := if k = j then x ||| sI (fun i => i == G) else x
section
variable {T : Nat} {letters text : Nat → Int32} {Q : Int32 → Int32 → Int32 → Int32 → (Nat → Int32) → Int32 → Int32 → (Nat → Int32) → Int32 → Int32 → (Nat → Int32) → Int32 → (Nat → Int32) → Int32 → (Nat → Int32) → Prop} {gs : Int32} {C G : Nat} {clo fi ki se ss : Nat → Int32} {fpi fpl inp re sl : Int32} {l : Nat → Nat}
theorem fuel_s {T i : Nat} (h : i < T) : T - i + 1 = (T - (i + 1) + 1) + 1 := by omega
theorem cg_no (hT : T ≤ 90) (hl : ∀ j, j < T → letters j = text j) {ga : Int32} {i n : Nat} (hi : i < T) (h : (∀ Q : Int32 → Prop, Q (-9) → wp_X3_kindOfLetter (text i) Q) ∨ (∃ k : Nat, k ≤ 5 ∧ ∀ Q : Int32 → Prop, Q (nI k) → wp_X3_kindOfLetter (text i) Q) ∧ ga = 10) (hQ : Q (nI i) gs 3 (nI C) clo fpi fpl fi ga inp ki re se sl ss) : wp_X3_read_h17 (nI T) letters Q (n + 1) (nI i) gs 3 (nI C) clo fpi fpl fi ga inp ki re se sl ss := by
  show wp_X3_read_b17 _ _ _ _ _ _ _ _ _ _ _ _ _ _ _ _ _ _ _
  unfold wp_X3_read_b17 wp_X8_letterAt wp_X3_fits wp_X3_fits_b111
  refine pk_le T i (fun h => absurd h (by omega)) (fun _ => ev_cell (by omega) (by omega) (all_e ?_))
  rw [hl i hi]
  refine br_f (by decide) (br_f (by decide) (br_f (by decide) (br_t rfl ?_)))
  rcases h with h | ⟨⟨k, hk, h⟩, rfl⟩
  · exact h _ (br_t rfl (bn_t rfl hQ))
  · exact h _ (br_f (nI_ne9 (by omega)) (br_t (by decide) (bn_t rfl hQ)))
theorem cg_ok (hT : T ≤ 90) (hl : ∀ j, j < T → letters j = text j) {i n k : Nat} (hi : i < T) (hk : k ≤ 5) (hG : G < 10) (h : ∀ Q : Int32 → Prop, Q (nI k) → wp_X3_kindOfLetter (text i) Q) (hQ : wp_X3_read_h17 (nI T) letters Q n (nI (i + 1)) gs (nI 4) (nI C) (upd clo G (-9)) fpi fpl (upd fi G (-9)) (nI (G + 1)) (inU k G inp 0) (upd ki G (nI k)) (inU k G re 5) (upd se G (-9)) sl (upd ss G 0)) : wp_X3_read_h17 (nI T) letters Q (n + 1) (nI i) gs 3 (nI C) clo fpi fpl fi (nI G) inp ki re se sl ss := by
  show wp_X3_read_b17 _ _ _ (wp_X3_read_h17 (nI T) letters Q n) _ _ _ _ _ _ _ _ _ _ _ _ _ _ _
  unfold wp_X3_read_b17 wp_X8_letterAt wp_X3_fits wp_X3_fits_b111
  refine pk_le T i (fun h => absurd h (by omega)) (fun _ => ev_cell (by omega) (by omega) (all_e ?_))
  rw [hl i hi]
  refine br_f (by decide) (br_f (by decide) (br_f (by decide) (br_t rfl (h _ (br_f (nI_ne9 (by omega)) (pk_le 10 G (fun h => absurd h (by omega)) (fun _ => bn_f (by decide) ?_)))))))
  unfold wp_X3_take
  refine all_e (br_f (by decide) (br_f (by decide) (br_f (by decide) (br_t rfl (h _ ?_)))))
  unfold wp_X2_addGate wp_X2_addGate_b93 wp_X2_addGate_b114
  refine pk_lt G 10 (fun _ => ?_) (fun h => absurd h (by omega))
  refine ev_setCell (by omega) (by omega) (ev_setCell (by omega) (by omega) (ev_setCell (by omega) (by omega) (ev_setCell (by omega) (by omega) (ev_setCell (by omega) (by omega) ?_))))
  rw [nI_1, nI_1]
  unfold inU at hQ
  by_cases h0 : k = 0
  · rw [if_pos h0, if_neg (show ¬ k = 5 by omega)] at hQ
    subst h0
    exact bn_t rfl (ev_bit hG (all_e (bn_f (by decide) (all_e (all_e hQ)))))
  · rw [if_neg h0] at hQ
    refine bn_f (by rw [← nI_0, nI_eq (by omega) (by omega)]; exact h0) ?_
    by_cases h5 : k = 5
    · rw [if_pos h5] at hQ
      subst h5
      exact bn_t rfl (ev_bit hG (all_e (all_e (all_e hQ))))
    · rw [if_neg h5] at hQ
      exact bn_f (by rw [show (5 : Int32) = nI 5 from rfl, nI_eq (by omega) (by omega)]; exact h5) (all_e (all_e hQ))
theorem cc_ok (hT : T ≤ 90) (hl : ∀ j, j < T → letters j = text j) (hC : 1 ≤ C ∧ C ≤ 4) {i n c k : Nat} (hi : i < T) (hc : c < C) (hj : text i - 48 = nI c) (hG : G < 10) (hll : ∀ i, l i < 4) (hk : ki G = nI k) (hk5 : k ≤ 5) (hQ : wp_X3_read_h17 (nI T) letters Q n (nI (i + 1)) gs (if k = 0 then 3 else nI 5) (nI C) clo fpi (pI (upN l G c)) fi (nI (G + 1)) inp ki re se sl ss) : wp_X3_read_h17 (nI T) letters Q (n + 1) (nI i) gs (nI 4) (nI C) clo fpi (pI l) fi (nI (G + 1)) inp ki re se sl ss := by
  refine cl_ok hT hl (Or.inr (Or.inr (Or.inl rfl))) hC hi (Nat.zero_le c) (show c ≤ C - 1 by omega) hj ?_
  unfold wp_X3_take wp_X2_placeLast wp_X2_lastKind wp_X3_take_b120
  refine ax hj (br_f (by decide) (br_f (by decide) (br_f (by decide) (br_f (by decide) (br_t rfl ?_)))))
  rw [show nI (G + 1) - 1 = nI G from pk_sub (a := G + 1) (b := 1) (by omega)]
  refine ev_placed hll hG (by omega) (ev_kindOf hG ?_)
  rw [hk]
  by_cases h0 : k = 0
  · rw [if_pos h0] at hQ
    exact bn_t (by rw [h0]; rfl) hQ
  · rw [if_neg h0] at hQ
    exact bn_f (by rw [← nI_0, nI_eq (by omega) (by omega)]; exact h0) hQ
def gsU (gs : Int32) (a : Nat) : Int32 := if gs < nI a then nI a else gs
theorem cf_ok (hT : T ≤ 90) (hl : ∀ j, j < T → letters j = text j) (hC : 1 ≤ C ∧ C ≤ 4) {i n a k : Nat} (hi : i < T) (ha : a ≤ 9) (hj : text i - 48 = nI a) (hG : G < 10) (hk : ki G = nI k) (hk5 : 1 ≤ k ∧ k ≤ 5) (hQ : wp_X3_read_h17 (nI T) letters Q n (nI (i + 1)) (gsU gs a) (if k = 1 then 3 else if k = 5 then nI 7 else nI 6) (nI C) clo fpi fpl (upd fi G (nI a)) (nI (G + 1)) inp ki re se sl (upd ss G (sI (fun i => i == a)))) : wp_X3_read_h17 (nI T) letters Q (n + 1) (nI i) gs (nI 5) (nI C) clo fpi fpl fi (nI (G + 1)) inp ki re se sl ss := by
  refine cl_ok hT hl (Or.inr (Or.inr (Or.inr (Or.inl rfl)))) hC hi (Nat.zero_le a) (show a ≤ 9 by omega) hj ?_
  unfold wp_X3_take wp_X2_setFirst wp_X2_lastKind wp_X3_behindFirst
  refine ax hj (br_f (by decide) (br_f (by decide) (br_f (by decide) (br_f (by decide) (br_f (by decide) (br_t rfl ?_))))))
  rw [show nI (G + 1) - 1 = nI G from pk_sub (a := G + 1) (b := 1) (by omega)]
  refine ev_setCell hG (by omega) (ev_bit (by omega) (ev_setCell hG (by omega) (all_e (ev_kindOf hG ?_))))
  rw [hk]
  by_cases h1 : k = 1
  · rw [if_pos h1] at hQ
    exact bn_t (by rw [h1]; rfl) hQ
  · rw [if_neg h1] at hQ
    refine bn_f (by rw [show (1 : Int32) = nI 1 from rfl, nI_eq (by omega) (by omega)]; exact h1) ?_
    by_cases h5 : k = 5
    · rw [if_pos h5] at hQ
      exact bn_t (by rw [h5]; rfl) hQ
    · rw [if_neg h5] at hQ
      exact bn_f (by rw [show (5 : Int32) = nI 5 from rfl, nI_eq (by omega) (by omega)]; exact h5) hQ
theorem cs_ok (hT : T ≤ 90) (hl : ∀ j, j < T → letters j = text j) (hC : 1 ≤ C ∧ C ≤ 4) {i n b : Nat} (hi : i < T) (hb : b ≤ 9) (hj : text i - 48 = nI b) (hG : G < 10) {f : Nat → Bool} (hss : ss G = sI f) (hQ : wp_X3_read_h17 (nI T) letters Q n (nI (i + 1)) (gsU gs b) 3 (nI C) clo fpi fpl fi (nI (G + 1)) inp ki re (upd se G (nI b)) sl (upd ss G (sI (fun i => f i || i == b)))) : wp_X3_read_h17 (nI T) letters Q (n + 1) (nI i) gs (nI 6) (nI C) clo fpi fpl fi (nI (G + 1)) inp ki re se sl ss := by
  refine cl_ok hT hl (Or.inr (Or.inr (Or.inr (Or.inr (Or.inl rfl))))) hC hi (Nat.zero_le b) (show b ≤ 9 by omega) hj ?_
  unfold wp_X3_take wp_X2_setSecond
  refine ax hj (br_f (by decide) (br_f (by decide) (br_f (by decide) (br_f (by decide) (br_f (by decide) (br_f (by decide) (br_t rfl ?_)))))))
  rw [show nI (G + 1) - 1 = nI G from pk_sub (a := G + 1) (b := 1) (by omega)]
  refine ev_setCell hG (by omega) (ev_sourcesOf hG (ev_bit (by omega) ?_))
  rw [hss, sI_or]
  exact ev_setCell hG (by omega) (all_e hQ)
theorem ck_ok (hT : T ≤ 90) (hl : ∀ j, j < T → letters j = text j) (hC : 1 ≤ C ∧ C ≤ 4) {i n e : Nat} (hi : i < T) (he : e ≤ 1) (hj : text i - 48 = nI e) (hG : G < 10) (hQ : wp_X3_read_h17 (nI T) letters Q n (nI (i + 1)) gs 3 (nI C) (upd clo G (nI e)) fpi fpl fi (nI (G + 1)) inp ki re se (inU e G sl 1) ss) : wp_X3_read_h17 (nI T) letters Q (n + 1) (nI i) gs (nI 7) (nI C) clo fpi fpl fi (nI (G + 1)) inp ki re se sl ss := by
  refine cl_ok hT hl (Or.inr (Or.inr (Or.inr (Or.inr (Or.inr rfl))))) hC hi (Nat.zero_le e) (show e ≤ 1 by omega) hj ?_
  unfold wp_X3_take wp_X2_setClock
  refine ax hj (br_f (by decide) (br_f (by decide) (br_f (by decide) (br_f (by decide) (br_f (by decide) (br_f (by decide) (br_f (by decide) ?_)))))))
  rw [show nI (G + 1) - 1 = nI G from pk_sub (a := G + 1) (b := 1) (by omega)]
  refine ev_setCell hG (by omega) ?_
  unfold inU at hQ
  by_cases h1 : e = 1
  · rw [if_pos h1] at hQ
    exact bn_t (by rw [h1]; rfl) (ev_bit hG (all_e hQ))
  · rw [if_neg h1] at hQ
    exact bn_f (by rw [show (1 : Int32) = nI 1 from rfl, nI_eq (by omega) (by omega)]; exact h1) hQ
end
