/-! ===== reading a board ===== -/
theorem rd_case {text : Nat → Int32} {T i L H : Nat} (hi : i ≤ T) (hH : H < 2 ^ 20) : (∃ j, i < T ∧ L ≤ j ∧ j ≤ H ∧ text i - 48 = nI j) ∨ (i = T ∨ (i < T ∧ ¬ ((L : Int) ≤ (text i - 48).toInt ∧ (text i - 48).toInt ≤ H))) := by
  by_cases h : i < T
  · rcases rg_ix (text i - 48) L H (by omega) with ⟨j, h1, h2, h3⟩ | h3
    · exact Or.inl ⟨j, h, h1, h2, h3⟩
    · exact Or.inr (Or.inr ⟨h, h3⟩)
  · exact Or.inr (Or.inl (by omega))
theorem ax {α : Type} {x y : α} {P : α → Prop} (e : x = y) (h : P y) : ∀ v, v = x → P v := fun _ hv => by rw [hv, e]; exact h
/-! the reference's figures -/
theorem fig_ok {text : Nat → Int32} {T i L H j : Nat} (hT : T ≤ 90) (hi : i < T) (h1 : L ≤ j) (h2 : j ≤ H) (hH : H < 2 ^ 20) (hj : text i - 48 = nI j) {Q : Int32 → Int32 → Prop} (hQ : Q (nI j) (nI (i + 1))) : wp_X10_figure (nI i) text (nI T) (nI L) (nI H) Q := by
  unfold wp_X10_figure wp_X10_figure_b28
  rw [nI_clamp (by omega), hj]
  refine pk_le T i (fun h => absurd h (by omega)) (fun _ => ⟨vp_in_nI (by omega) (by omega), ?_⟩)
  refine ev_in_t (L := L) (H := H) h1 h2 (by omega) (bn_f (by decide) (all_e ?_)) (by rw [Int32.toInt_toInt64, nI_toInt (by omega)]) (by rw [Int32.toInt_toInt64, nI_toInt (by omega)])
  rw [nI_1]; exact hQ
theorem fig_no {text : Nat → Int32} {T i L H : Nat} (hT : T ≤ 90) (hH : H < 2 ^ 20) (hL : L < 2 ^ 20) (h : i = T ∨ (i < T ∧ ¬ ((L : Int) ≤ (text i - 48).toInt ∧ (text i - 48).toInt ≤ H))) {Q : Int32 → Int32 → Prop} (hQ : Q (-9) (nI i)) : wp_X10_figure (nI i) text (nI T) (nI L) (nI H) Q := by
  unfold wp_X10_figure wp_X10_figure_b28
  have eL : ((nI L).toInt64).toInt = (L : Int) := by rw [Int32.toInt_toInt64, nI_toInt (by omega)]
  have eH : ((nI H).toInt64).toInt = (H : Int) := by rw [Int32.toInt_toInt64, nI_toInt (by omega)]
  rcases h with h | ⟨h, ho⟩
  · refine pk_le T i (fun _ => ?_) (fun h => absurd h (by omega))
    refine ev_in_f (L := L) (H := H) ?_ (bn_t rfl hQ) eL eH
    have : (-9 : Int32).toInt = -9 := by decide
    omega
  · rw [nI_clamp (by omega)]
    refine pk_le T i (fun h => absurd h (by omega)) (fun _ => ⟨vp_in_nI (by omega) (by omega), ?_⟩)
    exact ev_in_f (L := L) (H := H) ho (bn_t rfl hQ) eL eH
/-! the class's letters -/
def rgL (pl : Nat) : Nat := if pl = 1 ∨ pl = 2 then 1 else 0
def rgH (C pl : Nat) : Nat := if pl = 1 then 4 else if pl = 2 then 9 else if pl = 4 then C - 1 else if pl = 7 then 1 else 9
def dpl (pl : Nat) : Prop := pl = 1 ∨ pl = 2 ∨ pl = 4 ∨ pl = 5 ∨ pl = 6 ∨ pl = 7
theorem fits_t {pl C j : Nat} (hp : dpl pl) (hC : 1 ≤ C ∧ C ≤ 4) {ga a : Int32} (h1 : rgL pl ≤ j) (h2 : j ≤ rgH C pl) (hj : a - 48 = nI j) {Q : Int32 → Prop} (hQ : Q 1) : wp_X3_fits (nI pl) (nI C) ga a Q := by
  unfold wp_X3_fits wp_X3_fits_b82 wp_X3_fits_b129 wp_X3_fits_b160 wp_X3_fits_b144
  refine ax hj ?_
  rcases hp with rfl | rfl | rfl | rfl | rfl | rfl
  · exact br_f (by decide) (br_t rfl (in_lg (L := 1) (H := 4) h1 h2 (by omega) hQ))
  · exact br_f (by decide) (br_f (by decide) (br_t rfl (ev_isPins_t ⟨h1, h2⟩ ⟨Or.inr rfl, hQ⟩)))
  · have h2 : j ≤ C - 1 := h2
    exact br_f (by decide) (br_f (by decide) (br_f (by decide) (br_f (by decide) (br_t rfl (in_lh (by omega) (by omega) hQ)))))
  · exact br_f (by decide) (br_f (by decide) (br_f (by decide) (br_f (by decide) (br_f (by decide) (br_t rfl (in_lg (L := 0) (H := 9) h1 h2 (by omega) hQ))))))
  · exact br_f (by decide) (br_f (by decide) (br_f (by decide) (br_f (by decide) (br_f (by decide) (br_f (by decide) (br_t rfl (in_lg (L := 0) (H := 9) h1 h2 (by omega) hQ)))))))
  · exact br_f (by decide) (br_f (by decide) (br_f (by decide) (br_f (by decide) (br_f (by decide) (br_f (by decide) (br_f (by decide) (br_t rfl (in_lg (L := 0) (H := 1) h1 h2 (by omega) hQ))))))))
theorem fits_f {pl C : Nat} (hp : dpl pl) (hC : 1 ≤ C ∧ C ≤ 4) {ga a : Int32} (ho : ¬ ((rgL pl : Int) ≤ (a - 48).toInt ∧ (a - 48).toInt ≤ rgH C pl)) {Q : Int32 → Prop} (hQ : Q 0) : wp_X3_fits (nI pl) (nI C) ga a Q := by
  unfold wp_X3_fits wp_X3_fits_b82 wp_X3_fits_b129 wp_X3_fits_b160 wp_X3_fits_b144
  refine all_e ?_
  rcases hp with rfl | rfl | rfl | rfl | rfl | rfl
  · exact br_f (by decide) (br_t rfl (out_lg (L := 1) (H := 4) (by omega) (by omega) ho hQ))
  · exact br_f (by decide) (br_f (by decide) (br_t rfl (ev_isPins_f ho ⟨Or.inl rfl, hQ⟩)))
  · have ho : ¬ (((0 : Nat) : Int) ≤ (a - 48).toInt ∧ (a - 48).toInt ≤ ((C - 1 : Nat) : Int)) := ho
    exact br_f (by decide) (br_f (by decide) (br_f (by decide) (br_f (by decide) (br_t rfl (out_lh (N := C) (by omega) (by omega) hQ)))))
  · exact br_f (by decide) (br_f (by decide) (br_f (by decide) (br_f (by decide) (br_f (by decide) (br_t rfl (out_lg (L := 0) (H := 9) (by omega) (by omega) ho hQ))))))
  · exact br_f (by decide) (br_f (by decide) (br_f (by decide) (br_f (by decide) (br_f (by decide) (br_f (by decide) (br_t rfl (out_lg (L := 0) (H := 9) (by omega) (by omega) ho hQ)))))))
  · exact br_f (by decide) (br_f (by decide) (br_f (by decide) (br_f (by decide) (br_f (by decide) (br_f (by decide) (br_f (by decide) (br_t rfl (out_lg (L := 0) (H := 1) (by omega) (by omega) ho hQ))))))))
section
variable {T : Nat} {letters text : Nat → Int32} {Q : Int32 → Int32 → Int32 → Int32 → (Nat → Int32) → Int32 → Int32 → (Nat → Int32) → Int32 → Int32 → (Nat → Int32) → Int32 → (Nat → Int32) → Int32 → (Nat → Int32) → Prop} {gs : Int32} {C : Nat} {clo fi ki se ss : Nat → Int32} {fpi fpl ga inp re sl ch : Int32}
theorem cl_no (hT : T ≤ 90) (hl : ∀ j, j < T → letters j = text j) {pl : Nat} (hp : dpl pl) (hC : 1 ≤ C ∧ C ≤ 4) {n i : Nat} (h : i = T ∨ (i < T ∧ ¬ ((rgL pl : Int) ≤ (text i - 48).toInt ∧ (text i - 48).toInt ≤ rgH C pl))) (hQ : Q (nI i) gs (nI pl) (nI C) clo fpi fpl fi ga inp ki re se sl ss) : wp_X3_read_h17 (nI T) letters Q (n + 1) (nI i) gs (nI pl) (nI C) clo fpi fpl fi ga inp ki re se sl ss := by
  show wp_X3_read_b17 _ _ _ _ _ _ _ _ _ _ _ _ _ _ _ _ _ _ _
  unfold wp_X3_read_b17 wp_X3_read_b81 wp_X8_letterAt
  rcases h with rfl | ⟨h, ho⟩
  · refine pk_le i i (fun _ => bn_f ?_ hQ) (fun h => absurd h (by omega))
    rcases hp with rfl | rfl | rfl | rfl | rfl | rfl <;> decide
  · refine pk_le T i (fun h => absurd h (by omega)) (fun _ => ev_cell (by omega) (by omega) ?_)
    rw [hl i h]
    exact fits_f hp hC ho (bn_t rfl hQ)
theorem cl_ok (hT : T ≤ 90) (hl : ∀ j, j < T → letters j = text j) {pl : Nat} (hp : dpl pl) (hC : 1 ≤ C ∧ C ≤ 4) {n i j : Nat} (hi : i < T) (h1 : rgL pl ≤ j) (h2 : j ≤ rgH C pl) (hj : text i - 48 = nI j)
    (hQ : wp_X3_take gs (nI pl) (nI C) clo fpi fpl fi ga inp ki re se sl ss (text i) (fun y8 y9 y10 y11 y12 y13 y14 y15 y16 y17 y18 y19 y20 y21 => wp_X3_read_h17 (nI T) letters Q n (nI (i + 1)) y8 y9 y10 y11 y12 y13 y14 y15 y16 y17 y18 y19 y20 y21)) : wp_X3_read_h17 (nI T) letters Q (n + 1) (nI i) gs (nI pl) (nI C) clo fpi fpl fi ga inp ki re se sl ss := by
  show wp_X3_read_b17 _ _ _ (wp_X3_read_h17 (nI T) letters Q n) _ _ _ _ _ _ _ _ _ _ _ _ _ _ _
  unfold wp_X3_read_b17 wp_X8_letterAt
  refine pk_le T i (fun h => absurd h (by omega)) (fun _ => ev_cell (by omega) (by omega) ?_)
  rw [hl i hi]
  refine fits_t hp hC h1 h2 hj (bn_f (by decide) ?_)
  have e : ∀ (P : Int32 → Prop), (∀ v22, v22 = nI i + 1 → P v22) = P (nI (i + 1)) := by
    intro P
    rw [← nI_1]
    exact propext ⟨fun h => h _ rfl, fun h v hv => hv ▸ h⟩
  simp only [e]
  exact hQ
end
/-- one more gate -/
theorem kind_case (a : Int32) : (∃ k : Nat, k ≤ 5 ∧ (∀ Q : Int32 → Prop, Q (nI k) → wp_X3_kindOfLetter a Q) ∧ (∀ Q : Int32 → Prop, Q (nI k) → wp_X10_kindOf a Q)) ∨ ((∀ Q : Int32 → Prop, Q (-9) → wp_X3_kindOfLetter a Q) ∧ (∀ Q : Int32 → Prop, Q (-9) → wp_X10_kindOf a Q)) := by
  unfold wp_X3_kindOfLetter wp_X10_kindOf
  by_cases h1 : a = 97
  · exact Or.inl ⟨2, by omega, fun Q q => br_t h1 q, fun Q q => br_t h1 q⟩
  by_cases h2 : a = 105
  · exact Or.inl ⟨0, by omega, fun Q q => br_f h1 (br_t h2 q), fun Q q => br_f h1 (br_t h2 q)⟩
  by_cases h3 : a = 110
  · exact Or.inl ⟨1, by omega, fun Q q => br_f h1 (br_f h2 (br_t h3 q)), fun Q q => br_f h1 (br_f h2 (br_t h3 q))⟩
  by_cases h4 : a = 111
  · exact Or.inl ⟨3, by omega, fun Q q => br_f h1 (br_f h2 (br_f h3 (br_t h4 q))), fun Q q => br_f h1 (br_f h2 (br_f h3 (br_t h4 q)))⟩
  by_cases h5 : a = 114
  · exact Or.inl ⟨5, by omega, fun Q q => br_f h1 (br_f h2 (br_f h3 (br_f h4 (br_t h5 q)))), fun Q q => br_f h1 (br_f h2 (br_f h3 (br_f h4 (br_t h5 q))))⟩
  by_cases h6 : a = 120
  · exact Or.inl ⟨4, by omega, fun Q q => br_f h1 (br_f h2 (br_f h3 (br_f h4 (br_f h5 (br_t h6 q))))), fun Q q => br_f h1 (br_f h2 (br_f h3 (br_f h4 (br_f h5 (br_t h6 q)))))⟩
  exact Or.inr ⟨fun Q q => br_f h1 (br_f h2 (br_f h3 (br_f h4 (br_f h5 (br_f h6 q))))), fun Q q => br_f h1 (br_f h2 (br_f h3 (br_f h4 (br_f h5 (br_f h6 q)))))⟩
