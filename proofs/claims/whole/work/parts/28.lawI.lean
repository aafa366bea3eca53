/-! what is available after k slots that do not fail -/
section
variable {N C : Nat} {kd s1 s2 ck l : Nat → Nat} {kinds firsts seconds sets kind source second r : Nat → Int32} {p : Nat}
theorem r1_av {t t' g : Nat} {x y : HX} (h : x.1 = y.1) : (r1 kd s1 s2 l t g x).1 = (r1 kd s1 s2 l t' g y).1 := by
  unfold r1
  rw [h]
  split
  · rfl
  · exact h
theorem rsf_av {t t' : Nat} : ∀ (d g : Nat) {x y : HX}, x.1 = y.1 → (rsf kd s1 s2 l t g d x).1 = (rsf kd s1 s2 l t' g d y).1
  | 0, _, _, _, h => h
  | d + 1, g, _, _, h => rsf_av d (g + 1) (r1_av h)
theorem rit_av {t t' : Nat} : ∀ (n : Nat) {x y : HX}, x.1 = y.1 → (rit kd s1 s2 l N t n x).1 = (rit kd s1 s2 l N t' n y).1
  | 0, _, _, h => h
  | n + 1, _, _, h => rit_av n (rsf_av N 0 h)
theorem stl_av {t t' : Nat} {x y : HX} (h : x.1 = y.1) : (stl kd s1 s2 l N t x).1 = (stl kd s1 s2 l N t' y).1 := rit_av N h
/-- settling again changes nothing -/
def wt_ (N : Nat) (kd l : Nat → Nat) (x : HX) : Nat := cN (fun i => !stb (kd i) && !x.1 (l i) i) N
theorem rsf_wt {t : Nat} {x : HX} : rsf kd s1 s2 l t 0 N x = x ∨ wt_ N kd l (rsf kd s1 s2 l t 0 N x) < wt_ N kd l x := by
  by_cases h : ∀ i, 0 ≤ i → i < 0 + N → stb (kd i) = false → (rsf kd s1 s2 l t 0 N x).1 (l i) i = x.1 (l i) i
  · exact Or.inl (rsf_id N 0 h)
  · right
    have hex : ∃ i, i < N ∧ stb (kd i) = false ∧ x.1 (l i) i = false ∧ (rsf kd s1 s2 l t 0 N x).1 (l i) i = true := by
      apply Classical.byContradiction
      intro hno
      apply h
      intro i _ hi hs
      cases hx : x.1 (l i) i with
      | true => exact rsf_mono N 0 hx
      | false =>
        cases hy : (rsf kd s1 s2 l t 0 N x).1 (l i) i with
        | false => rfl
        | true => exact absurd ⟨i, by omega, hs, hx, hy⟩ hno
    obtain ⟨i, hi, hs, hx, hy⟩ := hex
    refine cN_lt (fun j _ hj => ?_) i hi ?_ ?_
    · show (!stb (kd j) && !x.1 (l j) j) = true
      have hj : (!stb (kd j) && !(rsf kd s1 s2 l t 0 N x).1 (l j) j) = true := hj
      simp only [Bool.and_eq_true, Bool.not_eq_true'] at hj ⊢
      refine ⟨hj.1, ?_⟩
      cases hx : x.1 (l j) j with
      | false => rfl
      | true => rw [rsf_mono N 0 hx] at hj; exact absurd hj.2 (by decide)
    · show (!stb (kd i) && !(rsf kd s1 s2 l t 0 N x).1 (l i) i) = false
      rw [hy]; simp
    · show (!stb (kd i) && !x.1 (l i) i) = true
      rw [hs, hx]; rfl
theorem rit_fix {t : Nat} : ∀ (n : Nat) {x : HX}, wt_ N kd l x ≤ n → rsf kd s1 s2 l t 0 N (rit kd s1 s2 l N t n x) = rit kd s1 s2 l N t n x
  | 0, x, h => by
    rcases rsf_wt (N := N) (kd := kd) (s1 := s1) (s2 := s2) (l := l) (t := t) (x := x) with e | e
    · exact e
    · exact absurd h (by omega)
  | n + 1, x, h => by
    rcases rsf_wt (N := N) (kd := kd) (s1 := s1) (s2 := s2) (l := l) (t := t) (x := x) with e | e
    · rw [rit_id (n + 1) e]; exact e
    · exact rit_fix n (x := rsf kd s1 s2 l t 0 N x) (by omega)
theorem stl_idem {t t' : Nat} {x : HX} : (stl kd s1 s2 l N t' (stl kd s1 s2 l N t x)).1 = (stl kd s1 s2 l N t x).1 := by
  rw [stl_av (t' := t) (y := stl kd s1 s2 l N t x) rfl]
  show (rit kd s1 s2 l N t N (rit kd s1 s2 l N t N x)).1 = _
  rw [rit_id N (rit_fix N (cN_le _ N))]
  rfl
def trk (N C : Nat) (kd s1 s2 l : Nat → Nat) (p : Nat) : Nat → Nat → Nat → Bool
  | 0 => (hx0 kd l).1
  | k + 1 => fun c g => (stl kd s1 s2 l N 0 (trk N C kd s1 s2 l p k, fun _ _ => 0)).1 c g || (snds N C kd s1 s2 l p (stl kd s1 s2 l N 0 (trk N C kd s1 s2 l p k, fun _ _ => 0)).1).1 c g
def Tk (N C : Nat) (kd s1 s2 l : Nat → Nat) (p k : Nat) : Nat → Nat → Bool := (stl kd s1 s2 l N 0 (trk N C kd s1 s2 l p k, fun _ _ => 0)).1
theorem Tk_of {t k : Nat} {x : HX} (h : x.1 = trk N C kd s1 s2 l p k) : (stl kd s1 s2 l N t x).1 = Tk N C kd s1 s2 l p k := stl_av (y := (trk N C kd s1 s2 l p k, fun _ _ => 0)) h
theorem trk_s (k : Nat) : trk N C kd s1 s2 l p (k + 1) = fun c g => Tk N C kd s1 s2 l p k c g || (snds N C kd s1 s2 l p (Tk N C kd s1 s2 l p k)).1 c g := rfl
theorem Tk_mono {k c g : Nat} (h : Tk N C kd s1 s2 l p k c g = true) : Tk N C kd s1 s2 l p (k + 1) c g = true := by
  refine rit_mono N ?_
  show trk N C kd s1 s2 l p (k + 1) c g = true
  rw [trk_s]
  show (_ || _) = true
  rw [h]; rfl
theorem Tk_le {k c g : Nat} (h : Tk N C kd s1 s2 l p k c g = true) : ∀ d, Tk N C kd s1 s2 l p (k + d) c g = true
  | 0 => h
  | d + 1 => Tk_mono (Tk_le h d)
theorem Tk_stop (hN : N ≤ 10) (hC : 1 ≤ C) {k : Nat} (h : (snds N C kd s1 s2 l p (Tk N C kd s1 s2 l p k)).2.1 = 0) : ∀ d, Tk N C kd s1 s2 l p (k + d) = Tk N C kd s1 s2 l p k
  | 0 => rfl
  | d + 1 => by
    have ih := Tk_stop hN hC h d
    have hco := (snds_CP (N := N) (C := C) (kd := kd) (s1 := s1) (s2 := s2) (l := l) (p := p) (av := Tk N C kd s1 s2 l p k) hN hC).2.1.mp h
    have e : trk N C kd s1 s2 l p (k + d + 1) = Tk N C kd s1 s2 l p k := by
      rw [trk_s, ih]
      funext c g
      rw [hco c g, Bool.or_false]
    show (stl kd s1 s2 l N 0 (trk N C kd s1 s2 l p (k + d + 1), fun _ _ => 0)).1 = _
    rw [e]
    exact (stl_av (t := 0) (t' := 0) (x := (Tk N C kd s1 s2 l p k, fun _ _ => 0)) (y := stl kd s1 s2 l N 0 (trk N C kd s1 s2 l p k, fun _ _ => 0)) rfl).trans (stl_idem (t := 0) (t' := 0))
theorem fst_Tk (hN : N ≤ 10) (hC : 1 ≤ C ∧ C ≤ 4) {c g : Nat} : ∀ (n t : Nat) (x : HX), x.1 = trk N C kd s1 s2 l p t → pot l x.1 < n → (∀ k, k < t → Tk N C kd s1 s2 l p k c g = false) → ∀ k, Tk N C kd s1 s2 l p k c g = true ↔ ∃ m, fst_ N C kd s1 s2 l p c g n t x = some m ∧ m ≤ k
  | 0, _, _, _, h, _ => absurd h (Nat.not_lt_zero _)
  | n + 1, t, x, hx, hp, hb => by
    intro k
    rw [fst_]
    have e := Tk_of (t := t) hx
    by_cases h1 : (stl kd s1 s2 l N t x).1 c g = true
    · rw [if_pos h1]
      rw [e] at h1
      constructor
      · intro h
        refine ⟨t, rfl, ?_⟩
        apply Classical.byContradiction
        intro hlt
        rw [hb k (by omega)] at h; cases h
      · rintro ⟨m, hm, hmk⟩
        cases hm
        have := Tk_le h1 (k - t)
        rw [show t + (k - t) = k by omega] at this
        exact this
    · rw [if_neg h1]
      have h1' : Tk N C kd s1 s2 l p t c g = false := by rw [← e]; simpa using h1
      by_cases h0 : (snds N C kd s1 s2 l p (stl kd s1 s2 l N t x).1).2.1 = 0
      · rw [if_pos h0]
        rw [e] at h0
        constructor
        · intro h
          by_cases hk : k < t
          · rw [hb k hk] at h; cases h
          · have := Tk_stop hN hC.1 h0 (k - t)
            rw [show t + (k - t) = k by omega] at this
            rw [this, h1'] at h; cases h
        · rintro ⟨m, hm, _⟩; cases hm
      · rw [if_neg h0]
        have hpt := pot_take (l := l) (N := N) (C := C) (kd := kd) (s1 := s1) (s2 := s2) (p := p) hN hC (t := t) h0
        rw [pot_stl] at hpt
        refine fst_Tk hN hC n (t + 1) _ ?_ (Nat.lt_of_lt_of_le hpt (by omega)) (fun k hk => ?_) k
        · show (fun c g => (stl kd s1 s2 l N t x).1 c g || (snds N C kd s1 s2 l p (stl kd s1 s2 l N t x).1).1 c g) = _
          rw [e, trk_s]
        · by_cases ek : k = t
          · rw [ek]; exact h1'
          · exact hb k (by omega)
theorem fsl_Tk (hN : N ≤ 10) (hl : ∀ i, l i < 4) (hC : 1 ≤ C ∧ C ≤ 4) {c g k : Nat} : Tk N C kd s1 s2 l p k c g = true ↔ ∃ m, fsl N C kd s1 s2 l p c g = some m ∧ m ≤ k :=
  fst_Tk hN hC 31 0 (hx0 kd l) rfl (by have := pot_le (l := l) (av := (hx0 kd l).1) hl; omega) (fun k hk => absurd hk (by omega)) k
theorem fst_le {c g m : Nat} : ∀ (n t : Nat) {x : HX}, fst_ N C kd s1 s2 l p c g n t x = some m → m < t + n
  | 0, _, _, h => by cases h
  | n + 1, t, x, h => by
    rw [fst_] at h
    split at h
    · cases h; omega
    · split at h
      · cases h
      · have := fst_le n (t + 1) h; omega
/-! slots that fail -/
def gd (F : Nat) (fl : Nat → Bool) (t : Nat) : Nat := cN (fun i => !(decide (i < F) && fl i)) t
theorem rfx_Tk {F : Nat} {fl : Nat → Bool} : ∀ t, (stl kd s1 s2 l N t (rfx N C kd s1 s2 l p F fl t)).1 = Tk N C kd s1 s2 l p (gd F fl t)
  | 0 => Tk_of rfl
  | t + 1 => by
    have ih := rfx_Tk (F := F) (fl := fl) t
    rw [rfx]
    cases hb : (decide (t < F) && fl t) with
    | true =>
      rw [if_pos rfl, show cx0.1 = fun _ _ => false from rfl, take_none, stl_idem, ih]
      show _ = Tk N C kd s1 s2 l p (cN _ (t + 1))
      rw [cN]
      show _ = Tk N C kd s1 s2 l p (cN _ t + (if (!(decide (t < F) && fl t)) = true then 1 else 0))
      rw [hb]; rfl
    | false =>
      rw [if_neg (by decide)]
      have e : gd F fl (t + 1) = gd F fl t + 1 := by
        show cN _ (t + 1) = _
        rw [cN]
        show cN _ t + (if (!(decide (t < F) && fl t)) = true then 1 else 0) = _
        rw [hb]; rfl
      rw [e]
      apply Tk_of
      show (fun c g => (stl kd s1 s2 l N t (rfx N C kd s1 s2 l p F fl t)).1 c g || (snds N C kd s1 s2 l p (stl kd s1 s2 l N t (rfx N C kd s1 s2 l p F fl t)).1).1 c g) = _
      rw [ih, trk_s]
/-- the slots' numbers -/
theorem co_f (hN : N ≤ 10) (hC : 1 ≤ C) {x : HX} {bad : Bool} {c g : Nat} (h : x.1 c g = true) : (if bad = true then cx0 else snds N C kd s1 s2 l p x.1).1 c g = false := by
  cases bad with
  | true => rfl
  | false =>
    show (snds N C kd s1 s2 l p x.1).1 c g = false
    have hP := snds_CP (N := N) (C := C) (kd := kd) (s1 := s1) (s2 := s2) (l := l) (p := p) (av := x.1) hN hC
    cases hh : (snds N C kd s1 s2 l p x.1).1 c g with
    | false => rfl
    | true => have := (hP.1 c g hh).2.2.1; rw [h] at this; cases this
theorem rfx_le (hN : N ≤ 10) (hC : 1 ≤ C) {F : Nat} {fl : Nat → Bool} {c g : Nat} : ∀ t, (rfx N C kd s1 s2 l p F fl t).1 c g = true → (rfx N C kd s1 s2 l p F fl t).2 c g ≤ t
  | 0, _ => Nat.le_refl 0
  | t + 1, h => by
    have ih := rfx_le hN hC (F := F) (fl := fl) (c := c) (g := g) t
    rw [rfx] at h ⊢
    generalize hy : (if (decide (t < F) && fl t) = true then cx0 else snds N C kd s1 s2 l p (stl kd s1 s2 l N t (rfx N C kd s1 s2 l p F fl t)).1) = y at h ⊢
    show (if y.1 c g = true then t + 1 else (stl kd s1 s2 l N t (rfx N C kd s1 s2 l p F fl t)).2 c g) ≤ t + 1
    have h : ((stl kd s1 s2 l N t (rfx N C kd s1 s2 l p F fl t)).1 c g || y.1 c g) = true := h
    split
    · exact Nat.le_refl _
    · rename_i hc
      have hc : y.1 c g = false := by simpa using hc
      rw [hc, Bool.or_false] at h
      cases hx : (rfx N C kd s1 s2 l p F fl t).1 c g with
      | true =>
        have := rit_keep (N := N) (kd := kd) (s1 := s1) (s2 := s2) (l := l) (t := t) N hx
        have this : (stl kd s1 s2 l N t (rfx N C kd s1 s2 l p F fl t)).2 c g = _ := this
        rw [this]; have := ih hx; omega
      | false =>
        have := rit_new (N := N) (kd := kd) (s1 := s1) (s2 := s2) (l := l) (t := t) N (fun z => by rw [hx] at z; cases z) h
        have this : (stl kd s1 s2 l N t (rfx N C kd s1 s2 l p F fl t)).2 c g = t := this
        omega
theorem stl_le (hN : N ≤ 10) (hC : 1 ≤ C) {F : Nat} {fl : Nat → Bool} {c g t : Nat} (h : (stl kd s1 s2 l N t (rfx N C kd s1 s2 l p F fl t)).1 c g = true) : (stl kd s1 s2 l N t (rfx N C kd s1 s2 l p F fl t)).2 c g ≤ t := by
  cases hx : (rfx N C kd s1 s2 l p F fl t).1 c g with
  | true =>
    have := rit_keep (N := N) (kd := kd) (s1 := s1) (s2 := s2) (l := l) (t := t) N hx
    have this : (stl kd s1 s2 l N t (rfx N C kd s1 s2 l p F fl t)).2 c g = _ := this
    rw [this]; exact rfx_le hN hC t hx
  | false =>
    have := rit_new (N := N) (kd := kd) (s1 := s1) (s2 := s2) (l := l) (t := t) N (fun z => by rw [hx] at z; cases z) h
    have this : (stl kd s1 s2 l N t (rfx N C kd s1 s2 l p F fl t)).2 c g = t := this
    omega
theorem rfx_yes (hN : N ≤ 10) (hC : 1 ≤ C) {F : Nat} {fl : Nat → Bool} {c g : Nat} (h : (stl kd s1 s2 l N F (rfx N C kd s1 s2 l p F fl F)).1 c g = true) : ∀ d, (rfx N C kd s1 s2 l p F fl (F + 1 + d)).1 c g = true ∧ (rfx N C kd s1 s2 l p F fl (F + 1 + d)).2 c g ≤ F
  | 0 => by
    show (rfx N C kd s1 s2 l p F fl (F + 1)).1 c g = true ∧ (rfx N C kd s1 s2 l p F fl (F + 1)).2 c g ≤ F
    rw [rfx]
    have hc := co_f (N := N) (C := C) (kd := kd) (s1 := s1) (s2 := s2) (l := l) (p := p) hN hC (bad := decide (F < F) && fl F) h
    refine ⟨?_, ?_⟩
    · show (_ || _) = true
      rw [h]; rfl
    · show (if _ then _ else _) ≤ F
      rw [hc, if_neg (by decide)]
      exact stl_le hN hC h
  | d + 1 => by
    obtain ⟨i1, i2⟩ := rfx_yes hN hC h d
    show (rfx N C kd s1 s2 l p F fl (F + 1 + d + 1)).1 c g = true ∧ (rfx N C kd s1 s2 l p F fl (F + 1 + d + 1)).2 c g ≤ F
    rw [rfx]
    have hs : (stl kd s1 s2 l N (F + 1 + d) (rfx N C kd s1 s2 l p F fl (F + 1 + d))).1 c g = true := rit_mono N i1
    have hk : (stl kd s1 s2 l N (F + 1 + d) (rfx N C kd s1 s2 l p F fl (F + 1 + d))).2 c g = _ := rit_keep N i1
    have hc := co_f (N := N) (C := C) (kd := kd) (s1 := s1) (s2 := s2) (l := l) (p := p) hN hC (bad := decide (F + 1 + d < F) && fl (F + 1 + d)) hs
    refine ⟨?_, ?_⟩
    · show (_ || _) = true
      rw [hs]; rfl
    · show (if _ then _ else _) ≤ F
      rw [hc, if_neg (by decide), hk]; exact i2
theorem rfx_no {F : Nat} {fl : Nat → Bool} {c g : Nat} (h : (stl kd s1 s2 l N F (rfx N C kd s1 s2 l p F fl F)).1 c g = false) : ∀ d, (rfx N C kd s1 s2 l p F fl (F + 1 + d)).1 c g = true → F < (rfx N C kd s1 s2 l p F fl (F + 1 + d)).2 c g
  | 0, hh => by
    have hh : (rfx N C kd s1 s2 l p F fl (F + 1)).1 c g = true := hh
    show F < (rfx N C kd s1 s2 l p F fl (F + 1)).2 c g
    rw [rfx] at hh ⊢
    generalize (if (decide (F < F) && fl F) = true then cx0 else snds N C kd s1 s2 l p (stl kd s1 s2 l N F (rfx N C kd s1 s2 l p F fl F)).1) = y at hh ⊢
    have hh : ((stl kd s1 s2 l N F (rfx N C kd s1 s2 l p F fl F)).1 c g || y.1 c g) = true := hh
    rw [h, Bool.false_or] at hh
    show F < if y.1 c g = true then F + 1 else _
    rw [if_pos hh]; omega
  | d + 1, hh => by
    have ih := rfx_no h d
    have hh : (rfx N C kd s1 s2 l p F fl (F + 1 + d + 1)).1 c g = true := hh
    show F < (rfx N C kd s1 s2 l p F fl (F + 1 + d + 1)).2 c g
    rw [rfx] at hh ⊢
    generalize (if (decide (F + 1 + d < F) && fl (F + 1 + d)) = true then cx0 else snds N C kd s1 s2 l p (stl kd s1 s2 l N (F + 1 + d) (rfx N C kd s1 s2 l p F fl (F + 1 + d))).1) = y at hh ⊢
    have hh : ((stl kd s1 s2 l N (F + 1 + d) (rfx N C kd s1 s2 l p F fl (F + 1 + d))).1 c g || y.1 c g) = true := hh
    show F < if y.1 c g = true then F + 1 + d + 1 else _
    split
    · omega
    · rename_i hc
      have hc : y.1 c g = false := by simpa using hc
      rw [hc, Bool.or_false] at hh
      cases hx : (rfx N C kd s1 s2 l p F fl (F + 1 + d)).1 c g with
      | true =>
        have this : (stl kd s1 s2 l N (F + 1 + d) (rfx N C kd s1 s2 l p F fl (F + 1 + d))).2 c g = _ := rit_keep N hx
        rw [this]; exact ih hx
      | false =>
        have this : (stl kd s1 s2 l N (F + 1 + d) (rfx N C kd s1 s2 l p F fl (F + 1 + d))).2 c g = F + 1 + d := rit_new N (fun z => by rw [hx] at z; cases z) hh
        rw [this]; omega
end
/-! weights -/
def chp (n j : Nat) : Nat → Nat
  | 0 => 1
  | i + 1 => chp n j i * (n - j + (i + 1)) / (i + 1)
def gcn (n s : Nat) : Nat := n - cN s.testBit 10
theorem chp_all : ∀ n, n < 9 → ∀ j, j < n + 1 → cntS (gcn n) j (2 ^ n) = chp n j j ∧ ∀ i, i < j + 1 → chp n j i < 1000 := by decide +kernel
theorem gcn_gd : ∀ n, n < 9 → ∀ s, s < 2 ^ n → gd n s.testBit n = gcn n s ∧ cN s.testBit 10 ≤ n := by decide +kernel
theorem choices_loop {n j : Nat} (hn : n < 9) (hj : j ≤ n) {Q : Int64 → Prop} (hQ : Q (lN (chp n j j))) : ∀ (d i : Nat), i + d = j → wp_X9_choices_h5 (nI n) (nI j) Q (d + 1) (lN (chp n j i)) (nI (i + 1)) := by
  intro d
  induction d with
  | zero =>
    intro i hid
    show wp_X9_choices_b5 _ _ _ _ _ _
    unfold wp_X9_choices_b5
    have e : i = j := by omega
    subst e
    exact pk_lt i (i + 1) (fun _ => hQ) (fun h => absurd h (by omega))
  | succ d ih =>
    intro i hid
    show wp_X9_choices_b5 _ _ _ (wp_X9_choices_h5 (nI n) (nI j) Q (d + 1)) _ _
    unfold wp_X9_choices_b5
    have hb := (chp_all n hn j (by omega)).2 i (by omega)
    have hm : chp n j i * (n - j + (i + 1)) < 2 ^ 60 := Nat.lt_of_le_of_lt (Nat.mul_le_mul (Nat.le_of_lt hb) (show n - j + (i + 1) ≤ 20 by omega)) (by decide)
    refine pk_lt j (i + 1) (fun h => absurd h (by omega)) (fun _ => ?_)
    rw [pk_sub hj, nI_add, nI_l (by omega), nI_l (by omega), lN_mul, lN_div (by omega) (by omega) (by omega)]
    refine ⟨?_, all_e (all_e ?_)⟩
    · intro h
      have := congrArg Int64.toInt h
      rw [pk_lT (by omega)] at this
      have z0 : (0 : Int64).toInt = 0 := rfl
      omega
    · rw [nI_1]
      exact ih (i + 1) (by omega)
theorem ev_choices {n j : Nat} (hn : n < 9) (hj : j ≤ n) {Q : Int64 → Prop} (hQ : Q (lN (chp n j j))) : wp_X9_choices (nI n) (nI j) Q := ⟨j + 1, choices_loop hn hj hQ j 0 (by omega)⟩
def wj (n x j : Nat) : Nat := chp n j j * (10 - x) ^ j * x ^ (n - j)
def sumF (G : Nat → Nat) (m : Nat) : Nat → Nat
  | 0 => 0
  | d + 1 => sumF G m d + G (m + d)
theorem weight_loop {m n x : Nat} (hn : n < 9) (hx : x ≤ 10) {Q : Int64 → Prop} (hQ : Q (lN (sumF (wj n x) m (n + 1 - m)))) : ∀ (d e : Nat), m + e + d = n + 1 → wp_X9_weightOfGoodSlots_h5 (nI m) (nI n) (nI x) Q (d + 1) (lN (sumF (wj n x) m e)) (nI (m + e)) := by
  intro d
  induction d with
  | zero =>
    intro e hed
    show wp_X9_weightOfGoodSlots_b5 (nI m) (nI n) (nI x) Q _ _ _
    unfold wp_X9_weightOfGoodSlots_b5
    have ee : n + 1 - m = e := by omega
    rw [ee] at hQ
    exact pk_lt n (m + e) (fun _ => hQ) (fun h => absurd h (by omega))
  | succ d ih =>
    intro e hed
    show wp_X9_weightOfGoodSlots_b5 (nI m) (nI n) (nI x) Q (wp_X9_weightOfGoodSlots_h5 (nI m) (nI n) (nI x) Q (d + 1)) _ _
    unfold wp_X9_weightOfGoodSlots_b5
    rw [show (10 : Int32) - nI x = nI (10 - x) from pk_sub (a := 10) hx, pk_sub (show m + e ≤ n by omega)]
    refine pk_lt n (m + e) (fun h => absurd h (by omega)) (fun _ => ev_choices hn (by omega) (ev_cpower (by omega) (by omega) (ev_cpower (by omega) (by omega) (all_e (all_e ?_)))))
    rw [nI_1, lN_mul, lN_mul, lN_add]
    exact ih (e + 1) (by omega)
theorem ev_weight {m n x : Nat} (hm : m < 100) (hn : n < 9) (hx : x ≤ 10) {Q : Int64 → Prop} (hQ : Q (lN (sumF (wj n x) m (n + 1 - m)))) : wp_X9_weightOfGoodSlots (nI m) (nI n) (nI x) Q := by
  by_cases h : m ≤ n + 1
  · exact ⟨n + 1 - m + 1, weight_loop hn hx hQ (n + 1 - m) 0 (by omega)⟩
  · refine ⟨1, ?_⟩
    show wp_X9_weightOfGoodSlots_b5 (nI m) (nI n) (nI x) Q _ _ _
    unfold wp_X9_weightOfGoodSlots_b5
    rw [show n + 1 - m = 0 by omega] at hQ
    exact pk_lt n m (fun _ => hQ) (fun h => absurd h (by omega))
theorem sumF_sumN (G : Nat → Nat) (m : Nat) : ∀ n, sumN (fun j => if m ≤ j then G j else 0) n = sumF G m (n - m)
  | 0 => by rw [Nat.zero_sub]; rfl
  | n + 1 => by
    rw [sumN, sumF_sumN G m n]
    by_cases h : m ≤ n
    · rw [if_pos h, show n + 1 - m = (n - m) + 1 by omega, sumF, show m + (n - m) = n by omega]
    · rw [if_neg h, show n + 1 - m = 0 by omega, show n - m = 0 by omega]; rfl
/-- the reference's terms -/
def tmS (n x : Nat) (m : Option Nat) (s : Nat) : Nat := match m with
  | none => 0
  | some m => if m ≤ gcn n s then x ^ cN s.testBit 10 * (10 - x) ^ (n - cN s.testBit 10) else 0
theorem tm_sum {n x m : Nat} (hn : n < 9) : sumN (tmS n x (some m)) (2 ^ n) = sumF (wj n x) m (n + 1 - m) := by
  rw [← sumF_sumN]
  have e1 : sumN (tmS n x (some m)) (2 ^ n) = sumN (fun s => (fun j => if m ≤ j then x ^ (n - j) * (10 - x) ^ j else 0) (gcn n s)) (2 ^ n) := by
    apply sumN_cong
    intro s hs
    have h := (gcn_gd n hn s hs).2
    show (if m ≤ gcn n s then _ else 0) = if m ≤ gcn n s then _ else 0
    rw [show n - gcn n s = cN s.testBit 10 by unfold gcn; omega]
    rfl
  rw [e1, sum_cls (h := gcn n) (J := n + 1) (fun j => if m ≤ j then x ^ (n - j) * (10 - x) ^ j else 0) (fun s _ => by unfold gcn; omega)]
  apply sumN_cong
  intro j hj
  rw [(chp_all n hn j hj).1]
  by_cases h : m ≤ j
  · rw [if_pos h, if_pos h]; unfold wj; rw [Nat.mul_assoc, Nat.mul_comm (x ^ (n - j))]
  · rw [if_neg h, if_neg h, Nat.mul_zero]
theorem tm_none {n x M : Nat} : sumN (tmS n x none) M = 0 := sumN_zero (fun _ _ => rfl)
theorem tm_le {n x : Nat} (hn : n < 9) (hx : x ≤ 10) (m : Option Nat) : sumN (tmS n x m) (2 ^ n) < 2 ^ 31 := by
  have h1 : sumN (tmS n x m) (2 ^ n) ≤ sumN (fun s => (fun j => x ^ (n - j) * (10 - x) ^ j) (gcn n s)) (2 ^ n) := by
    apply sumN_le
    intro s hs
    have h := (gcn_gd n hn s hs).2
    show tmS n x m s ≤ x ^ (n - gcn n s) * (10 - x) ^ (gcn n s)
    rw [show n - gcn n s = cN s.testBit 10 by unfold gcn; omega]
    cases m with
    | none => exact Nat.zero_le _
    | some m =>
      show (if m ≤ gcn n s then _ else 0) ≤ _
      split
      · exact Nat.le_refl _
      · exact Nat.zero_le _
  have h2 : ∀ n, n < 9 → ∀ x, x < 11 → sumN (fun j => chp n j j * (x ^ (n - j) * (10 - x) ^ j)) (n + 1) = 10 ^ n := by decide +kernel
  rw [sum_cls (h := gcn n) (J := n + 1) (fun j => x ^ (n - j) * (10 - x) ^ j) (fun s _ => by unfold gcn; omega)] at h1
  rw [sumN_cong (F := fun j => cntS (gcn n) j (2 ^ n) * (x ^ (n - j) * (10 - x) ^ j)) (G := fun j => chp n j j * (x ^ (n - j) * (10 - x) ^ j)) (fun j hj => by rw [(chp_all n hn j hj).1]), h2 n hn x (by omega)] at h1
  have h3 : 10 ^ n ≤ 10 ^ 8 := Nat.pow_le_pow_right (by omega) (by omega)
  have h4 : (10 : Nat) ^ 8 < 2 ^ 31 := by decide
  omega
section
variable {N C : Nat} {kd s1 s2 ck l : Nat → Nat} {kinds firsts seconds sets kind source second page : Nat → Int32} {p : Nat}
theorem ev_layFails_e {r : Nat → Int32} {p3 : Int32} {fl : Nat → Bool} (e3 : p3 = sI fl) (hO : POK N kd s1 s2 ck) (hB : PB N kd s1 s2 kind source second) (hl : ∀ i, l i < 4) (hR : RLy N l r) (hC : 1 ≤ C ∧ C ≤ 4) (hp : p < 100) {F : Nat} (hF : F ≤ 8) {cr last ln tk : Int32} {goes hand : Nat → Int32} {Q : Int32 → (Nat → Int32) → (Nat → Int32) → Int32 → Int32 → Int32 → Prop}
    (hQ : ∀ T, F < T → ∀ cr goes hand last ln tk, HR N (rfx N C kd s1 s2 l p F fl T) hand → Q cr goes hand last ln tk) :
    wp_X10_laySchedule (nI C) cr (nI N) goes hand kind last ln second source tk r (nI p) p3 (nI F) Q := by
  subst e3
  exact ev_layFails hO hB hl hR hC hp hF hQ
theorem fails_loop (hO : POK N kd s1 s2 ck) (hB : PB N kd s1 s2 kind source second) (hl : ∀ i, l i < 4) (hR : RLy N l page) (h20 : page 20 = nI p) (hC : 1 ≤ C ∧ C ≤ 4) (hp : p < 100) {g c n x : Nat} (hg : g < N) (hc : c < 4) (hn : n < 9) (hx : x ≤ 10) {u th : Int32} {Q : Int32 → Int32 → (Nat → Int32) → (Nat → Int32) → Int32 → Int32 → Int32 → Int32 → Prop} (hQ : ∀ cr go ha la ln ta, Q (frI (sumN (tmS n x (fsl N C kd s1 s2 l p c g)) (2 ^ n)) (10 ^ n) u) cr go ha la ln ta th) :
    ∀ (d s : Nat) (cr : Int32) (go ha : Nat → Int32) (la ln ta : Int32), s + d = 2 ^ n → wp_X10_fails_h57 (nI C) (nI N) kind page second source (nI g) (nI c) (nI n) (nI x) u Q (d + 1) (nI (sumN (tmS n x (fsl N C kd s1 s2 l p c g)) s)) (nI s) cr go ha la ln ta th := by
  have hN := hO.1
  have h256 : 2 ^ n ≤ 2 ^ 8 := Nat.pow_le_pow_right (by omega) (by omega)
  have h256' : (2 : Nat) ^ 8 = 256 := by decide
  have h10 : 10 ^ n ≤ 10 ^ 8 := Nat.pow_le_pow_right (by omega) (by omega)
  have h10' : (10 : Nat) ^ 8 < 2 ^ 30 := by decide
  intro d
  induction d with
  | zero =>
    intro s cr go ha la ln ta hsd
    show wp_X10_fails_b57 (nI C) (nI N) kind page second source (nI g) (nI c) (nI n) (nI x) u Q _ _ _ _ _ _ _ _ _ _
    unfold wp_X10_fails_b57
    rw [sh_pow n (by omega)]
    have e : s = 2 ^ n := by omega
    subst e
    refine pk_le (2 ^ n) (2 ^ n) (fun _ => ev_ipower (b := 10) (by omega) (ev_mfraction (tm_le hn hx _) (Nat.pow_pos (by omega)) (by omega) (hQ _ _ _ _ _ _))) (fun h => absurd h (by omega))
  | succ d ih =>
    intro s cr go ha la ln ta hsd
    show wp_X10_fails_b57 (nI C) (nI N) kind page second source (nI g) (nI c) (nI n) (nI x) u Q (wp_X10_fails_h57 (nI C) (nI N) kind page second source (nI g) (nI c) (nI n) (nI x) u Q (d + 1)) _ _ _ _ _ _ _ _ _
    unfold wp_X10_fails_b57
    rw [sh_pow n (by omega), show (20 : Int32).toNatClampNeg = 20 from by decide, h20, ix40, nI_clamp (by omega)]
    have hs : s < 2 ^ n := by omega
    have es : nI s = sI s.testBit := (sI_tb (by omega)).symm
    refine pk_le (2 ^ n) s (fun h => absurd h (by omega)) (fun _ => ⟨vp_in_nI (n := 20) (by omega) (by omega), ?_⟩)
    obtain ⟨hgd, hle⟩ := gcn_gd n hn s hs
    have next : ∀ w : Nat, w = tmS n x (fsl N C kd s1 s2 l p c g) s → ∀ (cr : Int32) (go ha : Nat → Int32) (la ln ta v1 : Int32), v1 = nI (sumN (tmS n x (fsl N C kd s1 s2 l p c g)) s) + nI w → ∀ v2, v2 = nI s + 1 → wp_X10_fails_h57 (nI C) (nI N) kind page second source (nI g) (nI c) (nI n) (nI x) u Q (d + 1) v1 v2 cr go ha la ln ta th := by
      intro w hw cr go ha la ln ta v1 h1 v2 h2
      rw [h1, h2, nI_1, nI_add, hw]
      exact ih (s + 1) cr go ha la ln ta (by omega)
    refine ev_layFails_e es hO hB hl hR hC hp (by omega) (fun T hT cr go ha la ln ta hH => ?_)
    refine ⟨vp_in_nI (by omega) (by omega), all_e ?_⟩
    rw [hH.1 g hg c hc]
    have hbd := hH.2 c g
    unfold wp_X10_fails_b139 wp_X10_fails_b140
    have hT2 : T = n + 1 + (T - n - 1) := by omega
    have eT := rfx_Tk (N := N) (C := C) (kd := kd) (s1 := s1) (s2 := s2) (l := l) (p := p) (F := n) (fl := s.testBit) n
    rw [hgd] at eT
    cases hS : (stl kd s1 s2 l N n (rfx N C kd s1 s2 l p n s.testBit n)).1 c g with
    | true =>
      have hy := rfx_yes hN hC.1 hS (T - n - 1)
      rw [← hT2] at hy
      rw [if_pos hy.1]
      rw [eT] at hS
      obtain ⟨m, hm, hmk⟩ := (fsl_Tk hN hl hC).mp hS
      refine br_f (nI_ne9 (by omega)) (br_f (by rw [nI_ltI (by omega) (by omega)]; omega) ?_)
      rw [es]
      refine ev_ones (ev_ipower (by omega) (ev_ones ?_))
      rw [show (10 : Int32) - nI x = nI (10 - x) from pk_sub (a := 10) hx, pk_sub hle]
      refine ev_ipower (by omega) ?_
      rw [pk_mul, ← es]
      intro v1 h1 v2 h2
      refine next _ ?_ cr go ha la ln ta v1 h1 v2 h2
      rw [hm]
      show _ = if m ≤ gcn n s then _ else 0
      rw [if_pos hmk]
    | false =>
      have hno := rfx_no hS (T - n - 1)
      rw [← hT2] at hno
      rw [eT] at hS
      have hw : 0 = tmS n x (fsl N C kd s1 s2 l p c g) s := by
        cases hm : fsl N C kd s1 s2 l p c g with
        | none => rfl
        | some m =>
          show 0 = if m ≤ gcn n s then _ else 0
          rw [if_neg]
          intro hmk
          have := (fsl_Tk (p := p) (N := N) (C := C) (kd := kd) (s1 := s1) (s2 := s2) (l := l) hN hl hC).mpr ⟨m, hm, hmk⟩
          rw [hS] at this; cases this
      have fin : ∀ v1, v1 = nI (sumN (tmS n x (fsl N C kd s1 s2 l p c g)) s) + 0 → ∀ v2, v2 = nI s + 1 → wp_X10_fails_h57 (nI C) (nI N) kind page second source (nI g) (nI c) (nI n) (nI x) u Q (d + 1) v1 v2 cr go ha la ln ta th := fun v1 h1 v2 h2 => next 0 hw cr go ha la ln ta v1 h1 v2 h2
      by_cases hav : (rfx N C kd s1 s2 l p n s.testBit T).1 c g = true
      · rw [if_pos hav]
        have := hno hav
        exact br_f (nI_ne9 (by omega)) (br_t (by rw [nI_ltI (by omega) (by omega)]; omega) fin)
      · rw [if_neg hav]
        exact br_t rfl fin
end
set_option maxRecDepth 20000 in
set_option maxHeartbeats 2000000 in
theorem law_fails {k : Nat} {f_keptSlots : Int32} {f_lastSeed : Int64} {f_text_letters : Nat → Int32} {f_text_length : Int32} {f_plan_chips : Int32} {f_plan_gates : Int32} {f_plan_inputs : Int32} {f_plan_registers : Int32} {f_plan_slowRegisters : Int32} {f_plan_kinds : Nat → Int32} {f_plan_firsts : Nat → Int32} {f_plan_seconds : Nat → Int32} {f_plan_clocks : Nat → Int32} {f_plan_sourceSets : Nat → Int32} {f_now_ones : Int32} {f_now_unknowns : Int32} {f_now_places : Int32} {f_now_pins : Int32} {f_now_count : Int32} {f_sched_available : Nat → Int32} {f_sched_wanted : Nat → Int32} {f_sched_coming : Nat → Int32} {f_sched_waiting : Int32} {f_sched_taken : Int32} {f_sched_sent : Int32} {f_sched_lastSent : Int32} {f_hist_next : Int32} {f_hist_held : Int32} {f_ring_cells : Nat → Int32} {f_kept_cells : Nat → Int32} {f_sight_steps : Nat → Int32} {f_sight_gates : Nat → Int32} {f_sight_values : Nat → Int32} {f_sight_truths : Nat → Int32} {f_sight_held : Int32} {m_thrown : Int32} {m_text : Nat → Int32} {m_textSize : Int32} {m_chips : Int32} {m_gates : Int32} {m_kind : Nat → Int32} {m_source : Nat → Int32} {m_second : Nat → Int32} {m_clock : Nat → Int32} {m_page : Nat → Int32} {m_book : Nat → Int32} {m_doings : Int32} {m_kept : Nat → Int32} {m_isKept : Nat → Int32} {m_seen : Int32} {m_seenBehind : Nat → Int32} {m_seenGate : Nat → Int32} {m_seenWorth : Nat → Int32} {m_seenWas : Nat → Int32} {m_seed : Int64} {m_hand : Nat → Int32} {m_goes : Nat → Int32} {m_takes : Int32} {m_crossed : Int32} {m_last : Int32} {m_lastNow : Int32} (hk : k < 512) (hI : Inv k f_keptSlots f_lastSeed f_text_letters f_text_length f_plan_chips f_plan_gates f_plan_inputs f_plan_registers f_plan_slowRegisters f_plan_kinds f_plan_firsts f_plan_seconds f_plan_clocks f_plan_sourceSets f_now_ones f_now_unknowns f_now_places f_now_pins f_now_count f_hist_next f_hist_held f_ring_cells f_kept_cells f_sight_steps f_sight_gates f_sight_values f_sight_truths f_sight_held m_text m_textSize m_chips m_gates m_kind m_source m_second m_clock m_page m_book m_doings m_kept m_isKept m_seen m_seenBehind m_seenGate m_seenWorth m_seenWas m_seed) (a1 : Int32) (a2 : Int32) (a3 : Int32) (a4 : Int32) (a5 : Int32) (hz5 : a5 = 0 ∨ a5 = 1) :
    wp_X9_fails f_now_pins f_now_places f_plan_chips f_plan_firsts f_plan_gates f_plan_inputs f_plan_registers f_plan_seconds f_plan_sourceSets f_sched_available f_sched_coming f_sched_lastSent f_sched_sent f_sched_taken f_sched_waiting f_sched_wanted a1 a2 a3 a4 a5 (fun r y_sched_available y_sched_coming y_sched_lastSent y_sched_sent y_sched_taken y_sched_waiting y_sched_wanted => wp_X10_fails m_chips m_crossed m_gates m_goes m_hand m_kind m_last m_lastNow m_page m_second m_source m_takes m_thrown a1 a2 a3 a4 a5 (fun r2 z_crossed z_goes z_hand z_last z_lastNow z_takes z_thrown => r = r2 ∧ Inv (k + 1) f_keptSlots f_lastSeed f_text_letters f_text_length f_plan_chips f_plan_gates f_plan_inputs f_plan_registers f_plan_slowRegisters f_plan_kinds f_plan_firsts f_plan_seconds f_plan_clocks f_plan_sourceSets f_now_ones f_now_unknowns f_now_places f_now_pins f_now_count f_hist_next f_hist_held f_ring_cells f_kept_cells f_sight_steps f_sight_gates f_sight_values f_sight_truths f_sight_held m_text m_textSize m_chips m_gates m_kind m_source m_second m_clock m_page m_book m_doings m_kept m_isKept m_seen m_seenBehind m_seenGate m_seenWorth m_seenWas m_seed)) := by
  have same := inv_mono hI
  obtain ⟨hT, ⟨N, C, kd, s1, s2, ck, hP, ⟨z, hz, hA, hB⟩, hH, hK⟩, hSe, hSd⟩ := hI
  obtain ⟨hO, hC, ⟨rfl, rfl, rfl, rfl, rfl⟩, hPA, hck, ⟨rfl, rfl⟩, hPB, hckM⟩ := hP
  have hN := hO.1
  obtain ⟨rfl, rfl, rfl, rfl, rfl⟩ := hA
  have hpn := hz.2.2.2.1
  unfold wp_X9_fails wp_X10_fails wp_X9_fails_b81
  rcases ge_ix (a := a1) (N := N) (by omega) with ⟨g, hg, rfl⟩ | hg
  · refine ev_isGate_t (by omega) hg (br_f (by decide) ?_)
    rcases ge_ix (a := a2) (N := C) (by omega) with ⟨c, hc, rfl⟩ | hc
    · refine ev_isChip_t (by omega) hc (bn_f (by decide) ?_)
      rcases rg_ix a3 0 8 (by omega) with ⟨n, hn1, hn, rfl⟩ | h3
      · refine in_lg (L := 0) (H := 8) hn1 hn (by omega) ?_
        rcases rg_ix a4 0 10 (by omega) with ⟨x, hx1, hx, rfl⟩ | h4
        · refine in_ll (L := 0) (H := 10) hx1 hx (by omega) (ev_firstSlot hO hPA hz.2.1 hC (by omega) (by omega) hg (fun A Co ls se ta wt W => ?_))
          have h10 : 10 ^ n ≤ 10 ^ 8 := Nat.pow_le_pow_right (by omega) (by omega)
          have h10' : (10 : Nat) ^ 8 < 2 ^ 30 := by decide
          have hlt := tm_le (n := n) (x := x) (by omega) hx (fsl N C kd s1 s2 z.2.1 z.2.2.1 c g)
          cases hm : fsl N C kd s1 s2 z.2.1 z.2.2.1 c g with
          | none =>
            refine bn_t rfl (ev_cpower (b := 10) (by omega) (by omega) ?_)
            rw [lN_i, show ((0 : Int64)).toInt32 = nI 0 from by decide]
            refine ev_cfraction (by omega) (Nat.pow_pos (by omega)) (by omega) ?_
            refine ev_noGate_t (by omega) hg (bn_t rfl (ev_noChip_t (by omega) hc (br_t rfl ?_)))
            refine ev_in_t (L := 0) (H := 8) hn1 hn (by omega) (br_f (by decide) (ev_in_t (L := 0) (H := 10) hx1 hx (by omega) (bn_f (by decide) ⟨2 ^ n + 1, ?_⟩)))
            refine fails_loop hO hPB hz.2.1 hB.2.1 hB.2.2 hC (by omega) hg (by omega) (by omega) hx (fun cr go ha la ln ta => ⟨?_, same⟩) (2 ^ n) 0 _ _ _ _ _ _ (by omega)
            rw [hm, tm_none]
          | some m =>
            have hml := fst_le 31 0 hm
            refine bn_f (nI_ne9 (by omega)) (ev_weight (by omega) (by omega) hx (ev_cpower (b := 10) (by omega) (by omega) ?_))
            rw [hm, tm_sum (by omega)] at hlt
            rw [lN_i, lN_i]
            refine ev_cfraction hlt (Nat.pow_pos (by omega)) (by omega) ?_
            refine ev_noGate_t (by omega) hg (bn_t rfl (ev_noChip_t (by omega) hc (br_t rfl ?_)))
            refine ev_in_t (L := 0) (H := 8) hn1 hn (by omega) (br_f (by decide) (ev_in_t (L := 0) (H := 10) hx1 hx (by omega) (bn_f (by decide) ⟨2 ^ n + 1, ?_⟩)))
            refine fails_loop hO hPB hz.2.1 hB.2.1 hB.2.2 hC (by omega) hg (by omega) (by omega) hx (fun cr go ha la ln ta => ⟨?_, same⟩) (2 ^ n) 0 _ _ _ _ _ _ (by omega)
            rw [hm, tm_sum (by omega)]
        · exact out_ll (L := 0) (H := 10) (by omega) (by omega) h4 (ev_noGate_t (by omega) hg (bn_t rfl (ev_noChip_t (by omega) hc (br_t rfl (ev_in_t (L := 0) (H := 8) hn1 hn (by omega) (br_f (by decide) (ev_in_f h4 (bn_t rfl ⟨rfl, same⟩))))))))
      · exact out_lg (L := 0) (H := 8) (by omega) (by omega) h3 (ev_noGate_t (by omega) hg (bn_t rfl (ev_noChip_t (by omega) hc (br_t rfl (ev_in_f h3 (br_t rfl ⟨rfl, same⟩))))))
    · refine ev_isChip_f (by omega) hc (bn_t rfl ?_)
      exact ev_noGate_t (by omega) hg (bn_t rfl (ev_noChip_f (by omega) hc (br_f (by decide) ⟨rfl, same⟩)))
  · refine ev_isGate_f (by omega) hg (br_t rfl ?_)
    exact ev_noGate_f (by omega) hg (bn_f (by decide) ⟨rfl, same⟩)
