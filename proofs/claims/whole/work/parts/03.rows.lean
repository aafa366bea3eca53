/-! ===== one bundle of a walk's facts, one contract form for methods that make nothing ===== -/
def nst (U : State) : Prop := (∀ q ∈ nstF, va_Nw (.fieldLinkNest q.1 q.2.1 q.2.2.1 q.2.2.2.1 q.2.2.2.2.1 q.2.2.2.2.2) U) ∧ ∀ q ∈ nstM, va_Nw (.methodLinkNest q.1 q.2.1 q.2.2.1 q.2.2.2) U
theorem nst.warm {s U : State} (hW : s.WarmedH U.vm) (h : nst s) : nst U := ⟨fun q hq => va_Nw.warmF hW (h.1 q hq), fun q hq => va_Nw.warmM hW (h.2 q hq)⟩
theorem nst.same {s U : State} (hv : s.vm = U.vm) (h : nst s) : nst U := ⟨fun q hq => va_Nw.same rfl hv (h.1 q hq), fun q hq => va_Nw.same rfl hv (h.2 q hq)⟩
/-- a walk's fixed facts -/
def gE (p : Program) (m : MethodId) (c : Code) (cc : ByteArray) (nL : Nat) (s : State) (args : Array Value) (own : String) (D : va_G) (tys : List (ClassId × FieldType)) (A : Nat → Prop) : Prop :=
  CallFix p m c cc nL s args gT own ∧ va_K D vwCl tys s ∧ nst s ∧ ∀ q, s.heap.size ≤ q → A q
/-- the world now -/
def gW (D : va_G) (s : State) (A : Nat → Prop) (w : va_W) (H : Heap) (locs : List Loc) : Prop := va_P D vwCl w H ∧ va_D A w ∧ va_S A s.heap H locs
/-- a contract's start -/
def gPre (D : va_G) (tys : List (ClassId × FieldType)) (w : va_W) (sz : Nat) : State → Prop := fun U => U.heap.size = sz ∧ va_P D vwCl w U.heap ∧ va_K D vwCl tys U ∧ nst U ∧ va_D (fun _ => True) w
def gB (D : va_G) (w : va_W) (sz : Nat) : va_W → State → Prop := fun u t => va_P D vwCl u t.heap ∧ va_D (va_A w sz) u
theorem gPre_blind {av : List Value} {D : va_G} {tys : List (ClassId × FieldType)} {w : va_W} {sz : Nat} : FrameBlind (va_Pc av (gPre D tys w sz)) :=
  fun a U g mk q => by
    obtain ⟨q0, q1, qP, qK, qN, qD⟩ := q
    exact ⟨q0, q1, qP, va_K.moved (u := U) (U := U.calling g mk a) (Vm.Alike.refl U.vm) qK, nst.same (s := U) (U := U.calling g mk a) rfl qN, qD⟩
def CtI (l : Launch) (y : MethodName) (cc : ByteArray) (nL : Nat) (ret : Option FieldType) (rm : Room) (D : va_G) (tys : List (ClassId × FieldType)) (av : List Value) (w : va_W) (Q : Int32 → va_W → Prop) : Prop :=
  ∀ sz, Met l y (Cond.code y cc nL ret :: gT) rm (va_Pc av (gPre D tys w sz)) (va_Qi Q (gB D w sz) (va_A w sz)) 0 0 (va_A w sz)
def CtL (l : Launch) (y : MethodName) (cc : ByteArray) (nL : Nat) (ret : Option FieldType) (rm : Room) (D : va_G) (tys : List (ClassId × FieldType)) (av : List Value) (w : va_W) (Q : Int64 → va_W → Prop) : Prop :=
  ∀ sz, Met l y (Cond.code y cc nL ret :: gT) rm (va_Pc av (gPre D tys w sz)) (va_Ql Q (gB D w sz) (va_A w sz)) 0 0 (va_A w sz)
def CtV (l : Launch) (y : MethodName) (cc : ByteArray) (nL : Nat) (ret : Option FieldType) (rm : Room) (D : va_G) (tys : List (ClassId × FieldType)) (av : List Value) (w : va_W) (Q : va_W → Prop) : Prop :=
  ∀ sz, Met l y (Cond.code y cc nL ret :: gT) rm (va_Pc av (gPre D tys w sz)) (va_Qv Q (gB D w sz) (va_A w sz)) 0 0 (va_A w sz)
section GO
variable {l : Launch} {y : MethodName} {cc : ByteArray} {nL : Nat} {ret : Option FieldType} {rm : Room} {D : va_G} {tys : List (ClassId × FieldType)} {av : List Value} {w : va_W}
theorem CtI.of {Q : Int32 → va_W → Prop} (hy : plainName y.cls = true) (hret : ret = some .int) (hlen : (lg_sl av).length ≤ nL)
    (body : ∀ (p : Program) (e : Env) (s : State) (m : MethodId) (args : Array Value) (below : List Frame) (meth : Method) (c : Code) (A : Nat → Prop) (Z : State → Prop), gE p m c cc nL s args y.cls D tys A →
      (∀ (v : Int32) (u : va_W) (H : Heap) (locs : List Loc) (pc : Nat) (ls : Array Slot), Q v u → gW D s A u H locs → decode cc pc = .ok (.ireturn, 1) → W p l e rm s m args below meth c H locs 0 0 Z (F0 m pc ls [.int v])) →
      ∀ ls, lv_has ls nL (lv_args 0 av) → gW D s A w s.heap [] → W p l e rm s m args below meth c s.heap [] 0 0 Z (F0 m 0 ls [])) : CtI l y cc nL ret rm D tys av w Q := by
  intro sz
  refine Met.ofW (cc := cc) (maxL := nL) (ret := ret) hy rfl ?_
  intro p e s m args below meth c s₁ B hml hv
  obtain ⟨rfl, hsz, hP, hK, hN, hD0⟩ := hv
  have hts0 := atoms_spec (ws := Cond.code y cc nL ret :: gT) B.pre
  have hlocks := B.notSynchronized
  subst hsz
  rw [lg_entry_eq]
  refine body p e s m _ below meth c (va_A w s.heap.size) _ ⟨⟨B.exec, B.bytes, hml, findClass_of_methodNamed B.named, fun w h => hts0 w (List.mem_cons_of_mem _ h)⟩, hK, hN, fun q h => Or.inr h⟩ ?_ _ (lv_entry av (n := nL) hlen) ⟨hP, hD0.self, va_S.rf⟩
  intro v u H locs pc ls hq hw hd
  exact W.iret (v := v) B.exec B.bytes (B.returns.trans hret) (fun t ht hW => ⟨⟨v, u, rfl, hq, by rw [ht]; exact hw.1, hw.2.1⟩, hw.2.2.F ht⟩) hw.2.2.2.2 hd
theorem CtI.ofZ {Q : Int32 → va_W → Prop} (hy : plainName y.cls = true) (hret : ret = some .boolean) (hlen : (lg_sl av).length ≤ nL)
    (body : ∀ (p : Program) (e : Env) (s : State) (m : MethodId) (args : Array Value) (below : List Frame) (meth : Method) (c : Code) (A : Nat → Prop) (Z : State → Prop), gE p m c cc nL s args y.cls D tys A →
      (∀ (v : Int32) (u : va_W) (H : Heap) (locs : List Loc) (pc : Nat) (ls : Array Slot), (v = 0 ∨ v = 1) → Q v u → gW D s A u H locs → decode cc pc = .ok (.ireturn, 1) → W p l e rm s m args below meth c H locs 0 0 Z (F0 m pc ls [.int v])) →
      ∀ ls, lv_has ls nL (lv_args 0 av) → gW D s A w s.heap [] → W p l e rm s m args below meth c s.heap [] 0 0 Z (F0 m 0 ls [])) : CtI l y cc nL ret rm D tys av w Q := by
  intro sz
  refine Met.ofW (cc := cc) (maxL := nL) (ret := ret) hy rfl ?_
  intro p e s m args below meth c s₁ B hml hv
  obtain ⟨rfl, hsz, hP, hK, hN, hD0⟩ := hv
  have hts0 := atoms_spec (ws := Cond.code y cc nL ret :: gT) B.pre
  have hlocks := B.notSynchronized
  subst hsz
  rw [lg_entry_eq]
  refine body p e s m _ below meth c (va_A w s.heap.size) _ ⟨⟨B.exec, B.bytes, hml, findClass_of_methodNamed B.named, fun w h => hts0 w (List.mem_cons_of_mem _ h)⟩, hK, hN, fun q h => Or.inr h⟩ ?_ _ (lv_entry av (n := nL) hlen) ⟨hP, hD0.self, va_S.rf⟩
  intro v u H locs pc ls hz hq hw hd
  exact W.zret (v := v) (ty := .boolean) B.exec B.bytes (B.returns.trans hret) (by rcases hz with rfl | rfl <;> decide) (fun t ht hW => ⟨⟨v, u, rfl, hq, by rw [ht]; exact hw.1, hw.2.1⟩, hw.2.2.F ht⟩) hw.2.2.2.2 hd
theorem CtL.of {Q : Int64 → va_W → Prop} (hy : plainName y.cls = true) (hret : ret = some .long) (hlen : (lg_sl av).length ≤ nL)
    (body : ∀ (p : Program) (e : Env) (s : State) (m : MethodId) (args : Array Value) (below : List Frame) (meth : Method) (c : Code) (A : Nat → Prop) (Z : State → Prop), gE p m c cc nL s args y.cls D tys A →
      (∀ (v : Int64) (u : va_W) (H : Heap) (locs : List Loc) (pc : Nat) (ls : Array Slot), Q v u → gW D s A u H locs → decode cc pc = .ok (.lreturn, 1) → W p l e rm s m args below meth c H locs 0 0 Z (F0 m pc ls [.long v])) →
      ∀ ls, lv_has ls nL (lv_args 0 av) → gW D s A w s.heap [] → W p l e rm s m args below meth c s.heap [] 0 0 Z (F0 m 0 ls [])) : CtL l y cc nL ret rm D tys av w Q := by
  intro sz
  refine Met.ofW (cc := cc) (maxL := nL) (ret := ret) hy rfl ?_
  intro p e s m args below meth c s₁ B hml hv
  obtain ⟨rfl, hsz, hP, hK, hN, hD0⟩ := hv
  have hts0 := atoms_spec (ws := Cond.code y cc nL ret :: gT) B.pre
  have hlocks := B.notSynchronized
  subst hsz
  rw [lg_entry_eq]
  refine body p e s m _ below meth c (va_A w s.heap.size) _ ⟨⟨B.exec, B.bytes, hml, findClass_of_methodNamed B.named, fun w h => hts0 w (List.mem_cons_of_mem _ h)⟩, hK, hN, fun q h => Or.inr h⟩ ?_ _ (lv_entry av (n := nL) hlen) ⟨hP, hD0.self, va_S.rf⟩
  intro v u H locs pc ls hq hw hd
  exact W.lret (v := v) B.exec B.bytes (B.returns.trans hret) (fun t ht hW => ⟨⟨v, u, rfl, hq, by rw [ht]; exact hw.1, hw.2.1⟩, hw.2.2.F ht⟩) hw.2.2.2.2 hd
theorem CtV.of {Q : va_W → Prop} (hy : plainName y.cls = true) (hret : ret = none) (hlen : (lg_sl av).length ≤ nL)
    (body : ∀ (p : Program) (e : Env) (s : State) (m : MethodId) (args : Array Value) (below : List Frame) (meth : Method) (c : Code) (A : Nat → Prop) (Z : State → Prop), gE p m c cc nL s args y.cls D tys A →
      (∀ (u : va_W) (H : Heap) (locs : List Loc) (pc : Nat) (ls : Array Slot), Q u → gW D s A u H locs → decode cc pc = .ok (.return_, 1) → W p l e rm s m args below meth c H locs 0 0 Z (F0 m pc ls [])) →
      ∀ ls, lv_has ls nL (lv_args 0 av) → gW D s A w s.heap [] → W p l e rm s m args below meth c s.heap [] 0 0 Z (F0 m 0 ls [])) : CtV l y cc nL ret rm D tys av w Q := by
  intro sz
  refine Met.ofW (cc := cc) (maxL := nL) (ret := ret) hy rfl ?_
  intro p e s m args below meth c s₁ B hml hv
  obtain ⟨rfl, hsz, hP, hK, hN, hD0⟩ := hv
  have hts0 := atoms_spec (ws := Cond.code y cc nL ret :: gT) B.pre
  have hlocks := B.notSynchronized
  subst hsz
  rw [lg_entry_eq]
  refine body p e s m _ below meth c (va_A w s.heap.size) _ ⟨⟨B.exec, B.bytes, hml, findClass_of_methodNamed B.named, fun w h => hts0 w (List.mem_cons_of_mem _ h)⟩, hK, hN, fun q h => Or.inr h⟩ ?_ _ (lv_entry av (n := nL) hlen) ⟨hP, hD0.self, va_S.rf⟩
  intro u H locs pc ls hq hw hd
  exact W.vret B.exec B.bytes (B.returns.trans hret) (fun t ht hW => ⟨⟨u, rfl, hq, by rw [ht]; exact hw.1, hw.2.1⟩, hw.2.2.F ht⟩) hw.2.2.2.2 hd
end GO
/-! fields and arrays of the world -/
section GF
variable {p : Program} {l : Launch} {e : Env} {R : Room} {s : State} {m : MethodId} {args : Array Value} {below : List Frame} {meth : Method} {c : Code} {H : Heap} {locs : List Loc} {cells slots : Nat} {Z : State → Prop}
variable {cc : ByteArray} {nL pc : Nat} {ls : Array Slot} {rest : List Value} {D : va_G} {A : Nat → Prop} {a : Nat} {tys : List (ClassId × FieldType)} {w : va_W} {own C : String} {T : u_T} {N ci index : Nat} {fs : List Value} {v : Value}
theorem g_get (E : gE p m c cc nL s args own D tys A) (hw : gW D s A w H locs) (hin : ∀ x ∈ u_ws C T N, x ∈ gT) (q0 : Nat) (he : w[q0]? = some (a, .inr (ci, fs))) (hc : vwCl[ci]? = some (C, T, N)) (k : Nat) (hk : k < N) (hlink : Cond.fieldLink own index (T k).1 (T k).2.1 (T k).2.2.1 ∈ gT) (hv : fs[k]? = some v) (hdg : decode cc pc = .ok (.getfield index, 3))
    (kk : W p l e R s m args below meth c H locs cells slots Z (F0 m (pc + 3) ls (v :: rest))) : W p l e R s m args below meth c H locs cells slots Z (F0 m pc ls (.ref a :: rest)) :=
  va_get E.1.1 E.1.2.1 E.1.2.2.2.2 hin E.1.2.2.2.1 E.2.1 hw.1 q0 he hc k hk (E.1.2.2.2.2 _ hlink) (fun _ h9 => h9) hv hdg kk
theorem g_getN {host : String} (E : gE p m c cc nL s args own D tys A) (hw : gW D s A w H locs) (hin : ∀ x ∈ u_ws C T N, x ∈ gT) (q0 : Nat) (he : w[q0]? = some (a, .inr (ci, fs))) (hc : vwCl[ci]? = some (C, T, N)) (k : Nat) (hk : k < N) (hlink : (own, index, (T k).1, (T k).2.1, (T k).2.2.1, host) ∈ nstF) (hv : fs[k]? = some v) (hdg : decode cc pc = .ok (.getfield index, 3))
    (kk : W p l e R s m args below meth c H locs cells slots Z (F0 m (pc + 3) ls (v :: rest))) : W p l e R s m args below meth c H locs cells slots Z (F0 m pc ls (.ref a :: rest)) :=
  va_getN E.1.1 E.1.2.1 E.1.2.2.2.2 hin E.1.2.2.2.1 E.2.1 hw.1 q0 he hc k hk (va_Nw.use rfl (E.2.2.1.1 _ hlink)) (fun _ h9 => h9) hv hdg kk
theorem g_put (E : gE p m c cc nL s args own D tys A) (hw : gW D s A w H locs) (hin : ∀ x ∈ u_ws C T N, x ∈ gT) (ty0 : Nat → FieldType) (hty : ∀ k, k < N → parseFieldDescriptor (T k).2.2.1 = some (ty0 k)) (hnm : ∀ a, a < N → ∀ b, b < N → a ≠ b → (T a).2.1 ≠ (T b).2.1) (q0 : Nat) (he : w[q0]? = some (a, .inr (ci, fs))) (hc : vwCl[ci]? = some (C, T, N)) (k : Nat) (hk : k < N) (hlink : Cond.fieldLink own index (T k).1 (T k).2.1 (T k).2.2.1 ∈ gT) (hfin : (T k).2.2.2 = false) (ty : FieldType) (hd : parseFieldDescriptor (T k).2.2.1 = some ty) (hn : narrow ty v = v) (hfit : fits ty v = true) (hl : k < fs.length) (w' : va_W) (hw' : w.set q0 (a, .inr (ci, fs.set k v)) = w')
    (hdg : decode cc pc = .ok (.putfield index, 3)) (kk : ∀ (H1 : Heap) (locs1 : List Loc), gW D s A w' H1 locs1 → W p l e R s m args below meth c H1 locs1 cells slots Z (F0 m (pc + 3) ls rest)) : W p l e R s m args below meth c H locs cells slots Z (F0 m pc ls (v :: .ref a :: rest)) := by
  subst hw'
  exact va_put E.1.1 E.1.2.1 E.1.2.2.2.2 hin ty0 hty hnm E.1.2.2.2.1 E.2.1 hw.1 hw.2.1 hw.2.2 q0 he hc k hk (E.1.2.2.2.2 _ hlink) (fun _ h9 => h9) hfin hd hn hfit hl hdg (fun H1 locs1 h1 h2 h3 => kk H1 locs1 ⟨h1, h2, h3⟩)
theorem g_putN {host : String} (E : gE p m c cc nL s args own D tys A) (hw : gW D s A w H locs) (hin : ∀ x ∈ u_ws C T N, x ∈ gT) (ty0 : Nat → FieldType) (hty : ∀ k, k < N → parseFieldDescriptor (T k).2.2.1 = some (ty0 k)) (hnm : ∀ a, a < N → ∀ b, b < N → a ≠ b → (T a).2.1 ≠ (T b).2.1) (q0 : Nat) (he : w[q0]? = some (a, .inr (ci, fs))) (hc : vwCl[ci]? = some (C, T, N)) (k : Nat) (hk : k < N) (hlink : (own, index, (T k).1, (T k).2.1, (T k).2.2.1, host) ∈ nstF) (hfin : (T k).2.2.2 = false) (ty : FieldType) (hd : parseFieldDescriptor (T k).2.2.1 = some ty) (hn : narrow ty v = v) (hfit : fits ty v = true) (hl : k < fs.length) (w' : va_W) (hw' : w.set q0 (a, .inr (ci, fs.set k v)) = w')
    (hdg : decode cc pc = .ok (.putfield index, 3)) (kk : ∀ (H1 : Heap) (locs1 : List Loc), gW D s A w' H1 locs1 → W p l e R s m args below meth c H1 locs1 cells slots Z (F0 m (pc + 3) ls rest)) : W p l e R s m args below meth c H locs cells slots Z (F0 m pc ls (v :: .ref a :: rest)) := by
  subst hw'
  exact va_putN E.1.1 E.1.2.1 E.1.2.2.2.2 hin ty0 hty hnm E.1.2.2.2.1 E.2.1 hw.1 hw.2.1 hw.2.2 q0 he hc k hk (va_Nw.use rfl (E.2.2.1.1 _ hlink)) (fun _ h9 => h9) hfin hd hn hfit hl hdg (fun H1 locs1 h1 h2 h3 => kk H1 locs1 ⟨h1, h2, h3⟩)
theorem g_iald (E : gE p m c cc nL s args own D tys A) (hw : gW D s A w H locs) (q0 t0 : Nat) {cA : ClassId} {n : Nat} {f : Nat → Int32} (ha : w[q0]? = some (a, .inl (cA, n, .inl f))) (ht : tys[t0]? = some (cA, .int)) {i : Int32} (hin : vp_in i n) (hdg : decode cc pc = .ok (.iaload, 1))
    (kk : W p l e R s m args below meth c H locs cells slots Z (F0 m (pc + 1) ls (.int (f i.toNatClampNeg) :: rest))) : W p l e R s m args below meth c H locs cells slots Z (F0 m pc ls (.int i :: .ref a :: rest)) :=
  va_iald E.1.1 E.1.2.1 E.2.1 hw.1 q0 t0 ha ht hin hdg kk
theorem g_zald (E : gE p m c cc nL s args own D tys A) (hw : gW D s A w H locs) (q0 t0 : Nat) {cA : ClassId} {n : Nat} {f : Nat → Int32} (ha : w[q0]? = some (a, .inl (cA, n, .inl f))) (ht : tys[t0]? = some (cA, .boolean)) {i : Int32} (hin : vp_in i n) (hdg : decode cc pc = .ok (.baload, 1))
    (kk : W p l e R s m args below meth c H locs cells slots Z (F0 m (pc + 1) ls (.int (f i.toNatClampNeg) :: rest))) : W p l e R s m args below meth c H locs cells slots Z (F0 m pc ls (.int i :: .ref a :: rest)) :=
  va_zald E.1.1 E.1.2.1 E.2.1 hw.1 q0 t0 ha ht hin hdg kk
theorem g_alen (E : gE p m c cc nL s args own D tys A) (hw : gW D s A w H locs) (q0 t0 : Nat) {cA : ClassId} {n : Nat} {f : Nat → Int32} (ha : w[q0]? = some (a, .inl (cA, n, .inl f))) {ty : FieldType} (ht : tys[t0]? = some (cA, ty)) (hdg : decode cc pc = .ok (.arraylength, 1))
    (kk : W p l e R s m args below meth c H locs cells slots Z (F0 m (pc + 1) ls (.int (nI n) :: rest))) : W p l e R s m args below meth c H locs cells slots Z (F0 m pc ls (.ref a :: rest)) :=
  va_alen E.1.1 E.1.2.1 E.2.1 hw.1 q0 t0 ha ht rfl hdg kk
theorem g_iast (E : gE p m c cc nL s args own D tys A) (hw : gW D s A w H locs) (q0 t0 : Nat) {cA : ClassId} {n : Nat} {f : Nat → Int32} (ha : w[q0]? = some (a, .inl (cA, n, .inl f))) (ht : tys[t0]? = some (cA, .int)) {i x : Int32} (hin : vp_in i n) (w' : va_W) (hw' : w.set q0 (a, .inl (cA, n, .inl (upd f i.toNatClampNeg x))) = w') (hdg : decode cc pc = .ok (.iastore, 1))
    (kk : ∀ (H1 : Heap) (locs1 : List Loc), gW D s A w' H1 locs1 → W p l e R s m args below meth c H1 locs1 cells slots Z (F0 m (pc + 1) ls rest)) : W p l e R s m args below meth c H locs cells slots Z (F0 m pc ls (.int x :: .int i :: .ref a :: rest)) := by
  subst hw'
  exact va_iast E.1.1 E.1.2.1 E.2.1 hw.1 hw.2.1 hw.2.2 q0 t0 ha ht hin hdg (fun H1 locs1 h1 h2 h3 => kk H1 locs1 ⟨h1, h2, h3⟩)
theorem g_zast (E : gE p m c cc nL s args own D tys A) (hw : gW D s A w H locs) (q0 t0 : Nat) {cA : ClassId} {n : Nat} {f : Nat → Int32} (ha : w[q0]? = some (a, .inl (cA, n, .inl f))) (ht : tys[t0]? = some (cA, .boolean)) {i x : Int32} (hz : x = 0 ∨ x = 1) (hin : vp_in i n) (w' : va_W) (hw' : w.set q0 (a, .inl (cA, n, .inl (upd f i.toNatClampNeg x))) = w') (hdg : decode cc pc = .ok (.bastore, 1))
    (kk : ∀ (H1 : Heap) (locs1 : List Loc), gW D s A w' H1 locs1 → W p l e R s m args below meth c H1 locs1 cells slots Z (F0 m (pc + 1) ls rest)) : W p l e R s m args below meth c H locs cells slots Z (F0 m pc ls (.int x :: .int i :: .ref a :: rest)) := by
  subst hw'
  have hn : vp_nar .boolean x = x := by rcases hz with rfl | rfl <;> decide
  refine va_zast E.1.1 E.1.2.1 E.2.1 hw.1 hw.2.1 hw.2.2 q0 t0 ha ht hin hdg (fun H1 locs1 h1 h2 h3 => ?_)
  rw [hn] at h1 h2
  exact kk H1 locs1 ⟨h1, h2, h3⟩
end GF
/-! calls -/
def mV (y : MethodName) (bytes : ByteArray) (maxL : Nat) (ret : Option FieldType) (n : Nat) : Prop := Cond.instanceMethod y ∈ gT ∧ Cond.selects y.cls y y ∈ gT ∧ Cond.initialized y.cls ∈ gT ∧ Cond.code y bytes maxL ret ∈ gT ∧ (y.cls ≠ "java/lang/invoke/MethodHandle" ∧ y.cls ≠ "java/lang/invoke/VarHandle" ∧ (parseMethodDescriptor y.desc).map (fun d => d.parameters.length) = some n)
def mS (y : MethodName) (bytes : ByteArray) (maxL : Nat) (ret : Option FieldType) (n : Nat) : Prop := Cond.static y ∈ gT ∧ Cond.initialized y.cls ∈ gT ∧ Cond.code y bytes maxL ret ∈ gT ∧ (y.cls ≠ "java/lang/invoke/MethodHandle" ∧ y.cls ≠ "java/lang/invoke/VarHandle" ∧ (parseMethodDescriptor y.desc).map (fun d => d.parameters.length) = some n)
theorem g_good {y : MethodName} {bytes : ByteArray} {maxL : Nat} {ret : Option FieldType} (h : Cond.code y bytes maxL ret ∈ gT) : GoodIn gT (Cond.code y bytes maxL ret :: gT) := by
  intro x hx
  rcases List.mem_cons.mp hx with rfl | hx
  · exact ⟨h, (gT_good _ h).2⟩
  · exact ⟨hx, (gT_good _ hx).2⟩
section GC
variable {p : Program} {l : Launch} {e : Env} {R : Room} {s : State} {m : MethodId} {args : Array Value} {below : List Frame} {meth : Method} {c : Code} {H : Heap} {locs : List Loc} {cells slots : Nat} {Z : State → Prop}
variable {cc bytes : ByteArray} {nL maxL n pc : Nat} {ret : Option FieldType} {rm : Room} {ls : Array Slot} {st rest As : List Value} {D : va_G} {A : Nat → Prop} {b : Nat} {tys : List (ClassId × FieldType)} {w : va_W} {own host : String} {index : Nat} {y : MethodName}
theorem gW.free (E : gE p m c cc nL s args own D tys A) (hw : gW D s A w H locs) : ∀ q, va_A w H.size q → A q := by
  intro q h
  rcases h with ⟨k, x, h⟩ | h
  · exact hw.2.1.2 k _ h
  · exact E.2.2.2 q (Nat.le_trans hw.2.2.1 h)
theorem gW.pre {av : List Value} (E : gE p m c cc nL s args own D tys A) (hw : gW D s A w H locs) (U : State) (hU : U.heap = H) (hW : s.WarmedH U.vm) : va_Pc av (gPre D tys w H.size) av.toArray U :=
  ⟨rfl, by rw [hU], by rw [hU]; exact hw.1, va_K.moved hW.alike E.2.1, nst.warm hW E.2.2.1, hw.2.1.weaken (fun _ _ _ _ => trivial)⟩
theorem g_cb (E : gE p m c cc nL s args own D tys A) (hc : Cond.code y bytes maxL ret ∈ gT) (hi : Cond.initialized y.cls ∈ gT) (hd : y.cls ≠ "java/lang/invoke/MethodHandle" ∧ y.cls ≠ "java/lang/invoke/VarHandle" ∧ (parseMethodDescriptor y.desc).map (fun d => d.parameters.length) = some n) (hl : Cond.methodLink own index y ∈ gT) (hz : rm.cells = 0 ∧ rm.slots = 0) (hR : rm.frames + 1 ≤ R.frames ∧ 8 + (maxL + 11) + rm.locals ≤ R.locals) :
    CallB R s args own index y bytes maxL ret (Cond.code y bytes maxL ret :: gT) rm 0 0 n :=
  callB_of n E.1.2.2.2.2 (g_good hc) rfl hz.1 hz.2 (E.1.2.2.2.2 _ hi) (E.1.2.2.2.2 _ hl) hd hR
theorem g_cn (E : gE p m c cc nL s args own D tys A) (hc : Cond.code y bytes maxL ret ∈ gT) (hi : Cond.initialized y.cls ∈ gT) (hd : y.cls ≠ "java/lang/invoke/MethodHandle" ∧ y.cls ≠ "java/lang/invoke/VarHandle" ∧ (parseMethodDescriptor y.desc).map (fun d => d.parameters.length) = some n) (hl : (own, index, y, host) ∈ nstM) (hz : rm.cells = 0 ∧ rm.slots = 0) (hR : rm.frames + 1 ≤ R.frames ∧ 8 + (maxL + 11) + rm.locals ≤ R.locals) :
    va_CN R s args own index y host bytes maxL ret (Cond.code y bytes maxL ret :: gT) rm 0 0 n :=
  va_cnB n E.1.2.2.2.2 (g_good hc) rfl hz.1 hz.2 (E.2.2.1.2 _ hl) (E.1.2.2.2.2 _ hi) hd hR
theorem g_rV {Qc : Array Value → State → Outcome → State → Prop} {ci : Nat} {q : vw_C} {fs : List Value} (E : gE p m c cc nL s args own D tys A) (hw : gW D s A w H locs) (hM : Met l y (Cond.code y bytes maxL ret :: gT) rm (va_Pc (.ref b :: As) (gPre D tys w H.size)) Qc 0 0 (va_A w H.size)) (hy : mV y bytes maxL ret n) (hl : Cond.methodLink own index y ∈ gT) (hz : rm.cells = 0 ∧ rm.slots = 0) (hR : rm.frames + 1 ≤ R.frames ∧ 8 + (maxL + 11) + rm.locals ≤ R.locals) (q0 : Nat) (he : w[q0]? = some (b, .inr (ci, fs))) (hc : vwCl[ci]? = some q) (hq : q.1 = y.cls) (hn : As.length = n) (hsize : ls.size = nL) (hst : st = As.reverse ++ .ref b :: rest) (hW : (rest.map fun v => v.category).sum ≤ 8) (hcs : cells ≤ R.cells ∧ slots ≤ R.slots) (hdg : decode cc pc = .ok (.invokevirtual index, 3)) :
    va_Run p l e R s m args below meth c H locs cells slots 0 0 (F0 m pc ls st) rest (Qc (Value.ref b :: As).toArray) (va_A w H.size) :=
  va_runV (As := As) (rest := rest) E.1 hM ⟨g_cb E hy.2.2.2.1 hy.2.2.1 hy.2.2.2.2 hl hz hR, E.1.2.2.2.2 _ hy.1, E.1.2.2.2.2 _ hy.2.1⟩ ⟨gPre_blind, hq ▸ va_recv E.2.1 hw.1 hc he, fun U hU hW => hw.pre E U hU hW⟩ rfl hn hsize hst (lv_room hW) hdg hcs
theorem g_rVN {Qc : Array Value → State → Outcome → State → Prop} {ci : Nat} {q : vw_C} {fs : List Value} (E : gE p m c cc nL s args own D tys A) (hw : gW D s A w H locs) (hM : Met l y (Cond.code y bytes maxL ret :: gT) rm (va_Pc (.ref b :: As) (gPre D tys w H.size)) Qc 0 0 (va_A w H.size)) (hy : mV y bytes maxL ret n) (hl : (own, index, y, host) ∈ nstM) (hz : rm.cells = 0 ∧ rm.slots = 0) (hR : rm.frames + 1 ≤ R.frames ∧ 8 + (maxL + 11) + rm.locals ≤ R.locals) (q0 : Nat) (he : w[q0]? = some (b, .inr (ci, fs))) (hc : vwCl[ci]? = some q) (hq : q.1 = y.cls) (hn : As.length = n) (hsize : ls.size = nL) (hst : st = As.reverse ++ .ref b :: rest) (hW : (rest.map fun v => v.category).sum ≤ 8) (hcs : cells ≤ R.cells ∧ slots ≤ R.slots) (hdg : decode cc pc = .ok (.invokevirtual index, 3)) :
    va_Run p l e R s m args below meth c H locs cells slots 0 0 (F0 m pc ls st) rest (Qc (Value.ref b :: As).toArray) (va_A w H.size) :=
  va_runVN (C := y.cls) (As := As) (rest := rest) E.1 hM ⟨g_cn E hy.2.2.2.1 hy.2.2.1 hy.2.2.2.2 hl hz hR, E.1.2.2.2.2 _ hy.1, E.1.2.2.2.2 _ hy.2.1⟩ ⟨gPre_blind, hq ▸ va_recv E.2.1 hw.1 hc he, fun U hU hW => hw.pre E U hU hW⟩ rfl hn hsize hst (lv_room hW) hdg hcs
theorem g_rS {Qc : Array Value → State → Outcome → State → Prop} (E : gE p m c cc nL s args own D tys A) (hw : gW D s A w H locs) (hM : Met l y (Cond.code y bytes maxL ret :: gT) rm (va_Pc As (gPre D tys w H.size)) Qc 0 0 (va_A w H.size)) (hy : mS y bytes maxL ret n) (hl : Cond.methodLink own index y ∈ gT) (hz : rm.cells = 0 ∧ rm.slots = 0) (hR : rm.frames + 1 ≤ R.frames ∧ 8 + (maxL + 11) + rm.locals ≤ R.locals) (hn : As.length = n) (hsize : ls.size = nL) (hst : st = As.reverse ++ rest) (hW : (rest.map fun v => v.category).sum ≤ 8) (hcs : cells ≤ R.cells ∧ slots ≤ R.slots) (hdg : decode cc pc = .ok (.invokestatic index, 3)) :
    va_Run p l e R s m args below meth c H locs cells slots 0 0 (F0 m pc ls st) rest (Qc As.toArray) (va_A w H.size) :=
  va_runS (As := As) (rest := rest) E.1 hM ⟨g_cb E hy.2.2.1 hy.2.1 hy.2.2.2 hl hz hR, E.1.2.2.2.2 _ hy.1⟩ ⟨gPre_blind, fun U hU hW => hw.pre E U hU hW⟩ rfl hn hsize hst (lv_room hW) hdg hcs
theorem g_rSN {Qc : Array Value → State → Outcome → State → Prop} (E : gE p m c cc nL s args own D tys A) (hw : gW D s A w H locs) (hM : Met l y (Cond.code y bytes maxL ret :: gT) rm (va_Pc As (gPre D tys w H.size)) Qc 0 0 (va_A w H.size)) (hy : mS y bytes maxL ret n) (hl : (own, index, y, host) ∈ nstM) (hz : rm.cells = 0 ∧ rm.slots = 0) (hR : rm.frames + 1 ≤ R.frames ∧ 8 + (maxL + 11) + rm.locals ≤ R.locals) (hn : As.length = n) (hsize : ls.size = nL) (hst : st = As.reverse ++ rest) (hW : (rest.map fun v => v.category).sum ≤ 8) (hcs : cells ≤ R.cells ∧ slots ≤ R.slots) (hdg : decode cc pc = .ok (.invokestatic index, 3)) :
    va_Run p l e R s m args below meth c H locs cells slots 0 0 (F0 m pc ls st) rest (Qc As.toArray) (va_A w H.size) :=
  va_runSN (As := As) (rest := rest) E.1 hM ⟨g_cn E hy.2.2.1 hy.2.1 hy.2.2.2 hl hz hR, E.1.2.2.2.2 _ hy.1, trivial⟩ ⟨gPre_blind, fun U hU hW => hw.pre E U hU hW⟩ rfl hn hsize hst (lv_room hW) hdg hcs
variable {a : Array Value}
theorem g_aI {Q : Int32 → va_W → Prop} (E : gE p m c cc nL s args own D tys A) (hw : gW D s A w H locs) (hr : va_Run p l e R s m args below meth c H locs cells slots 0 0 (F0 m pc ls st) rest (va_Qi Q (gB D w H.size) (va_A w H.size) a) (va_A w H.size))
    (kk : ∀ (r : Int32) (u : va_W) (H1 : Heap) (locs1 : List Loc), Q r u → gW D s A u H1 locs1 → W p l e R s m args below meth c H1 locs1 cells slots Z (F0 m (pc + 3) ls (.int r :: rest))) : W p l e R s m args below meth c H locs cells slots Z (F0 m pc ls st) :=
  va_calli hr hw.2.2 (fun q _ h => hw.free E q h) (hw.free E) (fun r u t H1 locs1 ht hvm hp hB hz hk hS1 => kk r u H1 locs1 hp ⟨by rw [← ht]; exact hB.1, hB.2.weaken (fun k q _ h => hw.free E q.1 h), hS1⟩)
theorem g_aL {Q : Int64 → va_W → Prop} (E : gE p m c cc nL s args own D tys A) (hw : gW D s A w H locs) (hr : va_Run p l e R s m args below meth c H locs cells slots 0 0 (F0 m pc ls st) rest (va_Ql Q (gB D w H.size) (va_A w H.size) a) (va_A w H.size))
    (kk : ∀ (r : Int64) (u : va_W) (H1 : Heap) (locs1 : List Loc), Q r u → gW D s A u H1 locs1 → W p l e R s m args below meth c H1 locs1 cells slots Z (F0 m (pc + 3) ls (.long r :: rest))) : W p l e R s m args below meth c H locs cells slots Z (F0 m pc ls st) :=
  va_calll hr hw.2.2 (fun q _ h => hw.free E q h) (hw.free E) (fun r u t H1 locs1 ht hvm hp hB hz hk hS1 => kk r u H1 locs1 hp ⟨by rw [← ht]; exact hB.1, hB.2.weaken (fun k q _ h => hw.free E q.1 h), hS1⟩)
theorem g_aV {Q : va_W → Prop} (E : gE p m c cc nL s args own D tys A) (hw : gW D s A w H locs) (hr : va_Run p l e R s m args below meth c H locs cells slots 0 0 (F0 m pc ls st) rest (va_Qv Q (gB D w H.size) (va_A w H.size) a) (va_A w H.size))
    (kk : ∀ (u : va_W) (H1 : Heap) (locs1 : List Loc), Q u → gW D s A u H1 locs1 → W p l e R s m args below meth c H1 locs1 cells slots Z (F0 m (pc + 3) ls rest)) : W p l e R s m args below meth c H locs cells slots Z (F0 m pc ls st) :=
  va_callv hr hw.2.2 (fun q _ h => hw.free E q h) (hw.free E) (fun u t H1 locs1 ht hvm hp hB hz hk hS1 => kk u H1 locs1 hp ⟨by rw [← ht]; exact hB.1, hB.2.weaken (fun k q _ h => hw.free E q.1 h), hS1⟩)
end GC
