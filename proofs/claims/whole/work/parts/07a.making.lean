/-! ===== the order of a world's cells doesn't matter; making objects and arrays ===== -/
theorem gW.perm {D : va_G} {s : State} {A : Nat → Prop} {w w' : va_W} {H : Heap} {locs : List Loc} (hp : w.Perm w') (h : gW D s A w H locs) : gW D s A w' H locs := by
  obtain ⟨hP, hD, hS⟩ := h
  have get : ∀ (k : Nat) (q : Nat × va_E), w'[k]? = some q → ∃ i : Nat, w[i]? = some q := fun k q hq => List.getElem?_of_mem (hp.mem_iff.mpr (List.mem_of_getElem? hq))
  refine ⟨fun k q hq => ?_, ⟨?_, fun k q hq => ?_⟩, hS⟩
  · obtain ⟨i, hi⟩ := get k q hq
    exact hP i q hi
  · have h1 : w.Pairwise (fun p q => p.1 ≠ q.1) := by
      rw [List.pairwise_iff_getElem]
      intro i j hi hj hij he
      have := hD.1 i j _ _ (List.getElem?_eq_getElem hi) (List.getElem?_eq_getElem hj) he
      omega
    have h2 : w'.Pairwise (fun p q => p.1 ≠ q.1) := hp.pairwise h1 (fun {x y} h => h.symm)
    rw [List.pairwise_iff_getElem] at h2
    intro i j p q hi hj he
    obtain ⟨li, ei⟩ := List.getElem?_eq_some_iff.mp hi
    obtain ⟨lj, ej⟩ := List.getElem?_eq_some_iff.mp hj
    rcases Nat.lt_trichotomy i j with hlt | heq | hgt
    · exact absurd (by rw [ei, ej]; exact he) (h2 i j li lj hlt)
    · exact heq
    · exact absurd (by rw [ei, ej]; exact he.symm) (h2 j i lj li hgt)
  · obtain ⟨i, hi⟩ := get k q hq
    exact hD.2 i q hi
def CtN (l : Launch) (y : MethodName) (cc : ByteArray) (nL : Nat) (rm : Room) (D : va_G) (tys : List (ClassId × FieldType)) (av : List Value) (w : va_W) (mc ms : Nat) (Q : va_W → Prop) : Prop :=
  ∀ sz, Met l y (Cond.code y cc nL none :: gT) rm (va_Pc av (gPre D tys w sz)) (va_Qv Q (gB D w sz) (va_A w sz)) mc ms (va_A w sz)
theorem CtN.of {l : Launch} {y : MethodName} {cc : ByteArray} {nL mc ms : Nat} {rm : Room} {D : va_G} {tys : List (ClassId × FieldType)} {av : List Value} {w : va_W} {Q : va_W → Prop} (hy : plainName y.cls = true) (hlen : (lg_sl av).length ≤ nL) (hin : y.name = "<init>")
    (body : ∀ (p : Program) (e : Env) (s : State) (m : MethodId) (args : Array Value) (below : List Frame) (meth : Method) (c : Code) (A : Nat → Prop) (Z : State → Prop), gE p m c cc nL s args y.cls D tys A → meth.name = "<init>" →
      (∀ (u : va_W) (H : Heap) (locs : List Loc) (pc : Nat) (ls : Array Slot), Q u → gW D s A u H locs → decode cc pc = .ok (.return_, 1) → W p l e rm s m args below meth c H locs mc ms Z (F0 m pc ls [])) →
      ∀ ls, lv_has ls nL (lv_args 0 av) → gW D s A w s.heap [] → W p l e rm s m args below meth c s.heap [] 0 0 Z (F0 m 0 ls [])) : CtN l y cc nL rm D tys av w mc ms Q := by
  intro sz
  refine Met.ofW (cc := cc) (maxL := nL) (ret := none) hy rfl ?_
  intro p e s m args below meth c s₁ B hml hv
  obtain ⟨rfl, hsz, hP, hK, hN, hD0⟩ := hv
  have hts0 := atoms_spec (ws := Cond.code y cc nL none :: gT) B.pre
  have hlocks := B.notSynchronized
  subst hsz
  rw [lg_entry_eq]
  refine body p e s m _ below meth c (va_A w s.heap.size) _ ⟨⟨B.exec, B.bytes, hml, findClass_of_methodNamed B.named, fun w h => hts0 w (List.mem_cons_of_mem _ h)⟩, hK, hN, fun q h => Or.inr h⟩ (hin ▸ (name_of_methodNamed B.named B.method).1) ?_ _ (lv_entry av (n := nL) hlen) ⟨hP, hD0.self, va_S.rf⟩
  intro u H locs pc ls hq hw hd
  exact W.vret B.exec B.bytes B.returns (fun t ht hW => ⟨⟨u, rfl, hq, by rw [ht]; exact hw.1, hw.2.1⟩, hw.2.2.F ht⟩) hw.2.2.2.2 hd
section GN
variable {p : Program} {l : Launch} {e : Env} {R : Room} {s : State} {m : MethodId} {args : Array Value} {below : List Frame} {meth : Method} {c : Code} {H : Heap} {locs : List Loc} {cells slots : Nat} {Z : State → Prop}
variable {cc bytes : ByteArray} {nL maxL n pc mc ms : Nat} {rm : Room} {ls : Array Slot} {st rest As : List Value} {D : va_G} {A : Nat → Prop} {b a : Nat} {tys : List (ClassId × FieldType)} {w : va_W} {own host C : String} {index : Nat} {y : MethodName} {T : u_T} {N ci : Nat} {fs : List Value} {v : Value} {cI cZ : ClassId}
theorem g_obj (E : gE p m c cc nL s args own D tys A) (hl : Cond.methodLink own index objectInit ∈ gT) (hi : Cond.instanceMethod objectInit ∈ gT) (hc : Cond.code objectInit ⟨#[0xb1]⟩ 1 none ∈ gT) (hsize : ls.size = nL) (hdg : decode cc pc = .ok (.invokespecial index, 3)) (hf : 1 ≤ R.frames) (hlo : 12 ≤ R.locals)
    (kk : W p l e R s m args below meth c H locs cells slots Z (F0 m (pc + 3) ls [])) : W p l e R s m args below meth c H locs cells slots Z (F0 m pc ls [.ref a]) :=
  W.objInit E.1.1 E.1.2.1 E.1.2.2.2.1 (E.1.2.2.2.2 _ hl) (E.1.2.2.2.2 _ hi) (E.1.2.2.2.2 _ hc) rfl (by rw [E.1.2.2.1]; exact hsize) rfl hdg hf (by show 2 * 0 + 0 + 12 ≤ _; omega) kk
theorem g_putF (E : gE p m c cc nL s args own D tys A) (hw : gW D s A w H locs) (hin : ∀ x ∈ u_ws C T N, x ∈ gT) (ty0 : Nat → FieldType) (hty : ∀ k, k < N → parseFieldDescriptor (T k).2.2.1 = some (ty0 k)) (hnm : ∀ a, a < N → ∀ b, b < N → a ≠ b → (T a).2.1 ≠ (T b).2.1) (hmi : meth.name = "<init>") (q0 : Nat) (he : w[q0]? = some (a, .inr (ci, fs))) (hc : vwCl[ci]? = some (C, T, N)) (k : Nat) (hk : k < N) (hlink : Cond.fieldLink own index (T k).1 (T k).2.1 (T k).2.2.1 ∈ gT) (hfin : (T k).2.2.2 = true) (hdecl : (T k).1 = own) (ty : FieldType) (hd : parseFieldDescriptor (T k).2.2.1 = some ty) (hn : narrow ty v = v) (hfit : fits ty v = true) (hl : k < fs.length) (w' : va_W) (hw' : w.set q0 (a, .inr (ci, fs.set k v)) = w')
    (hdg : decode cc pc = .ok (.putfield index, 3)) (kk : ∀ (H1 : Heap) (locs1 : List Loc), gW D s A w' H1 locs1 → W p l e R s m args below meth c H1 locs1 cells slots Z (F0 m (pc + 3) ls rest)) : W p l e R s m args below meth c H locs cells slots Z (F0 m pc ls (v :: .ref a :: rest)) := by
  subst hw'
  exact va_putF E.1.1 E.1.2.1 E.1.2.2.2.2 hin ty0 hty hnm E.1.2.2.2.1 E.2.1 hw.1 hw.2.1 hw.2.2 q0 he hc k hk (E.1.2.2.2.2 _ hlink) (fun _ h9 => h9) hfin hmi hdecl hd hn hfit hl hdg (fun H1 locs1 h1 h2 h3 => kk H1 locs1 ⟨h1, h2, h3⟩)
theorem g_new (E : gE p m c cc nL s args own D tys A) (hw : gW D s A w H locs) (hin : ∀ x ∈ u_ws C T N, x ∈ gT) (ty : Nat → FieldType) (hty : ∀ k, k < N → parseFieldDescriptor (T k).2.2.1 = some (ty k)) (hcl : Cond.classLink own index C ∈ gT) (hinst : Cond.instantiable C N ∈ gT) (hini : Cond.initialized C ∈ gT) (hc : vwCl[ci]? = some (C, T, N)) (hfs : (List.range N).map (fun j => defaultValue (ty j)) = fs) (hcells : cells + 1 ≤ R.cells) (hslots : slots + N ≤ R.slots) (hdg : decode cc pc = .ok (.new index, 3))
    (kk : ∀ (q : Nat) (H1 : Heap) (locs1 : List Loc), gW D s A ((q, .inr (ci, fs)) :: w) H1 locs1 → W p l e R s m args below meth c H1 locs1 (cells + 1) (slots + N) Z (F0 m (pc + 3) ls (.ref q :: rest))) : W p l e R s m args below meth c H locs cells slots Z (F0 m pc ls rest) := by
  refine va_new (fs := fs) E.1.1 E.1.2.1 E.1.2.2.2.2 hin ty hty E.1.2.2.2.1 (E.1.2.2.2.2 _ hcl) (E.1.2.2.2.2 _ hinst) (E.1.2.2.2.2 _ hini) E.2.1 hw.1 hw.2.1 hw.2.2 E.2.2.2 hc (fun j hj => ?_) hcells hslots hdg (fun q H1 h1 h2 h3 => kk q H1 _ (gW.perm (List.perm_append_singleton _ _) ⟨h1, h2, h3⟩))
  subst hfs
  simp [vp_V, hj]
theorem g_newI (E : gE p m c cc nL s args own D [(cI, .int), (cZ, .boolean)] A) (hw : gW D s A w H locs) (ha : Cond.arrayClass .int ∈ gT) {k : Int32} (hk : ¬ k < 0) (hN : k.toNatClampNeg = N) (hbytes : N * 4 ≤ 536870912) (hcells : cells + 1 ≤ R.cells) (hslots : slots + N ≤ R.slots) (hdg : decode cc pc = .ok (.newarray .int, 2))
    (kk : ∀ (q : Nat) (H1 : Heap) (locs1 : List Loc), gW D s A ((q, .inl (cI, N, .inl (fun _ => 0))) :: w) H1 locs1 → W p l e R s m args below meth c H1 locs1 (cells + 1) (slots + N) Z (F0 m (pc + 2) ls (.ref q :: rest))) : W p l e R s m args below meth c H locs cells slots Z (F0 m pc ls (.int k :: rest)) := by
  refine va_newa (atype := .int) (ty := .int) (a0 := (N, .inl (fun _ => 0))) E.1.1 E.1.2.1 (E.1.2.2.2.2 _ ha) rfl E.2.1 hw.1 hw.2.1 hw.2.2 E.2.2.2 (fun cA => rfl) hk hN hbytes hcells hslots hdg (fun q cA H1 hK1 h1 h2 h3 => ?_)
  have e1 := (hK1.2 0 (cI, .int) rfl).2
  have e2 := (hK1.2 2 (cA, .int) rfl).2
  have e3 : cA = cI := Option.some.inj (e2.symm.trans e1)
  subst e3
  exact kk q H1 _ (gW.perm (List.perm_append_singleton _ _) ⟨h1, h2, h3⟩)
theorem g_newZ (E : gE p m c cc nL s args own D [(cI, .int), (cZ, .boolean)] A) (hw : gW D s A w H locs) (ha : Cond.arrayClass .boolean ∈ gT) {k : Int32} (hk : ¬ k < 0) (hN : k.toNatClampNeg = N) (hbytes : N * 1 ≤ 536870912) (hcells : cells + 1 ≤ R.cells) (hslots : slots + N ≤ R.slots) (hdg : decode cc pc = .ok (.newarray .boolean, 2))
    (kk : ∀ (q : Nat) (H1 : Heap) (locs1 : List Loc), gW D s A ((q, .inl (cZ, N, .inl (fun _ => 0))) :: w) H1 locs1 → W p l e R s m args below meth c H1 locs1 (cells + 1) (slots + N) Z (F0 m (pc + 2) ls (.ref q :: rest))) : W p l e R s m args below meth c H locs cells slots Z (F0 m pc ls (.int k :: rest)) := by
  refine va_newa (atype := .boolean) (ty := .boolean) (a0 := (N, .inl (fun _ => 0))) E.1.1 E.1.2.1 (E.1.2.2.2.2 _ ha) rfl E.2.1 hw.1 hw.2.1 hw.2.2 E.2.2.2 (fun cA => rfl) hk hN hbytes hcells hslots hdg (fun q cA H1 hK1 h1 h2 h3 => ?_)
  have e1 := (hK1.2 1 (cZ, .boolean) rfl).2
  have e2 := (hK1.2 2 (cA, .boolean) rfl).2
  have e3 : cA = cZ := Option.some.inj (e2.symm.trans e1)
  subst e3
  exact kk q H1 _ (gW.perm (List.perm_append_singleton _ _) ⟨h1, h2, h3⟩)
def mI (y : MethodName) (bytes : ByteArray) (maxL : Nat) (n : Nat) : Prop := Cond.instanceMethod y ∈ gT ∧ Cond.initialized y.cls ∈ gT ∧ Cond.code y bytes maxL none ∈ gT ∧ (y.cls ≠ "java/lang/invoke/MethodHandle" ∧ y.cls ≠ "java/lang/invoke/VarHandle" ∧ (parseMethodDescriptor y.desc).map (fun d => d.parameters.length) = some n)
theorem g_rI {Qc : Array Value → State → Outcome → State → Prop} (E : gE p m c cc nL s args own D tys A) (hw : gW D s A w H locs) (hM : Met l y (Cond.code y bytes maxL none :: gT) rm (va_Pc (.ref b :: As) (gPre D tys w H.size)) Qc mc ms (va_A w H.size)) (hy : mI y bytes maxL n) (hl : Cond.methodLink own index y ∈ gT) (hy1 : y.name = "<init>") (hz : rm.cells = mc ∧ rm.slots = ms) (hR : rm.frames + 1 ≤ R.frames ∧ 8 + (maxL + 11) + rm.locals ≤ R.locals) (hn : As.length = n) (hsize : ls.size = nL) (hst : st = As.reverse ++ .ref b :: rest) (hW : (rest.map fun v => v.category).sum ≤ 8) (hcs : cells + mc ≤ R.cells ∧ slots + ms ≤ R.slots) (hdg : decode cc pc = .ok (.invokespecial index, 3)) :
    va_Run p l e R s m args below meth c H locs cells slots mc ms (F0 m pc ls st) rest (Qc (Value.ref b :: As).toArray) (va_A w H.size) :=
  va_runI (As := As) (rest := rest) E.1 hM ⟨callB_of n E.1.2.2.2.2 (g_good hy.2.2.1) rfl hz.1 hz.2 (E.1.2.2.2.2 _ hy.2.1) (E.1.2.2.2.2 _ hl) hy.2.2.2 hR, hy1, E.1.2.2.2.2 _ hy.1⟩ ⟨gPre_blind, fun U hU hW => hw.pre E U hU hW⟩ rfl hn hsize hst (lv_room hW) hdg hcs
theorem g_rIN {Qc : Array Value → State → Outcome → State → Prop} (E : gE p m c cc nL s args own D tys A) (hw : gW D s A w H locs) (hM : Met l y (Cond.code y bytes maxL none :: gT) rm (va_Pc (.ref b :: As) (gPre D tys w H.size)) Qc mc ms (va_A w H.size)) (hy : mI y bytes maxL n) (hl : (own, index, y, host) ∈ nstM) (hy1 : y.name = "<init>") (hz : rm.cells = mc ∧ rm.slots = ms) (hR : rm.frames + 1 ≤ R.frames ∧ 8 + (maxL + 11) + rm.locals ≤ R.locals) (hn : As.length = n) (hsize : ls.size = nL) (hst : st = As.reverse ++ .ref b :: rest) (hW : (rest.map fun v => v.category).sum ≤ 8) (hcs : cells + mc ≤ R.cells ∧ slots + ms ≤ R.slots) (hdg : decode cc pc = .ok (.invokespecial index, 3)) :
    va_Run p l e R s m args below meth c H locs cells slots mc ms (F0 m pc ls st) rest (Qc (Value.ref b :: As).toArray) (va_A w H.size) :=
  va_runIN (As := As) (rest := rest) E.1 hM ⟨va_cnB n E.1.2.2.2.2 (g_good hy.2.2.1) rfl hz.1 hz.2 (E.2.2.1.2 _ hl) (E.1.2.2.2.2 _ hy.2.1) hy.2.2.2 hR, hy1, E.1.2.2.2.2 _ hy.1⟩ ⟨gPre_blind, fun U hU hW => hw.pre E U hU hW⟩ rfl hn hsize hst (lv_room hW) hdg hcs
variable {av : Array Value}
theorem g_aN {Q : va_W → Prop} (E : gE p m c cc nL s args own D tys A) (hw : gW D s A w H locs) (hr : va_Run p l e R s m args below meth c H locs cells slots mc ms (F0 m pc ls st) rest (va_Qv Q (gB D w H.size) (va_A w H.size) av) (va_A w H.size))
    (kk : ∀ (u : va_W) (H1 : Heap) (locs1 : List Loc), Q u → gW D s A u H1 locs1 → W p l e R s m args below meth c H1 locs1 (cells + mc) (slots + ms) Z (F0 m (pc + 3) ls rest)) : W p l e R s m args below meth c H locs cells slots Z (F0 m pc ls st) :=
  va_callv hr hw.2.2 (fun q _ h => hw.free E q h) (hw.free E) (fun u t H1 locs1 ht hvm hp hB hz hk hS1 => kk u H1 locs1 hp ⟨by rw [← ht]; exact hB.1, hB.2.weaken (fun k q _ h => hw.free E q.1 h), hS1⟩)
end GN
