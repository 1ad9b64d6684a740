/-! CONSTRUCTORS: worlds that grow at their end -/
theorem k_join {A0 : Nat → Prop} {D : va_G} {cl : List vw_C} {ws w1 : va_W} {x : Nat × va_E} {H H1 : Heap} (hP : va_P D cl (ws ++ [x]) H) (hD : va_D A0 (ws ++ [x]))
    (hk : ∀ q : Nat, q < H.size → ¬ va_A [x] H.size q → H1[q]? = H[q]?) (hF : ∀ q, va_A [x] H.size q → A0 q) (hP1 : va_P D cl w1 H1) (hD1 : va_D (va_A [x] H.size) w1) : va_P D cl (ws ++ w1) H1 ∧ va_D A0 (ws ++ w1) := by
  have left : ∀ (k : Nat) (q : Nat × va_E), ws[k]? = some q → (ws ++ [x])[k]? = some q := fun k q h => by
    rw [List.getElem?_append_left (List.getElem?_eq_some_iff.mp h).1]; exact h
  have last : (ws ++ [x])[ws.length]? = some x := by simp
  have apart : ∀ (k : Nat) (q : Nat × va_E), ws[k]? = some q → q.1 < H.size ∧ ¬ va_A [x] H.size q.1 := by
    intro k q hq
    have hl := (hP k q (left k q hq)).lt
    refine ⟨hl, fun h => ?_⟩
    rcases h with ⟨k2, e, h⟩ | h
    · have hz : k2 < 1 := (List.getElem?_eq_some_iff.mp h).1
      rw [show k2 = 0 by omega] at h
      have hx : x = (q.1, e) := Option.some.inj h
      have := hD.1 k ws.length q x (left k q hq) last (by rw [hx])
      have := (List.getElem?_eq_some_iff.mp hq).1
      omega
    · omega
  refine ⟨va_P.app (fun k q hq => ?_) hP1, va_D.app ⟨fun i j a b h1 h2 e => hD.1 i j a b (left i a h1) (left j b h2) e, fun k q h => hD.2 k q (left k q h)⟩ (hD1.weaken (fun k q _ h => hF q.1 h)) (fun i j a b ha hb hab => ?_)⟩
  · obtain ⟨g1, g2⟩ := apart k q hq
    exact (hP k q (left k q hq)).kept (hk q.1 g1 g2)
  · exact (apart i a ha).2 (by rw [hab]; exact hD1.2 j b hb)
def kN (U : State) : Prop := ∀ (o : String) (i : Nat) (y : MethodName) (h : String), Cond.methodLinkNest o i y h ∈ lw_tbl → va_Nw (.methodLinkNest o i y h) U
/-- what a constructor finds -/
def kPre (ty : Nat → ClassId) (D : va_G) (w0 : va_W) (sz : Nat) (U : State) : Prop := U.heap.size = sz ∧ va_P D vwCl w0 U.heap ∧ va_D (fun _ => True) w0 ∧ kN U ∧ va_AO "YieldLines$State" U ∧ va_K D vwCl (tys ty) U
/-- what it leaves: the world wf of some addresses -/
def kQA (D : va_G) (wf : (Nat → Nat) → va_W) (q : Nat) (A : Nat → Prop) : Array Value → State → Outcome → State → Prop := va_Qv (fun _ : Unit => True) (fun _ t => ∃ ad : Nat → Nat, ad 0 = q ∧ va_P D vwCl (wf ad) t.heap ∧ va_D A (wf ad)) A
def kWs (y : MethodName) (bytes : ByteArray) (maxL : Nat) : List Cond := .code y bytes maxL none :: lw_tbl.filter goodWord
def kMet (l : Launch) (y : MethodName) (bytes : ByteArray) (maxL : Nat) (rm : Room) (vs : List Value) (ci : Nat) (f0 : List Value) (wf : (Nat → ClassId) → (Nat → Nat) → va_W) : Prop :=
  ∀ (ty : Nat → ClassId) (D : va_G) (q sz : Nat), Met l y (kWs y bytes maxL) rm (va_Pc (.ref q :: vs) (kPre ty D [(q, .inr (ci, f0))] sz)) (kQA D (wf ty) q (va_A [(q, .inr (ci, f0))] sz)) rm.cells rm.slots (va_A [(q, .inr (ci, f0))] sz)
/-- the words of a constructor are in the tables -/
def kOk (y : MethodName) (bytes : ByteArray) (maxL n : Nat) : Prop := Cond.code y bytes maxL none ∈ lw_tbl ∧ Cond.instanceMethod y ∈ lw_tbl ∧ Cond.initialized y.cls ∈ lw_tbl ∧ (y.cls ≠ "java/lang/invoke/MethodHandle" ∧ y.cls ≠ "java/lang/invoke/VarHandle" ∧ (parseMethodDescriptor y.desc).map (fun d => d.parameters.length) = some n) ∧ y.name = "<init>"
/-- what holds of the machine in a body that makes -/
def kX (p : Program) (s : State) (m : MethodId) (args : Array Value) (c : Code) (own : String) (bytes : ByteArray) (maxL : Nat) (ty : Nat → ClassId) (D : va_G) : Prop :=
  p.tables.exec = Jvm.exec ∧ c.code = bytes ∧ c.maxLocals = maxL ∧ s.vm.findClass own = some m.cls ∧ (∀ w ∈ lw_tbl.filter goodWord, w.before args s = true) ∧ kN s ∧ va_K D vwCl (tys ty) s ∧ va_AO "YieldLines$State" s
theorem goodIn_kWs {y : MethodName} {bytes : ByteArray} {maxL n : Nat} (h : kOk y bytes maxL n) : GoodIn (lw_tbl.filter goodWord) (kWs y bytes maxL) := by
  intro w hw
  have h2 : w ∈ lw_tbl.filter goodWord := by
    rcases List.mem_cons.mp hw with rfl | hw
    · exact List.mem_filter.mpr ⟨h.1, rfl⟩
    · exact hw
  exact ⟨h2, good_of_word (List.mem_filter.mp h2).2⟩
theorem kPre_blind {vs : List Value} {ty : Nat → ClassId} {D : va_G} {w0 : va_W} {sz : Nat} : FrameBlind (va_Pc vs (kPre ty D w0 sz)) := by
  intro a U g mk q
  obtain ⟨q0, q1, qP, qD, qN, qA, qK⟩ := q
  exact ⟨q0, q1, qP, qD, fun o i y h hm => va_Nw.same rfl (u := U) (U := U.calling g mk a) rfl (qN o i y h hm), va_AO.moved (u := U) (U := U.calling g mk a) (Vm.Alike.refl U.vm) qA, va_K.moved (u := U) (U := U.calling g mk a) (Vm.Alike.refl U.vm) qK⟩
theorem kMet.of {l : Launch} {y : MethodName} {bytes : ByteArray} {maxL : Nat} {rm : Room} {vs : List Value} {ci : Nat} {f0 : List Value} {wf : (Nat → ClassId) → (Nat → Nat) → va_W} (hp : plainFor y = true) (hy : y.name = "<init>") (hn : ∀ q : Nat, (lg_sl (.ref q :: vs)).length ≤ maxL)
    (body : ∀ (p : Program) (e : Env) (s : State) (m : MethodId) (args : Array Value) (below : List Frame) (meth : Method) (c : Code) (ty : Nat → ClassId) (D : va_G) (q : Nat) (A : Nat → Prop) (ls : Array Slot), kX p s m args c y.cls bytes maxL ty D → meth.name = "<init>" → meth.sig.returnType = none → meth.locks = false → (∀ x : Nat, s.heap.size ≤ x → A x) → va_P D vwCl [(q, .inr (ci, f0))] s.heap → va_D A [(q, .inr (ci, f0))] → va_S A s.heap s.heap [] → lv_has ls maxL (lv_args 0 (.ref q :: vs)) →
      W p l e rm s m args below meth c s.heap [] 0 0 (MQ below (kQA D (wf ty) q A) args s rm.cells rm.slots A) (F0 m 0 ls [])) : kMet l y bytes maxL rm vs ci f0 wf := by
  intro ty D q sz
  refine met_ofWF (cc := bytes) (maxL := maxL) (ret := none) hp rfl ?_
  intro p e s m args below meth c s₁ B hml hv
  obtain ⟨rfl, rfl, hP, hD, hN, hO, hK⟩ := hv
  have hts := atoms_spec (ws := kWs y bytes maxL) B.pre
  have hin : meth.name = "<init>" := ((name_of_methodNamed B.named B.method).1).trans hy
  have hl := lv_entry (.ref q :: vs) (n := maxL) (hn q)
  rw [lg_entry_eq]
  exact body p e s m _ below meth c ty D q (va_A [(q, .inr (ci, f0))] s.heap.size) _ ⟨B.exec, B.bytes, hml, findClass_of_methodNamed B.named, fun w hw => hts w (List.mem_cons_of_mem _ hw), hN, hK, hO⟩ hin B.returns B.notSynchronized (fun x h => Or.inr h) hP hD.self va_S.rf hl
section KB
variable {p : Program} {l : Launch} {e : Env} {R : Room} {s : State} {m : MethodId} {args : Array Value} {below : List Frame} {meth : Method} {c : Code} {H : Heap} {locs : List Loc} {cells slots : Nat} {Q : State → Prop} {pc : Nat} {ls : Array Slot} {rest : List Value} {own : String} {bytes : ByteArray} {maxL : Nat} {ty : Nat → ClassId} {D : va_G} {A : Nat → Prop} {ws : va_W}
theorem kX.w {w : Cond} (X : kX p s m args c own bytes maxL ty D) (h : w ∈ lw_tbl) (hg : goodWord w = true) : w.before args s = true := X.2.2.2.2.1 w (List.mem_filter.mpr ⟨h, hg⟩)
theorem k_newI (X : kX p s m args c own bytes maxL ty D) (hP : va_P D vwCl ws H) (hD : va_D A ws) (hS : va_S A s.heap H locs) (hA : ∀ q : Nat, s.heap.size ≤ q → A q) {v : Int32} {n : Nat} (hn : v = nI n) (hn2 : n < 1000) (hc : cells + 1 ≤ R.cells) (hs : slots + n ≤ R.slots) (hd : decode bytes pc = .ok (.newarray .int, 2))
    (kk : ∀ (q : Nat) (H1 : Heap), va_P D vwCl (ws ++ [(q, .inl (ty 0, n, .inl (fun _ => 0)))]) H1 → va_D A (ws ++ [(q, .inl (ty 0, n, .inl (fun _ => 0)))]) → va_S A s.heap H1 locs → W p l e R s m args below meth c H1 locs (cells + 1) (slots + n) Q (F0 m (pc + 2) ls (.ref q :: rest))) : W p l e R s m args below meth c H locs cells slots Q (F0 m pc ls (.int v :: rest)) := by
  refine va_newa (atype := .int) X.1 X.2.1 (X.w (mem_at (p := 165) (by decide +kernel)) rfl) rfl X.2.2.2.2.2.2.1 hP hD hS hA (a0 := (n, .inl (fun _ => 0))) (fun cA => rfl) (by rw [hn]; exact nI_pos (by omega)) (by rw [hn]; exact nI_clamp (by omega)) (by show n * 4 ≤ 536870912; omega) hc hs hd (fun q cA H1 hK hP1 hD1 hS1 => ?_)
  have h1 : s.vm.findClass ("[" ++ (FieldType.int).toString) = some (ty 0) := (hK.2 0 (ty 0, .int) rfl).2
  have h2 : s.vm.findClass ("[" ++ (FieldType.int).toString) = some cA := (hK.2 3 (cA, .int) rfl).2
  have e : cA = ty 0 := Option.some.inj (h2.symm.trans h1)
  subst e
  exact kk q H1 hP1 hD1 hS1
theorem k_newZ (X : kX p s m args c own bytes maxL ty D) (hP : va_P D vwCl ws H) (hD : va_D A ws) (hS : va_S A s.heap H locs) (hA : ∀ q : Nat, s.heap.size ≤ q → A q) {v : Int32} {n : Nat} (hn : v = nI n) (hn2 : n < 1000) (hc : cells + 1 ≤ R.cells) (hs : slots + n ≤ R.slots) (hd : decode bytes pc = .ok (.newarray .boolean, 2))
    (kk : ∀ (q : Nat) (H1 : Heap), va_P D vwCl (ws ++ [(q, .inl (ty 1, n, .inl (fun _ => 0)))]) H1 → va_D A (ws ++ [(q, .inl (ty 1, n, .inl (fun _ => 0)))]) → va_S A s.heap H1 locs → W p l e R s m args below meth c H1 locs (cells + 1) (slots + n) Q (F0 m (pc + 2) ls (.ref q :: rest))) : W p l e R s m args below meth c H locs cells slots Q (F0 m pc ls (.int v :: rest)) := by
  refine va_newa (atype := .boolean) X.1 X.2.1 (X.w (mem_at (p := 776) (by decide +kernel)) rfl) rfl X.2.2.2.2.2.2.1 hP hD hS hA (a0 := (n, .inl (fun _ => 0))) (fun cA => rfl) (by rw [hn]; exact nI_pos (by omega)) (by rw [hn]; exact nI_clamp (by omega)) (by show n * 1 ≤ 536870912; omega) hc hs hd (fun q cA H1 hK hP1 hD1 hS1 => ?_)
  have h1 : s.vm.findClass ("[" ++ (FieldType.boolean).toString) = some (ty 1) := (hK.2 1 (ty 1, .boolean) rfl).2
  have h2 : s.vm.findClass ("[" ++ (FieldType.boolean).toString) = some cA := (hK.2 3 (cA, .boolean) rfl).2
  have e : cA = ty 1 := Option.some.inj (h2.symm.trans h1)
  subst e
  exact kk q H1 hP1 hD1 hS1
theorem k_newQ {i : Nat} (X : kX p s m args c own bytes maxL ty D) (hP : va_P D vwCl ws H) (hD : va_D A ws) (hS : va_S A s.heap H locs) (hA : ∀ q : Nat, s.heap.size ≤ q → A q) {v : Int32} {n : Nat} (hn : v = nI n) (hn2 : n < 1000) (hc : cells + 1 ≤ R.cells) (hs : slots + n ≤ R.slots) (hlk : Cond.classLink own i "YieldLines$State" ∈ lw_tbl) (hd : decode bytes pc = .ok (.anewarray i, 3))
    (kk : ∀ (q : Nat) (H1 : Heap), va_P D vwCl (ws ++ [(q, .inl (ty 2, n, .inr (.inr (.inr (.inr (fun _ => none))))))]) H1 → va_D A (ws ++ [(q, .inl (ty 2, n, .inr (.inr (.inr (.inr (fun _ => none))))))]) → va_S A s.heap H1 locs → W p l e R s m args below meth c H1 locs (cells + 1) (slots + n) Q (F0 m (pc + 3) ls (.ref q :: rest))) : W p l e R s m args below meth c H locs cells slots Q (F0 m pc ls (.int v :: rest)) := by
  refine va_newq X.1 X.2.1 X.2.2.2.1 (X.w hlk rfl) X.2.2.2.2.2.2.2 X.2.2.2.2.2.2.1 hP hD hS hA (by rw [hn]; exact nI_pos (by omega)) (by rw [hn]; exact nI_clamp (by omega)) (by omega) hc hs hd (fun q cA H1 hK hP1 hD1 hS1 => ?_)
  obtain ⟨_, _, _, _, _, h1⟩ := (hK.2 2 (ty 2, .object "YieldLines$State") rfl).2
  obtain ⟨_, _, _, _, _, h2⟩ := (hK.2 3 (cA, .object "YieldLines$State") rfl).2
  have e : cA = ty 2 := Option.some.inj (h2.symm.trans h1)
  subst e
  exact kk q H1 hP1 hD1 hS1
theorem k_put {ci k i h0 v : Nat} {fs : List Value} {R0 : va_W} {C : String} {T : u_T} {N : Nat} {t : FieldType} (X : kX p s m args c own bytes maxL ty D) (hin : meth.name = "<init>") (hcl : vwCl[ci]? = some (C, T, N)) (hP : va_P D vwCl ((h0, .inr (ci, fs)) :: R0) H) (hD : va_D A ((h0, .inr (ci, fs)) :: R0)) (hS : va_S A s.heap H locs) (hk : k < N) (hlk : Cond.fieldLink own i (T k).1 (T k).2.1 (T k).2.2.1 ∈ lw_tbl) (hfin : (T k).2.2.2 = true) (hdecl : (T k).1 = own) (ht : parseFieldDescriptor (T k).2.2.1 = some t) (hn : narrow t (.ref v) = .ref v) (hf : fits t (.ref v) = true) (hl : k < fs.length) (hd : decode bytes pc = .ok (.putfield i, 3))
    (kk : ∀ (H1 : Heap) (locs1 : List Loc), va_P D vwCl ((h0, .inr (ci, fs.set k (.ref v))) :: R0) H1 → va_D A ((h0, .inr (ci, fs.set k (.ref v))) :: R0) → va_S A s.heap H1 locs1 → W p l e R s m args below meth c H1 locs1 cells slots Q (F0 m (pc + 3) ls rest)) : W p l e R s m args below meth c H locs cells slots Q (F0 m pc ls (.ref v :: .ref h0 :: rest)) := by
  obtain ⟨h1, h2, h3, ty0, h4⟩ := cl_ok hcl
  exact va_putF (v := .ref v) (ty := t) X.1 X.2.1 X.2.2.2.2.1 (filt_in h2) ty0 h4 h3 X.2.2.2.1 X.2.2.2.2.2.2.1 hP hD hS 0 rfl hcl k hk (X.w hlk rfl) (fun _ h9 => h9) hfin hin hdecl ht hn hf hl hd (fun H1 locs1 hP1 hD1 hS1 => kk H1 locs1 hP1 hD1 hS1)
theorem k_putI {ci k i h0 : Nat} {x : Int32} {fs : List Value} {R0 : va_W} {C : String} {T : u_T} {N : Nat} (X : kX p s m args c own bytes maxL ty D) (hcl : vwCl[ci]? = some (C, T, N)) (hP : va_P D vwCl ((h0, .inr (ci, fs)) :: R0) H) (hD : va_D A ((h0, .inr (ci, fs)) :: R0)) (hS : va_S A s.heap H locs) (hk : k < N) (hlk : Cond.fieldLink own i (T k).1 (T k).2.1 (T k).2.2.1 ∈ lw_tbl) (hfin : (T k).2.2.2 = false) (ht : parseFieldDescriptor (T k).2.2.1 = some .int) (hl : k < fs.length) (hd : decode bytes pc = .ok (.putfield i, 3))
    (kk : ∀ (H1 : Heap) (locs1 : List Loc), va_P D vwCl ((h0, .inr (ci, fs.set k (.int x))) :: R0) H1 → va_D A ((h0, .inr (ci, fs.set k (.int x))) :: R0) → va_S A s.heap H1 locs1 → W p l e R s m args below meth c H1 locs1 cells slots Q (F0 m (pc + 3) ls rest)) : W p l e R s m args below meth c H locs cells slots Q (F0 m pc ls (.int x :: .ref h0 :: rest)) := by
  obtain ⟨h1, h2, h3, ty0, h4⟩ := cl_ok hcl
  exact va_put (v := .int x) (ty := .int) X.1 X.2.1 X.2.2.2.2.1 (filt_in h2) ty0 h4 h3 X.2.2.2.1 X.2.2.2.2.2.2.1 hP hD hS 0 rfl hcl k hk (X.w hlk rfl) (fun _ h9 => h9) hfin ht rfl rfl hl hd (fun H1 locs1 hP1 hD1 hS1 => kk H1 locs1 hP1 hD1 hS1)
theorem k_new {ci i : Nat} {C : String} {T : u_T} {N : Nat} {fs : List Value} (ty0 : Nat → FieldType) (X : kX p s m args c own bytes maxL ty D) (hcl : vwCl[ci]? = some (C, T, N)) (h0 : ∀ k, k < N → parseFieldDescriptor (T k).2.2.1 = some (ty0 k)) (hlk : Cond.classLink own i C ∈ lw_tbl) (hinst : Cond.instantiable C N ∈ lw_tbl) (hini : Cond.initialized C ∈ lw_tbl) (hP : va_P D vwCl ws H) (hD : va_D A ws) (hS : va_S A s.heap H locs) (hA : ∀ q : Nat, s.heap.size ≤ q → A q) (hfs : ∀ j, j < N → defaultValue (ty0 j) = vp_V fs j) (hc : cells + 1 ≤ R.cells) (hs : slots + N ≤ R.slots) (hd : decode bytes pc = .ok (.new i, 3))
    (kk : ∀ (q : Nat) (H1 : Heap), va_P D vwCl (ws ++ [(q, .inr (ci, fs))]) H1 → va_D A (ws ++ [(q, .inr (ci, fs))]) → va_S A s.heap H1 locs → W p l e R s m args below meth c H1 locs (cells + 1) (slots + N) Q (F0 m (pc + 3) ls (.ref q :: rest))) : W p l e R s m args below meth c H locs cells slots Q (F0 m pc ls rest) := by
  obtain ⟨h1, h2, h3, _, h4⟩ := cl_ok hcl
  exact va_new (ci := ci) (fs := fs) (C := C) (T := T) (N := N) X.1 X.2.1 X.2.2.2.2.1 (filt_in h2) ty0 h0 X.2.2.2.1 (X.w hlk rfl) (X.w hinst rfl) (X.w hini rfl) X.2.2.2.2.2.2.1 hP hD hS hA hcl hfs hc hs hd kk
theorem k_obj {i a : Nat} (X : kX p s m args c own bytes maxL ty D) (hlk : Cond.methodLink own i objectInit ∈ lw_tbl) (hsz : ls.size = maxL) (hf : 1 ≤ R.frames) (hlo : 12 ≤ R.locals) (hd : decode bytes pc = .ok (.invokespecial i, 3)) (kk : W p l e R s m args below meth c H locs cells slots Q (F0 m (pc + 3) ls [])) : W p l e R s m args below meth c H locs cells slots Q (F0 m pc ls [.ref a]) := by
  refine W.objInit X.1 X.2.1 X.2.2.2.1 (X.w hlk rfl) (X.w (mem_at (p := 98) (by decide +kernel)) rfl) (X.w (mem_at (p := 99) (by decide +kernel)) rfl) rfl (by rw [X.2.2.1]; exact hsz) rfl hd hf (by show 2 * 0 + 0 + 12 ≤ R.locals; omega) ?_
  exact W.eq (g2 := F0 m (pc + 3) ls []) rfl kk
/-- a constructor is called -/
theorem k_callN {y : MethodName} {by2 : ByteArray} {mL n i q ci : Nat} {rm : Room} {vs f0 : List Value} {ho : String} {wf : (Nat → ClassId) → (Nat → Nat) → va_W} (X : kX p s m args c own bytes maxL ty D) (hM : kMet l y by2 mL rm vs ci f0 wf) (ck : kOk y by2 mL n) (hlk : Cond.methodLinkNest own i y ho ∈ lw_tbl) (hP : va_P D vwCl (ws ++ [(q, .inr (ci, f0))]) H) (hD : va_D A (ws ++ [(q, .inr (ci, f0))])) (hS : va_S A s.heap H locs) (hA : ∀ q : Nat, s.heap.size ≤ q → A q) (hn : vs.length = n) (hR : rm.frames + 1 ≤ R.frames ∧ 8 + (mL + 11) + rm.locals ≤ R.locals) (hsz : ls.size = maxL) (hc : (rest.map fun v => v.category).sum ≤ 8) (hf : cells + rm.cells ≤ R.cells ∧ slots + rm.slots ≤ R.slots) (hd : decode bytes pc = .ok (.invokespecial i, 3))
    (kk : ∀ (ad : Nat → Nat) (H1 : Heap) (locs1 : List Loc), ad 0 = q → va_P D vwCl (ws ++ wf ty ad) H1 → va_D A (ws ++ wf ty ad) → va_S A s.heap H1 locs1 → W p l e R s m args below meth c H1 locs1 (cells + rm.cells) (slots + rm.slots) Q (F0 m (pc + 3) ls rest)) : W p l e R s m args below meth c H locs cells slots Q (F0 m pc ls (vs.reverse ++ .ref q :: rest)) := by
  have cw := va_cnB (R := R) (rm := rm) (args := args) (s := s) n X.2.2.2.2.1 (goodIn_kWs ck) rfl rfl rfl (X.2.2.2.2.2.1 _ _ _ _ hlk) (X.w ck.2.2.1 rfl) ck.2.2.2.1 hR
  have last : (ws ++ [(q, (.inr (ci, f0) : va_E))])[ws.length]? = some (q, .inr (ci, f0)) := by simp
  have hPc : va_P D vwCl [(q, .inr (ci, f0))] H := fun k x hx => by
    have hz : k < 1 := (List.getElem?_eq_some_iff.mp hx).1
    rw [show k = 0 by omega] at hx
    cases hx
    exact hP ws.length _ last
  have hDc : va_D (fun _ => True) [(q, (.inr (ci, f0) : va_E))] := ⟨fun i j a b ha hb _ => by
    have := (List.getElem?_eq_some_iff.mp ha).1
    have := (List.getElem?_eq_some_iff.mp hb).1
    simp at *
    omega, fun _ _ _ => trivial⟩
  have hFc : ∀ x, va_A [(q, (.inr (ci, f0) : va_E))] H.size x → A x := va_free hD hS hA [ws.length] (by simp)
  refine va_callv (va_runIN (As := vs) (rest := rest) ⟨X.1, X.2.1, X.2.2.1, X.2.2.2.1, X.2.2.2.2.1⟩ (hM ty D q H.size) ⟨cw, ck.2.2.2.2, X.w ck.2.1 rfl⟩ ⟨kPre_blind, fun U hU hW => ⟨rfl, by rw [hU], by rw [hU]; exact hPc, hDc, fun o i y h hm => va_Nw.warmM hW (X.2.2.2.2.2.1 o i y h hm), va_AO.moved hW.alike X.2.2.2.2.2.2.2, va_K.moved hW.alike X.2.2.2.2.2.2.1⟩⟩ rfl hn hsz rfl (lv_room hc) hd hf) hS (fun x _ h => hFc x h) hFc (fun u t H1 locs1 ht hvm hw hB hz1 hk1 hS1 => ?_)
  obtain ⟨ad, had, hP1, hD1⟩ := hB
  rw [ht] at hP1
  obtain ⟨hP2, hD2⟩ := k_join hP hD hk1 hFc hP1 hD1
  exact kk ad H1 locs1 had hP2 hD2 hS1
theorem k_callL {y : MethodName} {by2 : ByteArray} {mL n i q ci : Nat} {rm : Room} {vs f0 : List Value} {wf : (Nat → ClassId) → (Nat → Nat) → va_W} (X : kX p s m args c own bytes maxL ty D) (hM : kMet l y by2 mL rm vs ci f0 wf) (ck : kOk y by2 mL n) (hlk : Cond.methodLink own i y ∈ lw_tbl) (hP : va_P D vwCl (ws ++ [(q, .inr (ci, f0))]) H) (hD : va_D A (ws ++ [(q, .inr (ci, f0))])) (hS : va_S A s.heap H locs) (hA : ∀ q : Nat, s.heap.size ≤ q → A q) (hn : vs.length = n) (hR : rm.frames + 1 ≤ R.frames ∧ 8 + (mL + 11) + rm.locals ≤ R.locals) (hsz : ls.size = maxL) (hc : (rest.map fun v => v.category).sum ≤ 8) (hf : cells + rm.cells ≤ R.cells ∧ slots + rm.slots ≤ R.slots) (hd : decode bytes pc = .ok (.invokespecial i, 3))
    (kk : ∀ (ad : Nat → Nat) (H1 : Heap) (locs1 : List Loc), ad 0 = q → va_P D vwCl (ws ++ wf ty ad) H1 → va_D A (ws ++ wf ty ad) → va_S A s.heap H1 locs1 → W p l e R s m args below meth c H1 locs1 (cells + rm.cells) (slots + rm.slots) Q (F0 m (pc + 3) ls rest)) : W p l e R s m args below meth c H locs cells slots Q (F0 m pc ls (vs.reverse ++ .ref q :: rest)) := by
  have cw := cwI (R := R) (rm := rm) (args := args) (s := s) n X.2.2.2.2.1 (goodIn_kWs ck) rfl rfl rfl (X.w ck.2.2.1 rfl) (X.w hlk rfl) (X.w ck.2.1 rfl) ck.2.2.2.2 ck.2.2.2.1 hR
  have last : (ws ++ [(q, (.inr (ci, f0) : va_E))])[ws.length]? = some (q, .inr (ci, f0)) := by simp
  have hPc : va_P D vwCl [(q, .inr (ci, f0))] H := fun k x hx => by
    have hz : k < 1 := (List.getElem?_eq_some_iff.mp hx).1
    rw [show k = 0 by omega] at hx
    cases hx
    exact hP ws.length _ last
  have hDc : va_D (fun _ => True) [(q, (.inr (ci, f0) : va_E))] := ⟨fun i j a b ha hb _ => by
    have := (List.getElem?_eq_some_iff.mp ha).1
    have := (List.getElem?_eq_some_iff.mp hb).1
    simp at *
    omega, fun _ _ _ => trivial⟩
  have hFc : ∀ x, va_A [(q, (.inr (ci, f0) : va_E))] H.size x → A x := va_free hD hS hA [ws.length] (by simp)
  refine va_callv (va_runI (As := vs) (rest := rest) ⟨X.1, X.2.1, X.2.2.1, X.2.2.2.1, X.2.2.2.2.1⟩ (hM ty D q H.size) cw ⟨kPre_blind, fun U hU hW => ⟨rfl, by rw [hU], by rw [hU]; exact hPc, hDc, fun o i y h hm => va_Nw.warmM hW (X.2.2.2.2.2.1 o i y h hm), va_AO.moved hW.alike X.2.2.2.2.2.2.2, va_K.moved hW.alike X.2.2.2.2.2.2.1⟩⟩ rfl hn hsz rfl (lv_room hc) hd hf) hS (fun x _ h => hFc x h) hFc (fun u t H1 locs1 ht hvm hw hB hz1 hk1 hS1 => ?_)
  obtain ⟨ad, had, hP1, hD1⟩ := hB
  rw [ht] at hP1
  obtain ⟨hP2, hD2⟩ := k_join hP hD hk1 hFc hP1 hD1
  exact kk ad H1 locs1 had hP2 hD2 hS1
theorem k_ret {q : Nat} {ad : Nat → Nat} {wf : (Nat → Nat) → va_W} (X : kX p s m args c own bytes maxL ty D) (hr : meth.sig.returnType = none) (hlocks : meth.locks = false) (had : ad 0 = q) (hP : va_P D vwCl (wf ad) H) (hD : va_D A (wf ad)) (hS : va_S A s.heap H locs) (hd : decode bytes pc = .ok (.return_, 1)) : W p l e R s m args below meth c H locs cells slots (MQ below (kQA D wf q A) args s cells slots A) (F0 m pc ls []) :=
  W.vret X.1 X.2.1 hr (fun t e1 hW => ⟨⟨(), rfl, trivial, ad, had, by rw [e1]; exact hP, hD⟩, hS.F e1⟩) hS.2.2 hd hlocks
end KB
