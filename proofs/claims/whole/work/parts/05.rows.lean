/-! THE JUDGEMENT: from a place of a method, with these locals, this stack and this state, the method comes to its end with Q; at most d frames deep -/
def tys (ty : Nat → ClassId) : List (ClassId × FieldType) := [(ty 0, .int), (ty 1, .boolean), (ty 2, .object "YieldLines$State")]
def yRm (d : Nat) : Room := { frames := d, cells := 0, slots := 0, locals := 40 * d }
/-- what holds of the machine in a method's body -/
def yX (p : Program) (s : State) (m : MethodId) (args : Array Value) (meth : Method) (c : Code) (mi : Nat) (ty : Nat → ClassId) (D : va_G) : Prop :=
  p.tables.exec = Jvm.exec ∧ c.code = yB mi ∧ meth.sig.returnType = yT mi ∧ c.maxLocals = yL mi ∧ s.vm.findClass (yN mi).cls = some m.cls ∧ (∀ w ∈ lw_tbl, goodWord w = true → w.before args s = true) ∧ (∀ (o : String) (i : Nat) (y : MethodName) (h : String), Cond.methodLinkNest o i y h ∈ lw_tbl → va_Nw (.methodLinkNest o i y h) s) ∧ meth.locks = false ∧ va_K D vwCl (tys ty) s
/-- a method's end -/
def yQ (ad : Nat → Nat) (ty : Nat → ClassId) (D : va_G) (A : Nat → Prop) (Q : Option Value → yS → Prop) : Array Value → State → Outcome → State → Prop := fun _ st oc t =>
  (∃ (r : Option Value) (σ : yS), oc = .returned (r.map (cv ad)) ∧ Q r σ ∧ va_P D vwCl (wd ad ty σ) t.heap ∧ va_D A (wd ad ty σ)) ∧ va_F A st t
def yR (d mi pc : Nat) (L : List (Option Value)) (st : List Value) (σ : yS) (Q : Option Value → yS → Prop) : Prop :=
  ∀ (l : Launch) (p : Program) (e : Env) (s : State) (m : MethodId) (args : Array Value) (below : List Frame) (meth : Method) (c : Code) (ad : Nat → Nat) (ty : Nat → ClassId) (D : va_G) (A : Nat → Prop) (H : Heap) (locs : List Loc) (ls : Array Slot),
    yX p s m args meth c mi ty D → va_P D vwCl (wd ad ty σ) H → va_D A (wd ad ty σ) → va_S A s.heap H locs → yLs ad ls (yL mi) L →
    W p l e (yRm d) s m args below meth c H locs 0 0 (MQ below (yQ ad ty D A Q) args s 0 0 A) (F0 m pc ls (st.map (cv ad)))
theorem yR.mono {d mi pc : Nat} {L : List (Option Value)} {st : List Value} {σ : yS} {Q Q' : Option Value → yS → Prop} (h : yR d mi pc L st σ Q) (hq : ∀ r τ, Q r τ → Q' r τ) : yR d mi pc L st σ Q' := by
  intro l p e s m args below meth c ad ty D A H locs ls X hP hD hS hl T hT X0
  obtain ⟨t, a1, o, b1, b2, ⟨⟨r, τ, c1, c2, c3⟩, c4⟩, b4⟩ := h l p e s m args below meth c ad ty D A H locs ls X hP hD hS hl T hT X0
  exact ⟨t, a1, o, b1, b2, ⟨⟨r, τ, c1, hq r τ c2, c3⟩, c4⟩, b4⟩
section YR
variable {d mi pc : Nat} {L : List (Option Value)} {r : List Value} {σ : yS} {Q : Option Value → yS → Prop}
theorem yr_iconst {n : Int} {v : Int32} (hd : decode (yB mi) pc = .ok (.iconst n, 1)) (hv : Int32.ofInt n = v) (h : yR d mi (pc + 1) L (.int v :: r) σ Q) : yR d mi pc L r σ Q := by
  intro l p e s m args below meth c ad ty D A H locs ls X hP hD hS hl
  exact lv_iconst X.1 X.2.1 hd hv (h l p e s m args below meth c ad ty D A H locs ls X hP hD hS hl)
theorem yr_bipush {n : Int} {v : Int32} (hd : decode (yB mi) pc = .ok (.bipush n, 2)) (hv : (Int8.ofInt n).toInt32 = v) (h : yR d mi (pc + 2) L (.int v :: r) σ Q) : yR d mi pc L r σ Q := by
  intro l p e s m args below meth c ad ty D A H locs ls X hP hD hS hl
  exact lv_bipush X.1 X.2.1 hd hv (h l p e s m args below meth c ad ty D A H locs ls X hP hD hS hl)
theorem yr_sipush {n : Int} {v : Int32} (hd : decode (yB mi) pc = .ok (.sipush n, 3)) (hv : (Int16.ofInt n).toInt32 = v) (h : yR d mi (pc + 3) L (.int v :: r) σ Q) : yR d mi pc L r σ Q := by
  intro l p e s m args below meth c ad ty D A H locs ls X hP hD hS hl
  exact lv_sipush X.1 X.2.1 hd hv (h l p e s m args below meth c ad ty D A H locs ls X hP hD hS hl)
theorem yr_ldc {i : Nat} {v : Int32} (hd : decode (yB mi) pc = .ok (.ldc i, 2)) (hv : Cond.constant (yN mi).cls i v ∈ lw_tbl) (h : yR d mi (pc + 2) L (.int v :: r) σ Q) : yR d mi pc L r σ Q := by
  intro l p e s m args below meth c ad ty D A H locs ls X hP hD hS hl
  exact lv_ldc X.1 X.2.1 X.2.2.2.2.1 (X.2.2.2.2.2.1 _ hv rfl) hd (h l p e s m args below meth c ad ty D A H locs ls X hP hD hS hl)
theorem yr_ldc2 {i : Nat} {v : Int64} (hd : decode (yB mi) pc = .ok (.ldc2_w i, 3)) (hv : Cond.constantLong (yN mi).cls i v ∈ lw_tbl) (h : yR d mi (pc + 3) L (.long v :: r) σ Q) : yR d mi pc L r σ Q := by
  intro l p e s m args below meth c ad ty D A H locs ls X hP hD hS hl
  exact lv_ldc2 X.1 X.2.1 X.2.2.2.2.1 (X.2.2.2.2.2.1 _ hv rfl) hd (h l p e s m args below meth c ad ty D A H locs ls X hP hD hS hl)
theorem yr_iload_n {k : Fin 4} {x : Int32} (hd : decode (yB mi) pc = .ok (.iload_n k, 1)) (hv : L[(k : Nat)]? = some (some (.int x))) (h : yR d mi (pc + 1) L (.int x :: r) σ Q) : yR d mi pc L r σ Q := by
  intro l p e s m args below meth c ad ty D A H locs ls X hP hD hS hl
  exact lv_iload_n X.1 X.2.1 hd rfl (hl.2.2 _ _ hv) (h l p e s m args below meth c ad ty D A H locs ls X hP hD hS hl)
theorem yr_iload {k : Nat} {x : Int32} (hd : decode (yB mi) pc = .ok (.iload k, 2)) (hv : L[k]? = some (some (.int x))) (h : yR d mi (pc + 2) L (.int x :: r) σ Q) : yR d mi pc L r σ Q := by
  intro l p e s m args below meth c ad ty D A H locs ls X hP hD hS hl
  exact lv_iload X.1 X.2.1 hd (hl.2.2 _ _ hv) (h l p e s m args below meth c ad ty D A H locs ls X hP hD hS hl)
theorem yr_lload_n {k : Fin 4} {x : Int64} (hd : decode (yB mi) pc = .ok (.lload_n k, 1)) (hv : L[(k : Nat)]? = some (some (.long x))) (h : yR d mi (pc + 1) L (.long x :: r) σ Q) : yR d mi pc L r σ Q := by
  intro l p e s m args below meth c ad ty D A H locs ls X hP hD hS hl
  exact lv_lload_n X.1 X.2.1 hd rfl (hl.2.2 _ _ hv) (h l p e s m args below meth c ad ty D A H locs ls X hP hD hS hl)
theorem yr_lload {k : Nat} {x : Int64} (hd : decode (yB mi) pc = .ok (.lload k, 2)) (hv : L[k]? = some (some (.long x))) (h : yR d mi (pc + 2) L (.long x :: r) σ Q) : yR d mi pc L r σ Q := by
  intro l p e s m args below meth c ad ty D A H locs ls X hP hD hS hl
  exact lv_lload X.1 X.2.1 hd (hl.2.2 _ _ hv) (h l p e s m args below meth c ad ty D A H locs ls X hP hD hS hl)
theorem yr_aload_n {k : Fin 4} {x : Nat} (hd : decode (yB mi) pc = .ok (.aload_n k, 1)) (hv : L[(k : Nat)]? = some (some (.ref x))) (h : yR d mi (pc + 1) L (.ref x :: r) σ Q) : yR d mi pc L r σ Q := by
  intro l p e s m args below meth c ad ty D A H locs ls X hP hD hS hl
  exact lv_aload_n X.1 X.2.1 hd rfl (hl.2.2 _ _ hv) (h l p e s m args below meth c ad ty D A H locs ls X hP hD hS hl)
theorem yr_istore_n {k : Fin 4} {x : Int32} (hd : decode (yB mi) pc = .ok (.istore_n k, 1)) (hk : (k : Nat) < yL mi) (hok : okAt L k = true) (h : yR d mi (pc + 1) (L.set k (some (.int x))) r σ Q) : yR d mi pc L (.int x :: r) σ Q := by
  intro l p e s m args below meth c ad ty D A H locs ls X hP hD hS hl
  exact lv_istore_n X.1 X.2.1 hd rfl hl.has hk rfl (fun ls' hl' => h l p e s m args below meth c ad ty D A H locs ls' X hP hD hS (yLs.store (v := .int x) hok hl'))
theorem yr_istore {k : Nat} {x : Int32} (hd : decode (yB mi) pc = .ok (.istore k, 2)) (hk : k < yL mi) (hok : okAt L k = true) (h : yR d mi (pc + 2) (L.set k (some (.int x))) r σ Q) : yR d mi pc L (.int x :: r) σ Q := by
  intro l p e s m args below meth c ad ty D A H locs ls X hP hD hS hl
  exact lv_istore X.1 X.2.1 hd hl.has hk rfl (fun ls' hl' => h l p e s m args below meth c ad ty D A H locs ls' X hP hD hS (yLs.store (v := .int x) hok hl'))
theorem yr_astore_n {k : Fin 4} {x : Nat} (hd : decode (yB mi) pc = .ok (.astore_n k, 1)) (hk : (k : Nat) < yL mi) (hok : okAt L k = true) (h : yR d mi (pc + 1) (L.set k (some (.ref x))) r σ Q) : yR d mi pc L (.ref x :: r) σ Q := by
  intro l p e s m args below meth c ad ty D A H locs ls X hP hD hS hl
  exact lv_astore_n X.1 X.2.1 hd rfl hl.has hk rfl (fun ls' hl' => h l p e s m args below meth c ad ty D A H locs ls' X hP hD hS (yLs.store (v := .ref x) hok hl'))
theorem yr_lstore_n {k : Fin 4} {x : Int64} (hd : decode (yB mi) pc = .ok (.lstore_n k, 1)) (hk : (k : Nat) + 1 < yL mi) (hok : okAt L k = true) (h : yR d mi (pc + 1) ((L.set k (some (.long x))).set (k + 1) none) r σ Q) : yR d mi pc L (.long x :: r) σ Q := by
  intro l p e s m args below meth c ad ty D A H locs ls X hP hD hS hl
  exact lv_lstore_n X.1 X.2.1 hd rfl hl.has hk rfl (fun ls' hl' => h l p e s m args below meth c ad ty D A H locs ls' X hP hD hS (yLs.store2 (v := .long x) hok hl'))
theorem yr_lstore {k : Nat} {x : Int64} (hd : decode (yB mi) pc = .ok (.lstore k, 2)) (hk : k + 1 < yL mi) (hok : okAt L k = true) (h : yR d mi (pc + 2) ((L.set k (some (.long x))).set (k + 1) none) r σ Q) : yR d mi pc L (.long x :: r) σ Q := by
  intro l p e s m args below meth c ad ty D A H locs ls X hP hD hS hl
  exact lv_lstore X.1 X.2.1 hd hl.has hk rfl (fun ls' hl' => h l p e s m args below meth c ad ty D A H locs ls' X hP hD hS (yLs.store2 (v := .long x) hok hl'))
theorem yr_iinc {k : Nat} {n : Int} {x v : Int32} (hd : decode (yB mi) pc = .ok (.iinc k n, 3)) (hn : Int32.ofInt n = v) (hk : k < yL mi) (hok : okAt L k = true) (hv : L[k]? = some (some (.int x))) (h : yR d mi (pc + 3) (L.set k (some (.int (x + v)))) r σ Q) : yR d mi pc L r σ Q := by
  intro l p e s m args below meth c ad ty D A H locs ls X hP hD hS hl
  obtain ⟨j, hj⟩ := List.getElem?_of_mem (asc_mem (ad := ad) (k := k) (w := .int x) |>.mpr ⟨_, hv, rfl⟩)
  exact lv_iinc X.1 X.2.1 hd hl.has hj (by rw [hn]) hk rfl (fun ls' hl' => h l p e s m args below meth c ad ty D A H locs ls' X hP hD hS (yLs.store (v := .int (x + v)) hok hl'))
theorem yr_iadd {x y : Int32} (hd : decode (yB mi) pc = .ok (.iadd, 1)) (h : yR d mi (pc + 1) L (.int (x + y) :: r) σ Q) : yR d mi pc L (.int y :: .int x :: r) σ Q := by
  intro l p e s m args below meth c ad ty D A H locs ls X hP hD hS hl
  exact lv_iadd X.1 X.2.1 hd (h l p e s m args below meth c ad ty D A H locs ls X hP hD hS hl)
theorem yr_isub {x y : Int32} (hd : decode (yB mi) pc = .ok (.isub, 1)) (h : yR d mi (pc + 1) L (.int (x - y) :: r) σ Q) : yR d mi pc L (.int y :: .int x :: r) σ Q := by
  intro l p e s m args below meth c ad ty D A H locs ls X hP hD hS hl
  exact lv_isub X.1 X.2.1 hd (h l p e s m args below meth c ad ty D A H locs ls X hP hD hS hl)
theorem yr_imul {x y : Int32} (hd : decode (yB mi) pc = .ok (.imul, 1)) (h : yR d mi (pc + 1) L (.int (x * y) :: r) σ Q) : yR d mi pc L (.int y :: .int x :: r) σ Q := by
  intro l p e s m args below meth c ad ty D A H locs ls X hP hD hS hl
  exact lv_imul X.1 X.2.1 hd (h l p e s m args below meth c ad ty D A H locs ls X hP hD hS hl)
theorem yr_iand {x y : Int32} (hd : decode (yB mi) pc = .ok (.iand, 1)) (h : yR d mi (pc + 1) L (.int (x &&& y) :: r) σ Q) : yR d mi pc L (.int y :: .int x :: r) σ Q := by
  intro l p e s m args below meth c ad ty D A H locs ls X hP hD hS hl
  exact lv_iand X.1 X.2.1 hd (h l p e s m args below meth c ad ty D A H locs ls X hP hD hS hl)
theorem yr_ior {x y : Int32} (hd : decode (yB mi) pc = .ok (.ior, 1)) (h : yR d mi (pc + 1) L (.int (x ||| y) :: r) σ Q) : yR d mi pc L (.int y :: .int x :: r) σ Q := by
  intro l p e s m args below meth c ad ty D A H locs ls X hP hD hS hl
  exact lv_ior X.1 X.2.1 hd (h l p e s m args below meth c ad ty D A H locs ls X hP hD hS hl)
theorem yr_ixor {x y : Int32} (hd : decode (yB mi) pc = .ok (.ixor, 1)) (h : yR d mi (pc + 1) L (.int (x ^^^ y) :: r) σ Q) : yR d mi pc L (.int y :: .int x :: r) σ Q := by
  intro l p e s m args below meth c ad ty D A H locs ls X hP hD hS hl
  exact lv_ixor X.1 X.2.1 hd (h l p e s m args below meth c ad ty D A H locs ls X hP hD hS hl)
theorem yr_ishl {x y : Int32} (hd : decode (yB mi) pc = .ok (.ishl, 1)) (h : yR d mi (pc + 1) L (.int (x <<< (y &&& 31)) :: r) σ Q) : yR d mi pc L (.int y :: .int x :: r) σ Q := by
  intro l p e s m args below meth c ad ty D A H locs ls X hP hD hS hl
  exact lv_ishl X.1 X.2.1 hd (h l p e s m args below meth c ad ty D A H locs ls X hP hD hS hl)
theorem yr_ishr {x y : Int32} (hd : decode (yB mi) pc = .ok (.ishr, 1)) (h : yR d mi (pc + 1) L (.int (x >>> (y &&& 31)) :: r) σ Q) : yR d mi pc L (.int y :: .int x :: r) σ Q := by
  intro l p e s m args below meth c ad ty D A H locs ls X hP hD hS hl
  exact lv_ishr X.1 X.2.1 hd (h l p e s m args below meth c ad ty D A H locs ls X hP hD hS hl)
theorem yr_irem {x y : Int32} (hd : decode (yB mi) pc = .ok (.irem, 1)) (hne : ¬ y = 0) (h : yR d mi (pc + 1) L (.int (x - x / y * y) :: r) σ Q) : yR d mi pc L (.int y :: .int x :: r) σ Q := by
  intro l p e s m args below meth c ad ty D A H locs ls X hP hD hS hl
  exact lv_irem X.1 X.2.1 hd hne (h l p e s m args below meth c ad ty D A H locs ls X hP hD hS hl)
theorem yr_ladd {x y : Int64} (hd : decode (yB mi) pc = .ok (.ladd, 1)) (h : yR d mi (pc + 1) L (.long (x + y) :: r) σ Q) : yR d mi pc L (.long y :: .long x :: r) σ Q := by
  intro l p e s m args below meth c ad ty D A H locs ls X hP hD hS hl
  exact lv_ladd X.1 X.2.1 hd (h l p e s m args below meth c ad ty D A H locs ls X hP hD hS hl)
theorem yr_lsub {x y : Int64} (hd : decode (yB mi) pc = .ok (.lsub, 1)) (h : yR d mi (pc + 1) L (.long (x - y) :: r) σ Q) : yR d mi pc L (.long y :: .long x :: r) σ Q := by
  intro l p e s m args below meth c ad ty D A H locs ls X hP hD hS hl
  exact lv_lsub X.1 X.2.1 hd (h l p e s m args below meth c ad ty D A H locs ls X hP hD hS hl)
theorem yr_lmul {x y : Int64} (hd : decode (yB mi) pc = .ok (.lmul, 1)) (h : yR d mi (pc + 1) L (.long (x * y) :: r) σ Q) : yR d mi pc L (.long y :: .long x :: r) σ Q := by
  intro l p e s m args below meth c ad ty D A H locs ls X hP hD hS hl
  exact lv_lmul X.1 X.2.1 hd (h l p e s m args below meth c ad ty D A H locs ls X hP hD hS hl)
theorem yr_i2l {x : Int32} (hd : decode (yB mi) pc = .ok (.i2l, 1)) (h : yR d mi (pc + 1) L (.long x.toInt64 :: r) σ Q) : yR d mi pc L (.int x :: r) σ Q := by
  intro l p e s m args below meth c ad ty D A H locs ls X hP hD hS hl
  exact lv_i2l X.1 X.2.1 hd rfl (h l p e s m args below meth c ad ty D A H locs ls X hP hD hS hl)
theorem yr_l2i {x : Int64} (hd : decode (yB mi) pc = .ok (.l2i, 1)) (h : yR d mi (pc + 1) L (.int x.toInt32 :: r) σ Q) : yR d mi pc L (.long x :: r) σ Q := by
  intro l p e s m args below meth c ad ty D A H locs ls X hP hD hS hl
  exact lv_l2i X.1 X.2.1 hd rfl (h l p e s m args below meth c ad ty D A H locs ls X hP hD hS hl)
theorem yr_lcmp {x y : Int64} (hd : decode (yB mi) pc = .ok (.lcmp, 1)) (h : yR d mi (pc + 1) L (.int (lg_cmp x y) :: r) σ Q) : yR d mi pc L (.long y :: .long x :: r) σ Q := by
  intro l p e s m args below meth c ad ty D A H locs ls X hP hD hS hl
  exact W.lcmp X.1 X.2.1 hd (h l p e s m args below meth c ad ty D A H locs ls X hP hD hS hl)
theorem yr_dup {v : Value} (hd : decode (yB mi) pc = .ok (.dup, 1)) (hv : v.category = 1) (h : yR d mi (pc + 1) L (v :: v :: r) σ Q) : yR d mi pc L (v :: r) σ Q := by
  intro l p e s m args below meth c ad ty D A H locs ls X hP hD hS hl
  exact lv_dup X.1 X.2.1 hd (by rw [cv_cat]; exact hv) (h l p e s m args below meth c ad ty D A H locs ls X hP hD hS hl)
theorem yr_dup2 {v w : Value} (hd : decode (yB mi) pc = .ok (.dup2, 1)) (hv : v.category = 1) (hw : w.category = 1) (h : yR d mi (pc + 1) L (v :: w :: v :: w :: r) σ Q) : yR d mi pc L (v :: w :: r) σ Q := by
  intro l p e s m args below meth c ad ty D A H locs ls X hP hD hS hl
  exact lv_dup2_11 X.1 X.2.1 hd (by rw [cv_cat]; exact hv) (by rw [cv_cat]; exact hw) (h l p e s m args below meth c ad ty D A H locs ls X hP hD hS hl)
theorem yr_goto {off : Int} {t : Nat} (hd : decode (yB mi) pc = .ok (.goto off, 3)) (ht : (pc : Int) + off = (t : Int)) (h : yR d mi t L r σ Q) : yR d mi pc L r σ Q := by
  intro l p e s m args below meth c ad ty D A H locs ls X hP hD hS hl
  exact lv_goto X.1 X.2.1 hd ht (h l p e s m args below meth c ad ty D A H locs ls X hP hD hS hl)
theorem yr_ifnull {x : Nat} {off : Int} (hd : decode (yB mi) pc = .ok (.ifnull off, 3)) (h : yR d mi (pc + 3) L r σ Q) : yR d mi pc L (.ref x :: r) σ Q := by
  intro l p e s m args below meth c ad ty D A H locs ls X hP hD hS hl
  exact lv_ifnull X.1 X.2.1 hd (h l p e s m args below meth c ad ty D A H locs ls X hP hD hS hl)
theorem yr_if_eq {x : Int32} {off : Int} {t : Nat} (hd : decode (yB mi) pc = .ok (.ifCond .eq off, 3)) (ht : (pc : Int) + off = (t : Int)) (h : (x = 0 → yR d mi t L r σ Q) ∧ (¬ (x = 0) → yR d mi (pc + 3) L r σ Q)) : yR d mi pc L (.int x :: r) σ Q := by
  intro l p e s m args below meth c ad ty D A H locs ls X hP hD hS hl
  exact lv_if_eq X.1 X.2.1 hd ht (fun q => h.1 q l p e s m args below meth c ad ty D A H locs ls X hP hD hS hl) (fun q => h.2 q l p e s m args below meth c ad ty D A H locs ls X hP hD hS hl)
theorem yr_icmp_eq {x y : Int32} {off : Int} {t : Nat} (hd : decode (yB mi) pc = .ok (.if_icmp .eq off, 3)) (ht : (pc : Int) + off = (t : Int)) (h : (x = y → yR d mi t L r σ Q) ∧ (¬ (x = y) → yR d mi (pc + 3) L r σ Q)) : yR d mi pc L (.int y :: .int x :: r) σ Q := by
  intro l p e s m args below meth c ad ty D A H locs ls X hP hD hS hl
  exact lv_icmp_eq X.1 X.2.1 hd ht (fun q => h.1 q l p e s m args below meth c ad ty D A H locs ls X hP hD hS hl) (fun q => h.2 q l p e s m args below meth c ad ty D A H locs ls X hP hD hS hl)
theorem yr_if_ne {x : Int32} {off : Int} {t : Nat} (hd : decode (yB mi) pc = .ok (.ifCond .ne off, 3)) (ht : (pc : Int) + off = (t : Int)) (h : (¬ x = 0 → yR d mi t L r σ Q) ∧ (x = 0 → yR d mi (pc + 3) L r σ Q)) : yR d mi pc L (.int x :: r) σ Q := by
  intro l p e s m args below meth c ad ty D A H locs ls X hP hD hS hl
  exact lv_if_ne X.1 X.2.1 hd ht (fun q => h.1 q l p e s m args below meth c ad ty D A H locs ls X hP hD hS hl) (fun q => h.2 q l p e s m args below meth c ad ty D A H locs ls X hP hD hS hl)
theorem yr_icmp_ne {x y : Int32} {off : Int} {t : Nat} (hd : decode (yB mi) pc = .ok (.if_icmp .ne off, 3)) (ht : (pc : Int) + off = (t : Int)) (h : (¬ x = y → yR d mi t L r σ Q) ∧ (x = y → yR d mi (pc + 3) L r σ Q)) : yR d mi pc L (.int y :: .int x :: r) σ Q := by
  intro l p e s m args below meth c ad ty D A H locs ls X hP hD hS hl
  exact lv_icmp_ne X.1 X.2.1 hd ht (fun q => h.1 q l p e s m args below meth c ad ty D A H locs ls X hP hD hS hl) (fun q => h.2 q l p e s m args below meth c ad ty D A H locs ls X hP hD hS hl)
theorem yr_if_lt {x : Int32} {off : Int} {t : Nat} (hd : decode (yB mi) pc = .ok (.ifCond .lt off, 3)) (ht : (pc : Int) + off = (t : Int)) (h : (x < 0 → yR d mi t L r σ Q) ∧ (¬ (x < 0) → yR d mi (pc + 3) L r σ Q)) : yR d mi pc L (.int x :: r) σ Q := by
  intro l p e s m args below meth c ad ty D A H locs ls X hP hD hS hl
  exact lv_if_lt X.1 X.2.1 hd ht (fun q => h.1 q l p e s m args below meth c ad ty D A H locs ls X hP hD hS hl) (fun q => h.2 q l p e s m args below meth c ad ty D A H locs ls X hP hD hS hl)
theorem yr_icmp_lt {x y : Int32} {off : Int} {t : Nat} (hd : decode (yB mi) pc = .ok (.if_icmp .lt off, 3)) (ht : (pc : Int) + off = (t : Int)) (h : (x < y → yR d mi t L r σ Q) ∧ (¬ (x < y) → yR d mi (pc + 3) L r σ Q)) : yR d mi pc L (.int y :: .int x :: r) σ Q := by
  intro l p e s m args below meth c ad ty D A H locs ls X hP hD hS hl
  exact lv_icmp_lt X.1 X.2.1 hd ht (fun q => h.1 q l p e s m args below meth c ad ty D A H locs ls X hP hD hS hl) (fun q => h.2 q l p e s m args below meth c ad ty D A H locs ls X hP hD hS hl)
theorem yr_if_ge {x : Int32} {off : Int} {t : Nat} (hd : decode (yB mi) pc = .ok (.ifCond .ge off, 3)) (ht : (pc : Int) + off = (t : Int)) (h : (0 ≤ x → yR d mi t L r σ Q) ∧ (¬ (0 ≤ x) → yR d mi (pc + 3) L r σ Q)) : yR d mi pc L (.int x :: r) σ Q := by
  intro l p e s m args below meth c ad ty D A H locs ls X hP hD hS hl
  exact lv_if_ge X.1 X.2.1 hd ht (fun q => h.1 q l p e s m args below meth c ad ty D A H locs ls X hP hD hS hl) (fun q => h.2 q l p e s m args below meth c ad ty D A H locs ls X hP hD hS hl)
theorem yr_icmp_ge {x y : Int32} {off : Int} {t : Nat} (hd : decode (yB mi) pc = .ok (.if_icmp .ge off, 3)) (ht : (pc : Int) + off = (t : Int)) (h : (y ≤ x → yR d mi t L r σ Q) ∧ (¬ (y ≤ x) → yR d mi (pc + 3) L r σ Q)) : yR d mi pc L (.int y :: .int x :: r) σ Q := by
  intro l p e s m args below meth c ad ty D A H locs ls X hP hD hS hl
  exact lv_icmp_ge X.1 X.2.1 hd ht (fun q => h.1 q l p e s m args below meth c ad ty D A H locs ls X hP hD hS hl) (fun q => h.2 q l p e s m args below meth c ad ty D A H locs ls X hP hD hS hl)
theorem yr_if_gt {x : Int32} {off : Int} {t : Nat} (hd : decode (yB mi) pc = .ok (.ifCond .gt off, 3)) (ht : (pc : Int) + off = (t : Int)) (h : (0 < x → yR d mi t L r σ Q) ∧ (¬ (0 < x) → yR d mi (pc + 3) L r σ Q)) : yR d mi pc L (.int x :: r) σ Q := by
  intro l p e s m args below meth c ad ty D A H locs ls X hP hD hS hl
  exact lv_if_gt X.1 X.2.1 hd ht (fun q => h.1 q l p e s m args below meth c ad ty D A H locs ls X hP hD hS hl) (fun q => h.2 q l p e s m args below meth c ad ty D A H locs ls X hP hD hS hl)
theorem yr_icmp_gt {x y : Int32} {off : Int} {t : Nat} (hd : decode (yB mi) pc = .ok (.if_icmp .gt off, 3)) (ht : (pc : Int) + off = (t : Int)) (h : (y < x → yR d mi t L r σ Q) ∧ (¬ (y < x) → yR d mi (pc + 3) L r σ Q)) : yR d mi pc L (.int y :: .int x :: r) σ Q := by
  intro l p e s m args below meth c ad ty D A H locs ls X hP hD hS hl
  exact lv_icmp_gt X.1 X.2.1 hd ht (fun q => h.1 q l p e s m args below meth c ad ty D A H locs ls X hP hD hS hl) (fun q => h.2 q l p e s m args below meth c ad ty D A H locs ls X hP hD hS hl)
theorem yr_if_le {x : Int32} {off : Int} {t : Nat} (hd : decode (yB mi) pc = .ok (.ifCond .le off, 3)) (ht : (pc : Int) + off = (t : Int)) (h : (x ≤ 0 → yR d mi t L r σ Q) ∧ (¬ (x ≤ 0) → yR d mi (pc + 3) L r σ Q)) : yR d mi pc L (.int x :: r) σ Q := by
  intro l p e s m args below meth c ad ty D A H locs ls X hP hD hS hl
  exact lv_if_le X.1 X.2.1 hd ht (fun q => h.1 q l p e s m args below meth c ad ty D A H locs ls X hP hD hS hl) (fun q => h.2 q l p e s m args below meth c ad ty D A H locs ls X hP hD hS hl)
theorem yr_icmp_le {x y : Int32} {off : Int} {t : Nat} (hd : decode (yB mi) pc = .ok (.if_icmp .le off, 3)) (ht : (pc : Int) + off = (t : Int)) (h : (x ≤ y → yR d mi t L r σ Q) ∧ (¬ (x ≤ y) → yR d mi (pc + 3) L r σ Q)) : yR d mi pc L (.int y :: .int x :: r) σ Q := by
  intro l p e s m args below meth c ad ty D A H locs ls X hP hD hS hl
  exact lv_icmp_le X.1 X.2.1 hd ht (fun q => h.1 q l p e s m args below meth c ad ty D A H locs ls X hP hD hS hl) (fun q => h.2 q l p e s m args below meth c ad ty D A H locs ls X hP hD hS hl)
end YR
