theorem acp_ok : lw_tbl[469]? = some (.native arraycopyName) ∧ lw_tbl[468]? = some (.static arraycopyName) ∧ lw_tbl[91]? = some (.initialized "java/lang/System") := by decide +kernel
def qI (K : Int32 → yS → Prop) : Option Value → yS → Prop := fun r τ => match r with
  | some (.int x) => K x τ
  | _ => False
def qL (K : Int64 → yS → Prop) : Option Value → yS → Prop := fun r τ => match r with
  | some (.long x) => K x τ
  | _ => False
def qV (K : yS → Prop) : Option Value → yS → Prop := fun r τ => match r with
  | none => K τ
  | _ => False
theorem qI_mono {K K' : Int32 → yS → Prop} (h : ∀ x τ, K x τ → K' x τ) (r : Option Value) (τ : yS) (hq : qI K r τ) : qI K' r τ := by
  unfold qI at hq ⊢
  split at hq
  · exact h _ _ hq
  · exact hq.elim
theorem qL_mono {K K' : Int64 → yS → Prop} (h : ∀ x τ, K x τ → K' x τ) (r : Option Value) (τ : yS) (hq : qL K r τ) : qL K' r τ := by
  unfold qL at hq ⊢
  split at hq
  · exact h _ _ hq
  · exact hq.elim
theorem qV_mono {K K' : yS → Prop} (h : ∀ τ, K τ → K' τ) (r : Option Value) (τ : yS) (hq : qV K r τ) : qV K' r τ := by
  unfold qV at hq ⊢
  split at hq
  · exact h _ hq
  · exact hq.elim
/-- a truth value -/
def yBo (x : Int32) : Prop := x = 0 ∨ x = 1
theorem yB0 : yBo 0 := Or.inl rfl
theorem yB1 : yBo 1 := Or.inr rfl
def yPost (t : Option FieldType) (k : List Value → yS → Prop) : Option Value → yS → Prop := match t with
  | none => qV (fun τ => k [] τ)
  | some .long => qL (fun x τ => k [.long x] τ)
  | _ => qI (fun x τ => k [.int x] τ)
theorem yPost.go {t : Option FieldType} {k : List Value → yS → Prop} {v : Option Value} {τ : yS} (h : yPost t k v τ) : k v.toList τ := by
  unfold yPost at h
  split at h
  · unfold qV at h; split at h
    · exact h
    · exact h.elim
  · unfold qL at h; split at h
    · exact h
    · exact h.elim
  · unfold qI at h; split at h
    · exact h
    · exact h.elim
/-- the way through a row of cells -/
def yAl (i : Int32) (g : List Nat) (k : Nat → Prop) : Nat → Prop
  | 0 => True
  | n + 1 => yAl i g k n ∧ (i = Int32.ofNat n → match g[n]? with
    | some c => k c
    | none => False)
def yCok (vs r : List Value) (n nL : Nat) : Bool := decide (vs.length = n) && decide ((sl vs).length ≤ nL) && decide ((r.map fun v => v.category).sum ≤ 8)
/-- one step: what must hold for the judgement here -/
def yStep (d mi : Nat) (k : Nat → List (Option Value) → List Value → yS → Prop) (Q : Option Value → yS → Prop) (pc : Nat) (e : yE) (L : List (Option Value)) (st : List Value) (σ : yS) : Prop :=
  match e with
  | (i, _, a, b, v, sw, _) =>
    match i with
    | .iconst n => k (pc + 1) L (v :: st) σ
    | .bipush n => k (pc + 2) L (v :: st) σ
    | .sipush n => k (pc + 3) L (v :: st) σ
    | .ldc n => k (pc + 2) L (v :: st) σ
    | .ldc2_w n => k (pc + 3) L (v :: st) σ
    | .iload_n n => match L[(n : Nat)]? with
      | some (some (.int x)) => k (pc + 1) L (.int x :: st) σ
      | _ => False
    | .iload n => match L[(n : Nat)]? with
      | some (some (.int x)) => k (pc + 2) L (.int x :: st) σ
      | _ => False
    | .lload_n n => match L[(n : Nat)]? with
      | some (some (.long x)) => k (pc + 1) L (.long x :: st) σ
      | _ => False
    | .lload n => match L[(n : Nat)]? with
      | some (some (.long x)) => k (pc + 2) L (.long x :: st) σ
      | _ => False
    | .aload_n n => match L[(n : Nat)]? with
      | some (some (.ref x)) => k (pc + 1) L (.ref x :: st) σ
      | _ => False
    | .istore_n n => match st with
      | .int x :: r => (match okAt L n with
        | true => k (pc + 1) (L.set n (some (.int x))) r σ
        | false => False)
      | _ => False
    | .istore n => match st with
      | .int x :: r => (match okAt L n with
        | true => k (pc + 2) (L.set n (some (.int x))) r σ
        | false => False)
      | _ => False
    | .astore_n n => match st with
      | .ref x :: r => (match okAt L n with
        | true => k (pc + 1) (L.set n (some (.ref x))) r σ
        | false => False)
      | _ => False
    | .lstore_n n => match st with
      | .long x :: r => (match okAt L n with
        | true => k (pc + 1) ((L.set n (some (.long x))).set (n + 1) none) r σ
        | false => False)
      | _ => False
    | .lstore n => match st with
      | .long x :: r => (match okAt L n with
        | true => k (pc + 2) ((L.set n (some (.long x))).set (n + 1) none) r σ
        | false => False)
      | _ => False
    | .iinc n z => match v, L[n]? with
      | .int w, some (some (.int x)) => (match okAt L n with
        | true => k (pc + 3) (L.set n (some (.int (x + w)))) st σ
        | false => False)
      | _, _ => False
    | .iadd => match st with
      | .int y :: .int x :: r => k (pc + 1) L (.int (x + y) :: r) σ
      | _ => False
    | .isub => match st with
      | .int y :: .int x :: r => k (pc + 1) L (.int (x - y) :: r) σ
      | _ => False
    | .imul => match st with
      | .int y :: .int x :: r => k (pc + 1) L (.int (x * y) :: r) σ
      | _ => False
    | .iand => match st with
      | .int y :: .int x :: r => k (pc + 1) L (.int (x &&& y) :: r) σ
      | _ => False
    | .ior => match st with
      | .int y :: .int x :: r => k (pc + 1) L (.int (x ||| y) :: r) σ
      | _ => False
    | .ixor => match st with
      | .int y :: .int x :: r => k (pc + 1) L (.int (x ^^^ y) :: r) σ
      | _ => False
    | .ishl => match st with
      | .int y :: .int x :: r => k (pc + 1) L (.int (x <<< (y &&& 31)) :: r) σ
      | _ => False
    | .ishr => match st with
      | .int y :: .int x :: r => k (pc + 1) L (.int (x >>> (y &&& 31)) :: r) σ
      | _ => False
    | .irem => match st with
      | .int y :: .int x :: r => ¬ y = 0 ∧ k (pc + 1) L (.int (x - x / y * y) :: r) σ
      | _ => False
    | .ladd => match st with
      | .long y :: .long x :: r => k (pc + 1) L (.long (x + y) :: r) σ
      | _ => False
    | .lsub => match st with
      | .long y :: .long x :: r => k (pc + 1) L (.long (x - y) :: r) σ
      | _ => False
    | .lmul => match st with
      | .long y :: .long x :: r => k (pc + 1) L (.long (x * y) :: r) σ
      | _ => False
    | .i2l => match st with
      | .int x :: r => k (pc + 1) L (.long x.toInt64 :: r) σ
      | _ => False
    | .l2i => match st with
      | .long x :: r => k (pc + 1) L (.int x.toInt32 :: r) σ
      | _ => False
    | .lcmp => match st with
      | .long y :: .long x :: r => k (pc + 1) L (.int (lg_cmp x y) :: r) σ
      | _ => False
    | .dup => match st with
      | x :: r => (match decide (x.category = 1) with
        | true => k (pc + 1) L (x :: x :: r) σ
        | false => False)
      | _ => False
    | .dup2 => match st with
      | x :: y :: r => (match decide (x.category = 1) && decide (y.category = 1) with
        | true => k (pc + 1) L (x :: y :: x :: y :: r) σ
        | false => False)
      | _ => False
    | .goto z => k a L st σ
    | .ifnull z => match st with
      | .ref _ :: r => k (pc + 3) L r σ
      | _ => False
    | .ifCond .eq z => match st with
      | .int x :: r => ((x = 0) → k a L r σ) ∧ (¬ (x = 0) → k (pc + 3) L r σ)
      | _ => False
    | .ifCond .ne z => match st with
      | .int x :: r => (¬ (x = 0) → k a L r σ) ∧ ((x = 0) → k (pc + 3) L r σ)
      | _ => False
    | .ifCond .lt z => match st with
      | .int x :: r => ((x < 0) → k a L r σ) ∧ (¬ (x < 0) → k (pc + 3) L r σ)
      | _ => False
    | .ifCond .ge z => match st with
      | .int x :: r => ((0 ≤ x) → k a L r σ) ∧ (¬ (0 ≤ x) → k (pc + 3) L r σ)
      | _ => False
    | .ifCond .gt z => match st with
      | .int x :: r => ((0 < x) → k a L r σ) ∧ (¬ (0 < x) → k (pc + 3) L r σ)
      | _ => False
    | .ifCond .le z => match st with
      | .int x :: r => ((x ≤ 0) → k a L r σ) ∧ (¬ (x ≤ 0) → k (pc + 3) L r σ)
      | _ => False
    | .if_icmp .eq z => match st with
      | .int y :: .int x :: r => ((x = y) → k a L r σ) ∧ (¬ (x = y) → k (pc + 3) L r σ)
      | _ => False
    | .if_icmp .ne z => match st with
      | .int y :: .int x :: r => (¬ (x = y) → k a L r σ) ∧ ((x = y) → k (pc + 3) L r σ)
      | _ => False
    | .if_icmp .lt z => match st with
      | .int y :: .int x :: r => ((x < y) → k a L r σ) ∧ (¬ (x < y) → k (pc + 3) L r σ)
      | _ => False
    | .if_icmp .ge z => match st with
      | .int y :: .int x :: r => ((y ≤ x) → k a L r σ) ∧ (¬ (y ≤ x) → k (pc + 3) L r σ)
      | _ => False
    | .if_icmp .gt z => match st with
      | .int y :: .int x :: r => ((y < x) → k a L r σ) ∧ (¬ (y < x) → k (pc + 3) L r σ)
      | _ => False
    | .if_icmp .le z => match st with
      | .int y :: .int x :: r => ((x ≤ y) → k a L r σ) ∧ (¬ (x ≤ y) → k (pc + 3) L r σ)
      | _ => False
    | .getfield n => match st with
      | .ref c :: r => (match ysh[c]? with
        | some (.inr (.inr (ci, fds))) => (match decide (ci = a), fds[b]? with
          | true, some fd => k (pc + 3) L (fa (σ c) b fd :: r) σ
          | _, _ => False)
        | _ => False)
      | _ => False
    | .putfield n => match st with
      | .int x :: .ref c :: r => (match ysh[c]? with
        | some (.inr (.inr (ci, fds))) => (match decide (ci = a), fds[b]?, v with
          | true, some none, .ref 0 => k (pc + 3) L r (sg σ c b x)
          | true, some none, .ref 1 => yBo x ∧ k (pc + 3) L r (sg σ c b x)
          | _, _, _ => False)
        | _ => False)
      | .long x :: .ref c :: r => (match ysh[c]? with
        | some (.inr (.inr (ci, fds))) => (match decide (ci = a) && decide (fds.length ≤ 1000), fds[b]?, v with
          | true, some (some none), .ref 2 => k (pc + 3) L r (sgA σ c (upd (upd (σ c) b (lgHi x)) (b + 1000) (lgLo x)))
          | _, _, _ => False)
        | _ => False)
      | _ => False
    | .iaload => match st with
      | .int i :: .ref c :: r => (match ysh[c]? with
        | some (.inl (t, n)) => (match decide (t = 0) with
          | true => vp_in i n ∧ k (pc + 1) L (.int (σ c i.toNatClampNeg) :: r) σ
          | false => False)
        | _ => False)
      | _ => False
    | .baload => match st with
      | .int i :: .ref c :: r => (match ysh[c]? with
        | some (.inl (t, n)) => (match decide (t = 1) with
          | true => vp_in i n ∧ k (pc + 1) L (.int (σ c i.toNatClampNeg) :: r) σ
          | false => False)
        | _ => False)
      | _ => False
    | .iastore => match st with
      | .int x :: .int i :: .ref c :: r => (match ysh[c]? with
        | some (.inl (t, n)) => (match decide (t = 0) with
          | true => vp_in i n ∧ k (pc + 1) L r (sg σ c i.toNatClampNeg x)
          | false => False)
        | _ => False)
      | _ => False
    | .bastore => match st with
      | .int x :: .int i :: .ref c :: r => (match ysh[c]? with
        | some (.inl (t, n)) => (match decide (t = 1) with
          | true => vp_in i n ∧ yBo x ∧ k (pc + 1) L r (sg σ c i.toNatClampNeg x)
          | false => False)
        | _ => False)
      | _ => False
    | .aaload => match st with
      | .int i :: .ref c :: r => (match ysh[c]? with
        | some (.inr (.inl (n, g))) => vp_in i n ∧ yAl i g (fun j => k (pc + 1) L (.ref j :: r) σ) n
        | _ => False)
      | _ => False
    | .arraylength => match st with
      | .ref c :: r => (match ysh[c]? with
        | some (.inl (t, n)) => (match decide (t < 2) with
          | true => k (pc + 1) L (.int (Int32.ofNat n) :: r) σ
          | false => False)
        | _ => False)
      | _ => False
    | .lookupswitch df ps => match st with
      | .int x :: r => ySw x (fun t => k t L r σ) a sw
      | _ => False
    | .tableswitch df lo hi os => match st with
      | .int x :: r => ySw x (fun t => k t L r σ) a sw
      | _ => False
    | .ireturn => match st, yT mi with
      | [.int x], some .int => Q (some (.int x)) σ
      | [.int x], some .boolean => yBo x ∧ Q (some (.int x)) σ
      | _, _ => False
    | .lreturn => match st, yT mi with
      | [.long x], some .long => Q (some (.long x)) σ
      | _, _ => False
    | .return_ => match st, yT mi with
      | [], none => Q none σ
      | _, _ => False
    | .invokestatic n => match d with
      | 0 => False
      | d' + 1 => (match decide (a = 999) with
        | true => (match st with
          | .int n :: .int dp :: .ref c1 :: .int sp :: .ref c0 :: r => (match ysh[c0]?, ysh[c1]? with
            | some (.inl (t0, n0)), some (.inl (t1, n1)) => (match decide (t0 = 0) && decide (t1 = 0) && decide ((r.map fun v => v.category).sum ≤ 8) with
              | true => yCp sp dp n n0 n1 ∧ k (pc + 3) L r (sgA σ c1 (va_cpy (σ c0) (σ c1) sp.toNatClampNeg dp.toNatClampNeg n.toNatClampNeg))
              | false => False)
            | _, _ => False)
          | _ => False)
        | false => (match yCok (st.take (yK a)).reverse (st.drop (yK a)) (yK a) (yL a) with
          | true => yR d' a 0 (ent (yL a) (st.take (yK a)).reverse) [] σ (yPost (yT a) (fun vs τ => k (pc + 3) L (vs ++ st.drop (yK a)) τ))
          | false => False))
    | .invokevirtual n => match d with
      | 0 => False
      | d' + 1 => (match st.drop (yK a) with
        | .ref c :: r => (match ysh[c]? with
          | some (.inr (.inr (ci, fds))) => (match decide (ci = yI a) && yCok (.ref c :: (st.take (yK a)).reverse) r (yK a + 1) (yL a) with
            | true => yR d' a 0 (ent (yL a) (.ref c :: (st.take (yK a)).reverse)) [] σ (yPost (yT a) (fun vs τ => k (pc + 3) L (vs ++ r) τ))
            | false => False)
          | _ => False)
        | _ => False)
    | _ => False
theorem yAl.out {i : Int32} {g : List Nat} {k : Nat → Prop} : ∀ {n : Nat}, vp_in i n → yAl i g k n → ∃ j, g[i.toNatClampNeg]? = some j ∧ k j
  | 0, h, _ => absurd (Or.inr (Nat.zero_le _)) h
  | n + 1, h, hy => by
    by_cases hi : i.toNatClampNeg = n
    · have h0 : i = Int32.ofNat n := by
        have hn : ¬ i < 0 := fun q => h (Or.inl q)
        obtain ⟨j, hj, rfl⟩ := nI_of hn
        rw [nI_clamp hj] at hi
        rw [hi]; rfl
      have := hy.2 h0
      split at this
      · rename_i c hc; exact ⟨c, by rw [hi]; exact hc, this⟩
      · exact this.elim
    · exact yAl.out (fun q => h (q.elim Or.inl (fun q => by
        have : i.toNatClampNeg < n + 1 := Nat.not_le.mp fun q2 => h (Or.inr q2)
        omega))) hy.1
theorem ySw.imp {x : Int32} {k k' : Nat → Prop} {a : Nat} (hk : ∀ t, k t → k' t) : ∀ {sw : List (Int32 × Nat)}, ySw x k a sw → ySw x k' a sw
  | [], h => hk a h
  | _ :: _, h => ⟨fun q => hk _ (h.1 q), fun q => ySw.imp hk (h.2 q)⟩
/-- an entry is what the code has there, and names what the tables say -/
def chkE (mi pc : Nat) (e : yE) : Bool := match e with
  | (i, len, a, b, v, sw, pos) => decide (decode (yB mi) pc = .ok (i, len)) && (match i with
    | .iconst n => decide (len = 1) && decide (v = .int (Int32.ofInt n))
    | .bipush n => decide (len = 2) && decide (v = .int (Int8.ofInt n).toInt32)
    | .sipush n => decide (len = 3) && decide (v = .int (Int16.ofInt n).toInt32)
    | .ldc n => decide (len = 2) && (match v with
      | .int x => decide (lw_tbl[pos]? = some (.constant (yN mi).cls n x))
      | _ => false)
    | .ldc2_w n => decide (len = 3) && (match v with
      | .long x => decide (lw_tbl[pos]? = some (.constantLong (yN mi).cls n x))
      | _ => false)
    | .iload_n n => decide (len = 1)
    | .iload n => decide (len = 2)
    | .lload_n n => decide (len = 1)
    | .lload n => decide (len = 2)
    | .aload_n n => decide (len = 1)
    | .istore_n n => decide (len = 1) && decide ((n : Nat) < yL mi)
    | .istore n => decide (len = 2) && decide ((n : Nat) < yL mi)
    | .astore_n n => decide (len = 1) && decide ((n : Nat) < yL mi)
    | .lstore_n n => decide (len = 1) && decide ((n : Nat) + 1 < yL mi)
    | .lstore n => decide (len = 2) && decide ((n : Nat) + 1 < yL mi)
    | .iinc n z => decide (len = 3) && decide (v = .int (Int32.ofInt z)) && decide (n < yL mi)
    | .iadd => decide (len = 1)
    | .isub => decide (len = 1)
    | .imul => decide (len = 1)
    | .iand => decide (len = 1)
    | .ior => decide (len = 1)
    | .ixor => decide (len = 1)
    | .ishl => decide (len = 1)
    | .ishr => decide (len = 1)
    | .irem => decide (len = 1)
    | .ladd => decide (len = 1)
    | .lsub => decide (len = 1)
    | .lmul => decide (len = 1)
    | .i2l => decide (len = 1)
    | .l2i => decide (len = 1)
    | .lcmp => decide (len = 1)
    | .dup => decide (len = 1)
    | .dup2 => decide (len = 1)
    | .goto z => decide (len = 3) && decide ((pc : Int) + z = (a : Int))
    | .ifnull z => decide (len = 3)
    | .ifCond .eq z => decide (len = 3) && decide ((pc : Int) + z = (a : Int))
    | .ifCond .ne z => decide (len = 3) && decide ((pc : Int) + z = (a : Int))
    | .ifCond .lt z => decide (len = 3) && decide ((pc : Int) + z = (a : Int))
    | .ifCond .ge z => decide (len = 3) && decide ((pc : Int) + z = (a : Int))
    | .ifCond .gt z => decide (len = 3) && decide ((pc : Int) + z = (a : Int))
    | .ifCond .le z => decide (len = 3) && decide ((pc : Int) + z = (a : Int))
    | .if_icmp .eq z => decide (len = 3) && decide ((pc : Int) + z = (a : Int))
    | .if_icmp .ne z => decide (len = 3) && decide ((pc : Int) + z = (a : Int))
    | .if_icmp .lt z => decide (len = 3) && decide ((pc : Int) + z = (a : Int))
    | .if_icmp .ge z => decide (len = 3) && decide ((pc : Int) + z = (a : Int))
    | .if_icmp .gt z => decide (len = 3) && decide ((pc : Int) + z = (a : Int))
    | .if_icmp .le z => decide (len = 3) && decide ((pc : Int) + z = (a : Int))
    | .getfield n => decide (len = 3) && (match vwCl[a]? with
      | some q => decide (b < q.2.2) && decide (lw_tbl[pos]? = some (.fieldLink (yN mi).cls n (q.2.1 b).1 (q.2.1 b).2.1 (q.2.1 b).2.2.1))
      | none => false)
    | .putfield n => decide (len = 3) && (match vwCl[a]? with
      | some q => decide (b < q.2.2) && decide (lw_tbl[pos]? = some (.fieldLink (yN mi).cls n (q.2.1 b).1 (q.2.1 b).2.1 (q.2.1 b).2.2.1)) && decide ((q.2.1 b).2.2.2 = false) && decide (b < 1000) && decide (parseFieldDescriptor (q.2.1 b).2.2.1 = (match v with
        | .ref 0 => some .int
        | .ref 1 => some .boolean
        | .ref 2 => some .long
        | _ => none))
      | none => false)
    | .iaload => decide (len = 1)
    | .baload => decide (len = 1)
    | .iastore => decide (len = 1)
    | .bastore => decide (len = 1)
    | .aaload => decide (len = 1)
    | .arraylength => decide (len = 1)
    | .lookupswitch df ps => chkLk pc df a ps.toList sw
    | .tableswitch df lo hi os => chkTb pc df lo hi a os.toList sw
    | .ireturn => decide (len = 1)
    | .lreturn => decide (len = 1)
    | .return_ => decide (len = 1)
    | .invokestatic n => decide (len = 3) && (if a = 999 then decide (lw_tbl[pos]? = some (.methodLink (yN mi).cls n arraycopyName)) else yGood.contains a && decide (yI a = 99) && (if b = 0 then decide (lw_tbl[pos]? = some (.methodLink (yN mi).cls n (yN a))) else decide (lw_tbl[pos]? = some (.methodLinkNest (yN mi).cls n (yN a) "YieldLines"))))
    | .invokevirtual n => decide (len = 3) && (yGood.contains a && decide (yI a ≠ 99) && (if b = 0 then decide (lw_tbl[pos]? = some (.methodLink (yN mi).cls n (yN a))) else decide (lw_tbl[pos]? = some (.methodLinkNest (yN mi).cls n (yN a) "YieldLines"))))
    | _ => false)
set_option maxHeartbeats 4000000 in
theorem yStep_sound {d mi pc : Nat} {e : yE} {L : List (Option Value)} {st : List Value} {σ : yS} {Q : Option Value → yS → Prop} {k : Nat → List (Option Value) → List Value → yS → Prop} (hG : ∀ c ∈ yGood, chkM c = true) (hk : chkE mi pc e = true) (hQ : ∀ pc' L' st' σ', k pc' L' st' σ' → yR d mi pc' L' st' σ' Q) (h : yStep d mi k Q pc e L st σ) : yR d mi pc L st σ Q := by
  obtain ⟨i, len, a, b, v, sw, pos⟩ := e
  simp only [chkE, Bool.and_eq_true, decide_eq_true_eq] at hk
  obtain ⟨hdc, hk⟩ := hk
  unfold yStep at h
  simp only at h
  split at h
  · -- .iconst n
    simp only [Bool.and_eq_true, decide_eq_true_eq] at hk
    obtain ⟨rfl, rfl⟩ := hk
    exact yr_iconst hdc rfl (hQ _ _ _ _ h)
  · -- .bipush n
    simp only [Bool.and_eq_true, decide_eq_true_eq] at hk
    obtain ⟨rfl, rfl⟩ := hk
    exact yr_bipush hdc rfl (hQ _ _ _ _ h)
  · -- .sipush n
    simp only [Bool.and_eq_true, decide_eq_true_eq] at hk
    obtain ⟨rfl, rfl⟩ := hk
    exact yr_sipush hdc rfl (hQ _ _ _ _ h)
  · -- .ldc n
    simp only [Bool.and_eq_true, decide_eq_true_eq] at hk
    obtain ⟨rfl, hk⟩ := hk
    split at hk
    · exact yr_ldc hdc (mem_at (of_decide_eq_true hk)) (hQ _ _ _ _ h)
    · cases hk
  · -- .ldc2_w n
    simp only [Bool.and_eq_true, decide_eq_true_eq] at hk
    obtain ⟨rfl, hk⟩ := hk
    split at hk
    · exact yr_ldc2 hdc (mem_at (of_decide_eq_true hk)) (hQ _ _ _ _ h)
    · cases hk
  · -- .iload_n n
    simp only [Bool.and_eq_true, decide_eq_true_eq] at hk
    subst hk
    split at h
    · rename_i hv; exact yr_iload_n hdc hv (hQ _ _ _ _ h)
    · exact h.elim
  · -- .iload n
    simp only [Bool.and_eq_true, decide_eq_true_eq] at hk
    subst hk
    split at h
    · rename_i hv; exact yr_iload hdc hv (hQ _ _ _ _ h)
    · exact h.elim
  · -- .lload_n n
    simp only [Bool.and_eq_true, decide_eq_true_eq] at hk
    subst hk
    split at h
    · rename_i hv; exact yr_lload_n hdc hv (hQ _ _ _ _ h)
    · exact h.elim
  · -- .lload n
    simp only [Bool.and_eq_true, decide_eq_true_eq] at hk
    subst hk
    split at h
    · rename_i hv; exact yr_lload hdc hv (hQ _ _ _ _ h)
    · exact h.elim
  · -- .aload_n n
    simp only [Bool.and_eq_true, decide_eq_true_eq] at hk
    subst hk
    split at h
    · rename_i hv; exact yr_aload_n hdc hv (hQ _ _ _ _ h)
    · exact h.elim
  · -- .istore_n n
    simp only [Bool.and_eq_true, decide_eq_true_eq] at hk
    obtain ⟨rfl, hk⟩ := hk
    split at h
    · split at h
      · rename_i hv; exact yr_istore_n hdc hk hv (hQ _ _ _ _ h)
      · exact h.elim
    · exact h.elim
  · -- .istore n
    simp only [Bool.and_eq_true, decide_eq_true_eq] at hk
    obtain ⟨rfl, hk⟩ := hk
    split at h
    · split at h
      · rename_i hv; exact yr_istore hdc hk hv (hQ _ _ _ _ h)
      · exact h.elim
    · exact h.elim
  · -- .astore_n n
    simp only [Bool.and_eq_true, decide_eq_true_eq] at hk
    obtain ⟨rfl, hk⟩ := hk
    split at h
    · split at h
      · rename_i hv; exact yr_astore_n hdc hk hv (hQ _ _ _ _ h)
      · exact h.elim
    · exact h.elim
  · -- .lstore_n n
    simp only [Bool.and_eq_true, decide_eq_true_eq] at hk
    obtain ⟨rfl, hk⟩ := hk
    split at h
    · split at h
      · rename_i hv; exact yr_lstore_n hdc hk hv (hQ _ _ _ _ h)
      · exact h.elim
    · exact h.elim
  · -- .lstore n
    simp only [Bool.and_eq_true, decide_eq_true_eq] at hk
    obtain ⟨rfl, hk⟩ := hk
    split at h
    · split at h
      · rename_i hv; exact yr_lstore hdc hk hv (hQ _ _ _ _ h)
      · exact h.elim
    · exact h.elim
  · -- .iinc n z
    simp only [Bool.and_eq_true, decide_eq_true_eq] at hk
    obtain ⟨⟨rfl, hv⟩, hk⟩ := hk
    split at h
    · split at h
      · rename_i hx _ hok
        cases hv
        exact yr_iinc hdc rfl hk hok hx (hQ _ _ _ _ h)
      · exact h.elim
    · exact h.elim
  · -- .iadd
    simp only [Bool.and_eq_true, decide_eq_true_eq] at hk
    subst hk
    split at h
    · exact yr_iadd hdc (hQ _ _ _ _ h)
    · exact h.elim
  · -- .isub
    simp only [Bool.and_eq_true, decide_eq_true_eq] at hk
    subst hk
    split at h
    · exact yr_isub hdc (hQ _ _ _ _ h)
    · exact h.elim
  · -- .imul
    simp only [Bool.and_eq_true, decide_eq_true_eq] at hk
    subst hk
    split at h
    · exact yr_imul hdc (hQ _ _ _ _ h)
    · exact h.elim
  · -- .iand
    simp only [Bool.and_eq_true, decide_eq_true_eq] at hk
    subst hk
    split at h
    · exact yr_iand hdc (hQ _ _ _ _ h)
    · exact h.elim
  · -- .ior
    simp only [Bool.and_eq_true, decide_eq_true_eq] at hk
    subst hk
    split at h
    · exact yr_ior hdc (hQ _ _ _ _ h)
    · exact h.elim
  · -- .ixor
    simp only [Bool.and_eq_true, decide_eq_true_eq] at hk
    subst hk
    split at h
    · exact yr_ixor hdc (hQ _ _ _ _ h)
    · exact h.elim
  · -- .ishl
    simp only [Bool.and_eq_true, decide_eq_true_eq] at hk
    subst hk
    split at h
    · exact yr_ishl hdc (hQ _ _ _ _ h)
    · exact h.elim
  · -- .ishr
    simp only [Bool.and_eq_true, decide_eq_true_eq] at hk
    subst hk
    split at h
    · exact yr_ishr hdc (hQ _ _ _ _ h)
    · exact h.elim
  · -- .irem
    simp only [Bool.and_eq_true, decide_eq_true_eq] at hk
    subst hk
    split at h
    · exact yr_irem hdc h.1 (hQ _ _ _ _ h.2)
    · exact h.elim
  · -- .ladd
    simp only [Bool.and_eq_true, decide_eq_true_eq] at hk
    subst hk
    split at h
    · exact yr_ladd hdc (hQ _ _ _ _ h)
    · exact h.elim
  · -- .lsub
    simp only [Bool.and_eq_true, decide_eq_true_eq] at hk
    subst hk
    split at h
    · exact yr_lsub hdc (hQ _ _ _ _ h)
    · exact h.elim
  · -- .lmul
    simp only [Bool.and_eq_true, decide_eq_true_eq] at hk
    subst hk
    split at h
    · exact yr_lmul hdc (hQ _ _ _ _ h)
    · exact h.elim
  · -- .i2l
    simp only [Bool.and_eq_true, decide_eq_true_eq] at hk
    subst hk
    split at h
    · exact yr_i2l hdc (hQ _ _ _ _ h)
    · exact h.elim
  · -- .l2i
    simp only [Bool.and_eq_true, decide_eq_true_eq] at hk
    subst hk
    split at h
    · exact yr_l2i hdc (hQ _ _ _ _ h)
    · exact h.elim
  · -- .lcmp
    simp only [Bool.and_eq_true, decide_eq_true_eq] at hk
    subst hk
    split at h
    · exact yr_lcmp hdc (hQ _ _ _ _ h)
    · exact h.elim
  · -- .dup
    simp only [Bool.and_eq_true, decide_eq_true_eq] at hk
    subst hk
    split at h
    · split at h
      · rename_i hx; exact yr_dup hdc (of_decide_eq_true hx) (hQ _ _ _ _ h)
      · exact h.elim
    · exact h.elim
  · -- .dup2
    simp only [Bool.and_eq_true, decide_eq_true_eq] at hk
    subst hk
    split at h
    · split at h
      · rename_i hx
        simp only [Bool.and_eq_true, decide_eq_true_eq] at hx
        exact yr_dup2 hdc hx.1 hx.2 (hQ _ _ _ _ h)
      · exact h.elim
    · exact h.elim
  · -- .goto z
    simp only [Bool.and_eq_true, decide_eq_true_eq] at hk
    obtain ⟨rfl, hk⟩ := hk
    exact yr_goto hdc hk (hQ _ _ _ _ h)
  · -- .ifnull z
    simp only [Bool.and_eq_true, decide_eq_true_eq] at hk
    subst hk
    split at h
    · exact yr_ifnull hdc (hQ _ _ _ _ h)
    · exact h.elim
  · -- .ifCond .eq z
    simp only [Bool.and_eq_true, decide_eq_true_eq] at hk
    obtain ⟨rfl, hk⟩ := hk
    split at h
    · exact yr_if_eq hdc hk ⟨fun q => hQ _ _ _ _ (h.1 q), fun q => hQ _ _ _ _ (h.2 q)⟩
    · exact h.elim
  · -- .ifCond .ne z
    simp only [Bool.and_eq_true, decide_eq_true_eq] at hk
    obtain ⟨rfl, hk⟩ := hk
    split at h
    · exact yr_if_ne hdc hk ⟨fun q => hQ _ _ _ _ (h.1 q), fun q => hQ _ _ _ _ (h.2 q)⟩
    · exact h.elim
  · -- .ifCond .lt z
    simp only [Bool.and_eq_true, decide_eq_true_eq] at hk
    obtain ⟨rfl, hk⟩ := hk
    split at h
    · exact yr_if_lt hdc hk ⟨fun q => hQ _ _ _ _ (h.1 q), fun q => hQ _ _ _ _ (h.2 q)⟩
    · exact h.elim
  · -- .ifCond .ge z
    simp only [Bool.and_eq_true, decide_eq_true_eq] at hk
    obtain ⟨rfl, hk⟩ := hk
    split at h
    · exact yr_if_ge hdc hk ⟨fun q => hQ _ _ _ _ (h.1 q), fun q => hQ _ _ _ _ (h.2 q)⟩
    · exact h.elim
  · -- .ifCond .gt z
    simp only [Bool.and_eq_true, decide_eq_true_eq] at hk
    obtain ⟨rfl, hk⟩ := hk
    split at h
    · exact yr_if_gt hdc hk ⟨fun q => hQ _ _ _ _ (h.1 q), fun q => hQ _ _ _ _ (h.2 q)⟩
    · exact h.elim
  · -- .ifCond .le z
    simp only [Bool.and_eq_true, decide_eq_true_eq] at hk
    obtain ⟨rfl, hk⟩ := hk
    split at h
    · exact yr_if_le hdc hk ⟨fun q => hQ _ _ _ _ (h.1 q), fun q => hQ _ _ _ _ (h.2 q)⟩
    · exact h.elim
  · -- .if_icmp .eq z
    simp only [Bool.and_eq_true, decide_eq_true_eq] at hk
    obtain ⟨rfl, hk⟩ := hk
    split at h
    · exact yr_icmp_eq hdc hk ⟨fun q => hQ _ _ _ _ (h.1 q), fun q => hQ _ _ _ _ (h.2 q)⟩
    · exact h.elim
  · -- .if_icmp .ne z
    simp only [Bool.and_eq_true, decide_eq_true_eq] at hk
    obtain ⟨rfl, hk⟩ := hk
    split at h
    · exact yr_icmp_ne hdc hk ⟨fun q => hQ _ _ _ _ (h.1 q), fun q => hQ _ _ _ _ (h.2 q)⟩
    · exact h.elim
  · -- .if_icmp .lt z
    simp only [Bool.and_eq_true, decide_eq_true_eq] at hk
    obtain ⟨rfl, hk⟩ := hk
    split at h
    · exact yr_icmp_lt hdc hk ⟨fun q => hQ _ _ _ _ (h.1 q), fun q => hQ _ _ _ _ (h.2 q)⟩
    · exact h.elim
  · -- .if_icmp .ge z
    simp only [Bool.and_eq_true, decide_eq_true_eq] at hk
    obtain ⟨rfl, hk⟩ := hk
    split at h
    · exact yr_icmp_ge hdc hk ⟨fun q => hQ _ _ _ _ (h.1 q), fun q => hQ _ _ _ _ (h.2 q)⟩
    · exact h.elim
  · -- .if_icmp .gt z
    simp only [Bool.and_eq_true, decide_eq_true_eq] at hk
    obtain ⟨rfl, hk⟩ := hk
    split at h
    · exact yr_icmp_gt hdc hk ⟨fun q => hQ _ _ _ _ (h.1 q), fun q => hQ _ _ _ _ (h.2 q)⟩
    · exact h.elim
  · -- .if_icmp .le z
    simp only [Bool.and_eq_true, decide_eq_true_eq] at hk
    obtain ⟨rfl, hk⟩ := hk
    split at h
    · exact yr_icmp_le hdc hk ⟨fun q => hQ _ _ _ _ (h.1 q), fun q => hQ _ _ _ _ (h.2 q)⟩
    · exact h.elim
  · -- .getfield n
    simp only [Bool.and_eq_true, decide_eq_true_eq] at hk
    obtain ⟨rfl, hk⟩ := hk
    split at hk
    · rename_i q hq
      obtain ⟨C, T, N⟩ := q
      simp only [Bool.and_eq_true, decide_eq_true_eq] at hk
      split at h
      · split at h
        · rename_i hc
          split at h
          · rename_i e1 e2
            have e3 := of_decide_eq_true e1
            subst e3
            exact yr_get hdc hc hq hk.1 e2 (mem_at hk.2) (hQ _ _ _ _ h)
          · exact h.elim
        · exact h.elim
      · exact h.elim
    · cases hk
  · -- .putfield n
    simp only [Bool.and_eq_true, decide_eq_true_eq] at hk
    obtain ⟨rfl, hk⟩ := hk
    split at hk
    · rename_i q hq
      obtain ⟨C, T, N⟩ := q
      simp only [Bool.and_eq_true, decide_eq_true_eq] at hk
      obtain ⟨⟨⟨⟨k1, k2⟩, k3⟩, k4⟩, k5⟩ := hk
      split at h
      · split at h
        · rename_i hc
          split at h
          · rename_i e1 e2
            have e3 := of_decide_eq_true e1
            subst e3
            exact yr_put hdc hc hq k1 k4 e2 (mem_at k2) k3 (by unfold yFit; rw [k5]; trivial) (hQ _ _ _ _ h)
          · rename_i e1 e2
            have e3 := of_decide_eq_true e1
            subst e3
            exact yr_put hdc hc hq k1 k4 e2 (mem_at k2) k3 (by unfold yFit; rw [k5]; exact h.1) (hQ _ _ _ _ h.2)
          · exact h.elim
        · exact h.elim
      · split at h
        · rename_i hc
          split at h
          · rename_i e1 e2
            simp only [Bool.and_eq_true, decide_eq_true_eq] at e1
            obtain ⟨e3, e4⟩ := e1
            subst e3
            exact yr_putL hdc hc hq k1 e4 e2 (mem_at k2) k3 k5 (hQ _ _ _ _ h)
          · exact h.elim
        · exact h.elim
      · exact h.elim
    · cases hk
  · -- .iaload
    simp only [Bool.and_eq_true, decide_eq_true_eq] at hk
    subst hk
    split at h
    · split at h
      · rename_i hc
        split at h
        · rename_i e1
          have e3 := of_decide_eq_true e1
          subst e3
          exact yr_iaload hdc hc h.1 (hQ _ _ _ _ h.2)
        · exact h.elim
      · exact h.elim
    · exact h.elim
  · -- .baload
    simp only [Bool.and_eq_true, decide_eq_true_eq] at hk
    subst hk
    split at h
    · split at h
      · rename_i hc
        split at h
        · rename_i e1
          have e3 := of_decide_eq_true e1
          subst e3
          exact yr_baload hdc hc h.1 (hQ _ _ _ _ h.2)
        · exact h.elim
      · exact h.elim
    · exact h.elim
  · -- .iastore
    simp only [Bool.and_eq_true, decide_eq_true_eq] at hk
    subst hk
    split at h
    · split at h
      · rename_i hc
        split at h
        · rename_i e1
          have e3 := of_decide_eq_true e1
          subst e3
          exact yr_iastore hdc hc h.1 (hQ _ _ _ _ h.2)
        · exact h.elim
      · exact h.elim
    · exact h.elim
  · -- .bastore
    simp only [Bool.and_eq_true, decide_eq_true_eq] at hk
    subst hk
    split at h
    · split at h
      · rename_i hc
        split at h
        · rename_i e1
          have e3 := of_decide_eq_true e1
          subst e3
          exact yr_bastore hdc hc h.1 h.2.1 (hQ _ _ _ _ h.2.2)
        · exact h.elim
      · exact h.elim
    · exact h.elim
  · -- .aaload
    simp only [Bool.and_eq_true, decide_eq_true_eq] at hk
    subst hk
    split at h
    · split at h
      · rename_i hc
        obtain ⟨h1, h2⟩ := h
        obtain ⟨j, j1, j2⟩ := yAl.out h1 h2
        exact yr_aaload hdc hc h1 j1 (hQ _ _ _ _ j2)
      · exact h.elim
    · exact h.elim
  · -- .arraylength
    simp only [Bool.and_eq_true, decide_eq_true_eq] at hk
    subst hk
    split at h
    · split at h
      · rename_i hc
        split at h
        · rename_i e1
          exact yr_alen hdc hc (of_decide_eq_true e1) rfl (hQ _ _ _ _ h)
        · exact h.elim
      · exact h.elim
    · exact h.elim
  · -- .lookupswitch df ps
    simp only [Bool.and_eq_true, decide_eq_true_eq] at hk
    split at h
    · exact yr_lookup hdc hk (h.imp fun t ht => hQ _ _ _ _ ht)
    · exact h.elim
  · -- .tableswitch df lo hi os
    simp only [Bool.and_eq_true, decide_eq_true_eq] at hk
    split at h
    · exact yr_table hdc hk (h.imp fun t ht => hQ _ _ _ _ ht)
    · exact h.elim
  · -- .ireturn
    simp only [Bool.and_eq_true, decide_eq_true_eq] at hk
    subst hk
    split at h
    · rename_i e1; exact yr_iret hdc (Or.inl e1) h
    · rename_i e1; exact yr_iret hdc (Or.inr ⟨e1, h.1⟩) h.2
    · exact h.elim
  · -- .lreturn
    simp only [Bool.and_eq_true, decide_eq_true_eq] at hk
    subst hk
    split at h
    · rename_i e1; exact yr_lret hdc e1 h
    · exact h.elim
  · -- .return_
    simp only [Bool.and_eq_true, decide_eq_true_eq] at hk
    subst hk
    split at h
    · rename_i e1; exact yr_vret hdc e1 h
    · exact h.elim
  · -- .invokestatic n
    simp only [Bool.and_eq_true, decide_eq_true_eq] at hk
    obtain ⟨rfl, hk⟩ := hk
    cases d with
    | zero => exact h.elim
    | succ d' =>
      simp only at h
      split at h
      · rename_i ea
        have ea := of_decide_eq_true ea
        rw [if_pos ea] at hk
        split at h
        · split at h
          · rename_i h0 h1
            split at h
            · rename_i e1
              simp only [Bool.and_eq_true, decide_eq_true_eq] at e1
              obtain ⟨⟨rfl, rfl⟩, e4⟩ := e1
              exact yr_copy hdc (of_decide_eq_true hk) acp_ok.1 acp_ok.2.1 acp_ok.2.2 h0 h1 h.1 e4 (hQ _ _ _ _ h.2)
            · exact h.elim
          · exact h.elim
        · exact h.elim
      · rename_i ea
        have ea := of_decide_eq_false ea
        rw [if_neg ea] at hk
        simp only [Bool.and_eq_true, decide_eq_true_eq] at hk
        split at h
        · rename_i ec
          simp only [yCok, Bool.and_eq_true, decide_eq_true_eq] at ec
          have hM := hG a (by simpa using hk.1.1)
          have est : st = (st.take (yK a)).reverse.reverse ++ st.drop (yK a) := by rw [List.reverse_reverse, List.take_append_drop]
          rw [est]
          by_cases hb : b = 0
          · have hk2 := hk.2
            rw [if_pos hb] at hk2
            exact yr_callS hdc hM hk.1.2 (mem_at (of_decide_eq_true hk2)) ec.1.1 ec.1.2 ec.2 h (fun v τ hv => hQ _ _ _ _ hv.go)
          · have hk2 := hk.2
            rw [if_neg hb] at hk2
            exact yr_callSN hdc hM hk.1.2 (mem_at (of_decide_eq_true hk2)) ec.1.1 ec.1.2 ec.2 h (fun v τ hv => hQ _ _ _ _ hv.go)
        · exact h.elim
  · -- .invokevirtual n
    simp only [Bool.and_eq_true, decide_eq_true_eq] at hk
    obtain ⟨rfl, hk⟩ := hk
    cases d with
    | zero => exact h.elim
    | succ d' =>
      simp only at h
      split at h
      · rename_i hdrop
        split at h
        · rename_i hc
          split at h
          · rename_i ec
            simp only [yCok, Bool.and_eq_true, decide_eq_true_eq, List.length_cons] at ec
            obtain ⟨e0, ⟨e1, e2⟩, e3⟩ := ec
            subst e0
            have hM := hG a (by simpa using hk.1.1)
            have est : st = (st.take (yK a)).reverse.reverse ++ st.drop (yK a) := by rw [List.reverse_reverse, List.take_append_drop]
            rw [est, hdrop]
            by_cases hb : b = 0
            · have hk2 := hk.2
              rw [if_pos hb] at hk2
              exact yr_callV hdc hM hk.1.2 hc (mem_at (of_decide_eq_true hk2)) (by omega) e2 e3 h (fun v τ hv => hQ _ _ _ _ hv.go)
            · have hk2 := hk.2
              rw [if_neg hb] at hk2
              exact yr_callVN hdc hM hk.1.2 hc (mem_at (of_decide_eq_true hk2)) (by omega) e2 e3 h (fun v τ hv => hQ _ _ _ _ hv.go)
          · exact h.elim
        · exact h.elim
      · exact h.elim
  · exact h.elim
