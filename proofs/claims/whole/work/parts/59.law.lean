/-! THE CLAIM OUT OF ONE WALK OF THE LAW'S BODY. Your part is whole_start (and what it stands on); all else here is the same for every law, but numbers. -/
def R_law : String := "YieldLinesLaw"
def lw_P (b : Addr) (xs : List Int32) (args : Array Value) (s : State) : Prop := args = #[.ref b] ∧ s.IntsAt b xs ∧ xs.length ≤ 1536 ∧ (Jvm.Cond.and given_1 narrow_1).before args s = true
def lw_Q (_ : Array Value) (s : State) (o : Outcome) (t : State) : Prop := o = .returned (some (.int 1)) ∧ Framed s o t [] 600000 7302250
def lw_Z (below : List Frame) (a : Array Value) (s : State) : State → Prop := fun t => ∃ o, t.status = .running ∧ Ended t below o ∧ lw_Q a s o t
/-- the law's own end, with 1 on the stack, nothing written that was there before, its room as the claim has it -/
theorem lw_ret {p : Program} {l : Launch} {e : Env} {s : State} {m : MethodId} {below : List Frame} {meth : Method} {c : Code} {b : Nat} (hx : p.tables.exec = Jvm.exec) (hb : c.code = code) (hr : meth.sig.returnType = ret) (hlocks : meth.locks = false) {pc : Nat} {H : Heap} {ls : Array Slot} (hdg : decode code pc = .ok (.ireturn, 1)) : W p l e room_1 s m #[Value.ref b] below meth c H [] 600000 7302250 (lw_Z below #[Value.ref b] s) (F0 m pc ls [.int 1]) := by
  intro T hT X
  obtain ⟨fs, hret, hrun, hended, hW, hframe⟩ := X.leave (v := some (.int 1)) (hlocks := hlocks) (fun h => by rw [hr] at h; cases h)
  have hmeth' : T.vm.method? m = some meth := X.method'
  refine ⟨T.setFrames fs, ?_, .returned (some (.int 1)), hrun, hended, rfl, ⟨_, rfl⟩, hW, hframe⟩
  jvm_step X.here [X.here.top, hx, hb, hdg, hmeth', hr, ret, narrow_b1]
  (try refine ⟨rfl, ?_⟩); (try refine ⟨rfl, ?_⟩)
  first | (intro acts; rw [hret _ acts rfl rfl rfl]) | rw [hret _ _ rfl rfl rfl]
  exact Steps.refl _
/-- what holds at the law's entry: the machine, the code, the tables' words (any of lw_tbl by 'hts w (by decide +kernel)'), the script of L ints xs at the cell b, what the Statement gives of the start (any of its parts by flat_of_before) -/
def lw_At (p : Program) (s : State) (m : MethodId) (meth : Method) (c : Code) (b L : Nat) (xs : Nat → Int32) : Prop :=
  p.tables.exec = Jvm.exec ∧ c.code = code ∧ meth.sig.returnType = ret ∧ c.maxLocals = 4 ∧ s.vm.findClass R_law = some m.cls ∧ (∀ w ∈ lw_tbl, w.before #[Value.ref b] s = true) ∧ va_X b L xs s s.heap ∧ b < s.heap.size ∧ meth.locks = false ∧ (Jvm.Cond.and given_1 narrow_1).before #[Value.ref b] s = true

section LQ
variable {p : Program} {l : Launch} {e : Env} {R : Room} {s : State} {m : MethodId} {args : Array Value} {below : List Frame} {meth : Method} {c : Code} {H : Heap} {locs : List Loc} {cells slots : Nat} {Q0 : State → Prop} {pc : Nat} {ls : Array Slot} {rest st0 : List Value} {a : Array Value} {A : Nat → Prop} {ad : Nat → Nat} {ty : Nat → ClassId} {D : va_G} {Q : Option Value → yS → Prop}
/-- behind a call of the law -/
theorem lw_q (hr : va_Run p l e R s m args below meth c H locs cells slots 0 0 (F0 m pc ls st0) rest (yQ ad ty D A Q a) A) (hS : va_S A s.heap H locs)
    (kk : ∀ (r : Option Value) (σ : yS) (H1 : Heap) (locs1 : List Loc), Q r σ → va_P D vwCl (wd ad ty σ) H1 → va_D A (wd ad ty σ) → va_S A s.heap H1 locs1 → W p l e R s m args below meth c H1 locs1 cells slots Q0 (F0 m (pc + 3) ls ((r.map (cv ad)).toList ++ rest))) : W p l e R s m args below meth c H locs cells slots Q0 (F0 m pc ls st0) := by
  intro T hT X
  obtain ⟨v, st₀, t, T', L, h0, X', hL, e1, e2, ⟨⟨r, τ, hv, hq, hP1, hD1⟩, hz, hk⟩, st⟩ := hr T hT X
  cases hv
  rw [h0] at hz hk
  obtain ⟨t2, a1, b1⟩ := kk r τ T'.heap (locs ++ L) hq (by rw [e1]; exact hP1) hD1
    ⟨Nat.le_trans hS.1 (by rw [e1]; exact hz), fun q h1 h2 => by rw [e1, hk q (Nat.lt_of_lt_of_le h1 hS.1) h2]; exact hS.2.1 q h1 h2, fun q hq => by
      rcases List.mem_append.mp hq with h | h
      · exact hS.2.2 q h
      · exact hL q h⟩ T' rfl X'
  exact ⟨t2, st t2 a1, b1⟩
/-- a call of the law, by the pure judgement -/
theorem lw_call {i cal b : Nat} {vs : List Value} {fds : List yF} {σ : yS} (X : kX p s m args c R_law code 4 ty D) (hk : chkM cal = true) (hst : yI cal ≠ 99) (hb : ysh[b]? = some (.inr (.inr (yI cal, fds)))) (hlk : Cond.methodLink R_law i (yN cal) ∈ lw_tbl) (hn : vs.length = yK cal) (hsl : (sl (.ref b :: vs)).length ≤ yL cal) (hc : (rest.map fun v => v.category).sum ≤ 8)
    (h : yR 200 cal 0 (ent (yL cal) (.ref b :: vs)) [] σ Q) (hP : va_P D vwCl (wd ad ty σ) H) (hD : va_D A (wd ad ty σ)) (hS : va_S A s.heap H locs) (hsz : ls.size = 4) (hfc : cells ≤ 600000) (hfs : slots ≤ 7302250) (hd : decode code pc = .ok (.invokevirtual i, 3)) (hst0 : st0 = (vs.map (cv ad)).reverse ++ .ref (ad b) :: rest)
    (kk : ∀ (r : Option Value) (τ : yS) (H1 : Heap) (locs1 : List Loc), Q r τ → va_P D vwCl (wd ad ty τ) H1 → va_D A (wd ad ty τ) → va_S A s.heap H1 locs1 → W p l e room_1 s m args below meth c H1 locs1 cells slots Q0 (F0 m (pc + 3) ls ((r.map (cv ad)).toList ++ rest))) : W p l e room_1 s m args below meth c H locs cells slots Q0 (F0 m pc ls st0) := by
  subst hst0
  have hM := h.met hk hsl l ad ty D A
  have hk2 := hk
  simp only [chkM, Bool.and_eq_true, decide_eq_true_eq, hst, if_false] at hk2
  have hG : GoodIn (lw_tbl.filter goodWord) (wsV R_law i (yN cal).cls (yN cal) (yW cal)) := by
    refine goodIn_add ?_ (goodIn_yW hk)
    intro w hw
    simp only [List.mem_cons, List.not_mem_nil, or_false] at hw
    rcases hw with rfl | rfl | rfl | rfl
    · exact ⟨List.mem_filter.mpr ⟨hlk, rfl⟩, good_of_word rfl⟩
    · exact ⟨List.mem_filter.mpr ⟨mem_at hk2.1.1.1.1.1.2.1.1, rfl⟩, good_of_word rfl⟩
    · exact ⟨List.mem_filter.mpr ⟨mem_at hk2.1.1.1.1.1.2.1.2, rfl⟩, good_of_word rfl⟩
    · exact ⟨List.mem_filter.mpr ⟨mem_at hk2.1.1.1.1.2, rfl⟩, good_of_word rfl⟩
  have h21 : yL cal ≤ 21 := hk2.2
  have cw := cwV (R := room_1) (rm := yRm 200) (mc := 0) (ms := 0) (args := args) (s := s) (yK cal) X.2.2.2.2.1 hG rfl rfl rfl ⟨rfl, hk2.1.1.1.2, hk2.1.1.2, hk2.1.2⟩ ⟨Nat.le_of_ble_eq_true rfl, by show 8 + (yL cal + 11) + 40 * 200 ≤ 84000; omega⟩
  obtain ⟨q, hq1, hq2⟩ := Option.map_eq_some_iff.mp hk2.1.1.1.1.1.2.2
  have hrec := va_recv X.2.2.2.2.2.2.1 hP hq1 (wd_at hb)
  rw [hq2] at hrec
  have hrun := va_runV (p := p) (l := l) (e := e) (below := below) (meth := meth) (H := H) (locs := locs) (cells := cells) (slots := slots) (As := vs.map (cv ad)) (rest := rest) (b := ad b) (g := F0 m pc ls ((vs.map (cv ad)).reverse ++ .ref (ad b) :: rest)) ⟨X.1, X.2.1, X.2.2.1, X.2.2.2.1, X.2.2.2.2.1⟩ hM cw ⟨yPre_blind, hrec, fun U hU hW => ⟨rfl, by rw [hU]; exact hP, hD, fun o i y h hm => va_Nw.warmM hW (X.2.2.2.2.2.1 o i y h hm), va_K.moved hW.alike X.2.2.2.2.2.2.1⟩⟩ rfl (by rw [List.length_map, hn]) hsz rfl (lv_room hc) hd ⟨hfc, hfs⟩
  exact lw_q hrun hS kk
end LQ
theorem inv0 : Inv z0 := by
  have n0 : (0 : Int32) = nI 0 := rfl
  have num0 : Num 0 := by unfold Num; decide
  refine ⟨⟨rfl, rfl, rfl⟩, ⟨0, by omega, rfl, rfl, fun j hj => by omega⟩, ⟨0, fun _ => 0, fun _ => 0, fun _ => 0, by omega, rfl, rfl, by show 0 ≤ 60; omega, fun k hk => by omega, fun x hx => ⟨rfl, num0⟩⟩, ⟨0, 0, by omega, by omega, rfl, rfl, rfl, fun i hi => by omega⟩, Or.inl rfl⟩
theorem lw_known {s : State} {args : Array Value} (hts : ∀ w ∈ lw_tbl, w.before args s = true) : ∃ (ty : Nat → ClassId) (D : va_G), va_K D vwCl (tys ty) s := by
  obtain ⟨c5, i5, h5⟩ := u_known (C := RX5) (T := TX5) (N := 10) (n := 10) hts inX5 (hts (.instantiable RX5 10) (mem_at (p := 93) (by decide +kernel)))
  obtain ⟨c4, i4, h4⟩ := u_known (C := RX4) (T := TX4) (N := 11) (n := 11) hts inX4 (hts (.instantiable RX4 11) (mem_at (p := 101) (by decide +kernel)))
  obtain ⟨c3, i3, h3⟩ := u_known (C := RX3) (T := TX3) (N := 11) (n := 11) hts inX3 (hts (.instantiable RX3 11) (mem_at (p := 167) (by decide +kernel)))
  obtain ⟨c0, i0, h0⟩ := u_known (C := RX0) (T := TX0) (N := 3) (n := 3) hts inX0 (hts (.instantiable RX0 3) (mem_at (p := 210) (by decide +kernel)))
  obtain ⟨c1, i1, h1⟩ := u_known (C := RX1) (T := TX1) (N := 9) (n := 9) hts inX1 (hts (.instantiable RX1 9) (mem_at (p := 230) (by decide +kernel)))
  obtain ⟨c2, i2, h2⟩ := u_known (C := RX2) (T := TX2) (N := 8) (n := 8) hts inX2 (hts (.instantiable RX2 8) (mem_at (p := 268) (by decide +kernel)))
  obtain ⟨c6, i6, h6⟩ := u_known (C := RX6) (T := TX6) (N := 38) (n := 38) hts inX6 (hts (.instantiable RX6 38) (mem_at (p := 656) (by decide +kernel)))
  obtain ⟨t0, k0, m0, f0, g0, e0⟩ := Cond.arrayClass_spec (hts (.arrayClass .int) (mem_at (p := 165) (by decide +kernel)))
  obtain ⟨t1, k1, m1, f1, g1, e1⟩ := Cond.arrayClass_spec (hts (.arrayClass .boolean) (mem_at (p := 776) (by decide +kernel)))
  obtain ⟨m2, t2, k2, b1, b2, b3, b4, b5⟩ := Cond.arrayOver_spec (hts (.arrayOver (.object "YieldLines$State")) (mem_at (p := 216) (by decide +kernel)))
  refine ⟨fun k => if k = 0 then t0 else if k = 1 then t1 else t2, (fun k => if k = 0 then c0 else if k = 1 then c1 else if k = 2 then c2 else if k = 3 then c3 else if k = 4 then c4 else if k = 5 then c5 else c6, fun k => if k = 0 then i0 else if k = 1 then i1 else if k = 2 then i2 else if k = 3 then i3 else if k = 4 then i4 else if k = 5 then i5 else i6), fun k q hq => ?_, fun k q hq => ?_⟩
  · match k, hq with
    | 0, hq => cases hq; exact h0
    | 1, hq => cases hq; exact h1
    | 2, hq => cases hq; exact h2
    | 3, hq => cases hq; exact h3
    | 4, hq => cases hq; exact h4
    | 5, hq => cases hq; exact h5
    | 6, hq => cases hq; exact h6
    | n + 7, hq => exact absurd hq (by simp [vwCl])
  · match k, hq with
    | 0, hq => cases hq; exact ⟨fun n z => ⟨fun k h => (by cases h), k0, g0, m0, e0⟩, f0⟩
    | 1, hq => cases hq; exact ⟨fun n z => ⟨fun k h => (by cases h), k1, g1, m1, e1⟩, f1⟩
    | 2, hq => cases hq; exact ⟨fun n z => ⟨fun k h => (by cases h), k2, b3, m2, b4⟩, k2, m2, b3, b4, b1, b5⟩
    | n + 3, hq => exact absurd hq (by simp [tys])
