/-- the sides of a copy -/
def yCp (sp dp n : Int32) (n0 n1 : Nat) : Prop := ¬ sp < 0 ∧ ¬ dp < 0 ∧ ¬ n < 0 ∧ sp.toNatClampNeg + n.toNatClampNeg ≤ n0 ∧ dp.toNatClampNeg + n.toNatClampNeg ≤ n1
/-- the places of a method's words, checked by program -/
def chkM (mi : Nat) : Bool :=
  plainFor (yN mi) && decide (lw_tbl[yP mi 0]? = some (.code (yN mi) (yB mi) (yL mi) (yT mi)))
  && (if yI mi = 99 then decide (lw_tbl[yP mi 1]? = some (.static (yN mi))) else decide (lw_tbl[yP mi 1]? = some (.instanceMethod (yN mi))) && decide (lw_tbl[yP mi 2]? = some (.selects (yN mi).cls (yN mi) (yN mi))) && decide ((vwCl[yI mi]?).map (·.1) = some (yN mi).cls))
  && decide (lw_tbl[yP mi 3]? = some (.initialized (yN mi).cls)) && decide ((yN mi).cls ≠ "java/lang/invoke/MethodHandle") && decide ((yN mi).cls ≠ "java/lang/invoke/VarHandle")
  && decide ((parseMethodDescriptor (yN mi).desc).map (fun d => d.parameters.length) = some (yK mi)) && decide (yL mi ≤ 21)
/-- a method's words -/
def yW (mi : Nat) : List Cond := .code (yN mi) (yB mi) (yL mi) (yT mi) :: lw_tbl.filter goodWord
theorem goodIn_yW {mi : Nat} (h : chkM mi = true) : GoodIn (lw_tbl.filter goodWord) (yW mi) := by
  intro w hw
  have h2 : w ∈ lw_tbl.filter goodWord := by
    rcases List.mem_cons.mp hw with rfl | hw
    · simp only [chkM, Bool.and_eq_true, decide_eq_true_eq] at h
      exact List.mem_filter.mpr ⟨mem_at h.1.1.1.1.1.1.2, rfl⟩
    · exact hw
  exact ⟨h2, good_of_word (List.mem_filter.mp h2).2⟩
/-- what a method finds as it begins -/
def yPre (ad : Nat → Nat) (ty : Nat → ClassId) (D : va_G) (A : Nat → Prop) (σ : yS) (U : State) : Prop :=
  va_P D vwCl (wd ad ty σ) U.heap ∧ va_D A (wd ad ty σ) ∧ (∀ (o : String) (i : Nat) (y : MethodName) (h : String), Cond.methodLinkNest o i y h ∈ lw_tbl → va_Nw (.methodLinkNest o i y h) U) ∧ va_K D vwCl (tys ty) U
theorem met_ofWF {l : Launch} {y : MethodName} {ws ws' : List Cond} {rm : Room} {Pc : Array Value → State → Prop} {Qc : Array Value → State → Outcome → State → Prop} {mc ms : Nat} {free : Addr → Prop} {cc : ByteArray} {maxL : Nat} {ret : Option FieldType}
    (hy : plainFor y = true) (hw : ws = Cond.code y cc maxL ret :: ws')
    (body : ∀ p e s m args below meth c s₁, BodyLoose p l y (headSpec ws rm) cc maxL ret e s m args below meth c s₁ → c.maxLocals = maxL → Pc args s →
      W p l e (headSpec ws rm).room s m args below meth c s.heap [] 0 0 (MQ below Qc args s mc ms free) (entryFrame m args maxL)) : Met l y ws rm Pc Qc mc ms free := by
  refine MetFree.of_bodySF (code := cc) (maxLocals := maxL) (ret := ret) hy ?_ ?_
  · intro args s m h hn
    obtain ⟨meth, c, h1, h2, h3, h4, h5, h6, -, -⟩ := Cond.code_spec hn (atoms_spec (ws := ws) h _ (by rw [hw]; exact List.mem_cons_self))
    exact ⟨meth, c, h1, h2, h3, h4, h5, h6⟩
  · intro p e s m args below meth c s₁ B hml hP _
    have hh0 : s₁.heap = s.heap := by rw [B.state]; rfl
    obtain ⟨t, a1, o, b1, b2, b3⟩ := body p e s m args below meth c s₁ B hml hP s₁ hh0 (Stand.of_body B)
    exact ⟨t, o, a1, b1, b2, ⟨b3.1, b3.2⟩⟩
theorem yR.met {d mi : Nat} {vs : List Value} {σ : yS} {Q : Option Value → yS → Prop} (hk : chkM mi = true) (hn : (sl vs).length ≤ yL mi) (h : yR d mi 0 (ent (yL mi) vs) [] σ Q) (l : Launch) (ad : Nat → Nat) (ty : Nat → ClassId) (D : va_G) (A : Nat → Prop) :
    Met l (yN mi) (yW mi) (yRm d) (va_Pc (vs.map (cv ad)) (yPre ad ty D A σ)) (yQ ad ty D A Q) 0 0 A := by
  have hp : plainFor (yN mi) = true := by
    simp only [chkM, Bool.and_eq_true, decide_eq_true_eq] at hk
    exact hk.1.1.1.1.1.1.1
  refine met_ofWF (cc := yB mi) (maxL := yL mi) (ret := yT mi) hp rfl ?_
  intro p e s m args below meth c s₁ B hml hv
  obtain ⟨rfl, hP, hD, hN, hK⟩ := hv
  have hts := atoms_spec (ws := yW mi) B.pre
  rw [lg_entry_eq]
  exact h l p e s m _ below meth c ad ty D A s.heap [] _ ⟨B.exec, B.bytes, B.returns, hml, findClass_of_methodNamed B.named, fun w hw hg => hts w (List.mem_cons_of_mem _ (List.mem_filter.mpr ⟨hw, hg⟩)), hN, B.notSynchronized, hK⟩ hP hD va_S.rf (ent_ok hn)
theorem goodIn_add {big a b : List Cond} (ha : GoodIn big a) (hb : GoodIn big b) : GoodIn big (a ++ b) := fun w h => (List.mem_append.mp h).elim (ha w) (hb w)
theorem yPre_blind {vs : List Value} {ad : Nat → Nat} {ty : Nat → ClassId} {D : va_G} {A : Nat → Prop} {σ : yS} : FrameBlind (va_Pc vs (yPre ad ty D A σ)) := by
  intro a U g mk q
  obtain ⟨q0, qP, qD, qN, qK⟩ := q
  exact ⟨q0, qP, qD, fun o i y h hm => va_Nw.same rfl (u := U) (U := U.calling g mk a) rfl (qN o i y h hm), va_K.moved (u := U) (U := U.calling g mk a) (Vm.Alike.refl U.vm) qK⟩
theorem yPre_of {p : Program} {s : State} {m : MethodId} {args : Array Value} {meth : Method} {c : Code} {mi : Nat} {ad : Nat → Nat} {ty : Nat → ClassId} {D : va_G} {A : Nat → Prop} {σ : yS} {H : Heap} (X : yX p s m args meth c mi ty D) (hP : va_P D vwCl (wd ad ty σ) H) (hD : va_D A (wd ad ty σ)) :
    ∀ U : State, U.heap = H → s.WarmedH U.vm → yPre ad ty D A σ U := fun U hU hW => ⟨by rw [hU]; exact hP, hD, fun o i y h hm => va_Nw.warmM hW (X.2.2.2.2.2.2.1 o i y h hm), va_K.moved hW.alike X.2.2.2.2.2.2.2.2⟩
/-- behind a call -/
theorem yq_call {p : Program} {l : Launch} {e : Env} {R : Room} {s : State} {m : MethodId} {args : Array Value} {below : List Frame} {meth : Method} {c : Code} {H : Heap} {locs : List Loc} {Q0 : State → Prop} {pc : Nat} {ls : Array Slot} {rest st0 : List Value} {a : Array Value} {A : Nat → Prop} {ad : Nat → Nat} {ty : Nat → ClassId} {D : va_G} {Q : Option Value → yS → Prop}
    (hr : va_Run p l e R s m args below meth c H locs 0 0 0 0 (F0 m pc ls st0) rest (yQ ad ty D A Q a) A) (hS : va_S A s.heap H locs)
    (kk : ∀ (r : Option Value) (σ : yS) (H1 : Heap) (locs1 : List Loc), Q r σ → va_P D vwCl (wd ad ty σ) H1 → va_D A (wd ad ty σ) → va_S A s.heap H1 locs1 → W p l e R s m args below meth c H1 locs1 0 0 Q0 (F0 m (pc + 3) ls ((r.map (cv ad)).toList ++ rest))) : W p l e R s m args below meth c H locs 0 0 Q0 (F0 m pc ls st0) := by
  intro T hT X
  obtain ⟨v, st₀, t, T', L, h0, X', hL, e1, e2, ⟨⟨r, τ, hv, hq, hP1, hD1⟩, hz, hk⟩, st⟩ := hr T hT X
  cases hv
  rw [h0] at hz hk
  obtain ⟨t2, a1, b1⟩ := kk r τ T'.heap (locs ++ L) hq (by rw [e1]; exact hP1) hD1
    ⟨Nat.le_trans hS.1 (by rw [e1]; exact hz), fun q h1 h2 => by rw [e1, hk q (Nat.lt_of_lt_of_le h1 hS.1) h2]; exact hS.2.1 q h1 h2, fun q hq => by
      rcases List.mem_append.mp hq with h | h
      · exact hS.2.2 q h
      · exact hL q h⟩ T' rfl X'
  exact ⟨t2, st t2 a1, b1⟩
theorem cat_sum (ad : Nat → Nat) (r : List Value) : ((r.map (cv ad)).map fun v => v.category).sum = (r.map fun v => v.category).sum := by
  congr 1
  rw [List.map_map]
  apply List.map_congr_left
  intro v _
  exact cv_cat ad v
section YC
variable {d mi pc : Nat} {L : List (Option Value)} {r : List Value} {σ : yS} {Q : Option Value → yS → Prop}
theorem yRm_ok {d mi : Nat} (h : chkM mi = true) : (yRm d).frames + 1 ≤ (yRm (d + 1)).frames ∧ 8 + (yL mi + 11) + (yRm d).locals ≤ (yRm (d + 1)).locals := by
  simp only [chkM, Bool.and_eq_true, decide_eq_true_eq] at h
  have := h.2
  constructor
  · show d + 1 ≤ d + 1; omega
  · show 8 + (yL mi + 11) + 40 * d ≤ 40 * (d + 1); omega
theorem yr_callS {i cal : Nat} {vs : List Value} {Q2 : Option Value → yS → Prop} (hd : decode (yB mi) pc = .ok (.invokestatic i, 3)) (hk : chkM cal = true) (hst : yI cal = 99) (hlk : Cond.methodLink (yN mi).cls i (yN cal) ∈ lw_tbl) (hn : vs.length = yK cal) (hsl : (sl vs).length ≤ yL cal) (hc : (r.map fun v => v.category).sum ≤ 8)
    (h : yR d cal 0 (ent (yL cal) vs) [] σ Q2) (hq : ∀ v τ, Q2 v τ → yR (d + 1) mi (pc + 3) L (v.toList ++ r) τ Q) : yR (d + 1) mi pc L (vs.reverse ++ r) σ Q := by
  intro l p e s m args below meth c ad ty D A H locs ls X hP hD hS hl
  have hM := h.met hk hsl l ad ty D A
  have hk2 := hk
  simp only [chkM, Bool.and_eq_true, decide_eq_true_eq, hst, if_true] at hk2
  have hG : GoodIn (lw_tbl.filter goodWord) (va_wsS (yN mi).cls i (yN cal) (yW cal)) := by
    refine goodIn_add ?_ (goodIn_yW hk)
    intro w hw
    simp only [List.mem_cons, List.not_mem_nil, or_false] at hw
    rcases hw with rfl | rfl | rfl
    · exact ⟨List.mem_filter.mpr ⟨hlk, rfl⟩, good_of_word rfl⟩
    · exact ⟨List.mem_filter.mpr ⟨mem_at hk2.1.1.1.1.1.2, rfl⟩, good_of_word rfl⟩
    · exact ⟨List.mem_filter.mpr ⟨mem_at hk2.1.1.1.1.2, rfl⟩, good_of_word rfl⟩
  have cw := va_cwS (R := yRm (d + 1)) (rm := yRm d) (mc := 0) (ms := 0) (args := args) (s := s) (yK cal) X.hts hG rfl rfl rfl ⟨hk2.1.1.1.2, hk2.1.1.2, hk2.1.2⟩ (yRm_ok hk)
  have hrun := va_runS (p := p) (l := l) (e := e) (below := below) (meth := meth) (H := H) (locs := locs) (cells := 0) (slots := 0) (As := vs.map (cv ad)) (rest := r.map (cv ad)) (g := F0 m pc ls ((vs.reverse ++ r).map (cv ad))) ⟨X.1, X.2.1, X.2.2.2.1, X.2.2.2.2.1, X.hts⟩ hM cw ⟨yPre_blind, fun U hU hW => ⟨rfl, yPre_of X hP hD U hU hW⟩⟩ rfl (by rw [List.length_map, hn]) hl.1 (by simp) (lv_room (by rw [cat_sum]; exact hc)) hd ⟨Nat.le_refl 0, Nat.le_refl 0⟩
  refine yq_call hrun hS (fun v τ H1 locs1 h1 hP1 hD1 hS1 => ?_)
  have := hq v τ h1 l p e s m args below meth c ad ty D A H1 locs1 ls X hP1 hD1 hS1 hl
  rw [List.map_append] at this
  have e1 : (v.map (cv ad)).toList = v.toList.map (cv ad) := by cases v <;> rfl
  rw [e1]
  exact this
theorem yr_callSN {i cal : Nat} {vs : List Value} {ho : String} {Q2 : Option Value → yS → Prop} (hd : decode (yB mi) pc = .ok (.invokestatic i, 3)) (hk : chkM cal = true) (hst : yI cal = 99) (hlk : Cond.methodLinkNest (yN mi).cls i (yN cal) ho ∈ lw_tbl) (hn : vs.length = yK cal) (hsl : (sl vs).length ≤ yL cal) (hc : (r.map fun v => v.category).sum ≤ 8)
    (h : yR d cal 0 (ent (yL cal) vs) [] σ Q2) (hq : ∀ v τ, Q2 v τ → yR (d + 1) mi (pc + 3) L (v.toList ++ r) τ Q) : yR (d + 1) mi pc L (vs.reverse ++ r) σ Q := by
  intro l p e s m args below meth c ad ty D A H locs ls X hP hD hS hl
  have hM := h.met hk hsl l ad ty D A
  have hk2 := hk
  simp only [chkM, Bool.and_eq_true, decide_eq_true_eq, hst, if_true] at hk2
  have cw := va_cnB (R := yRm (d + 1)) (rm := yRm d) (mc := 0) (ms := 0) (args := args) (s := s) (yK cal) X.hts (goodIn_yW hk) rfl rfl rfl (X.2.2.2.2.2.2.1 _ _ _ _ hlk) (X.2.2.2.2.2.1 _ (mem_at hk2.1.1.1.1.2) rfl) ⟨hk2.1.1.1.2, hk2.1.1.2, hk2.1.2⟩ (yRm_ok hk)
  have hrun := va_runSN (p := p) (l := l) (e := e) (below := below) (meth := meth) (H := H) (locs := locs) (cells := 0) (slots := 0) (As := vs.map (cv ad)) (rest := r.map (cv ad)) (g := F0 m pc ls ((vs.reverse ++ r).map (cv ad))) ⟨X.1, X.2.1, X.2.2.2.1, X.2.2.2.2.1, X.hts⟩ hM ⟨cw, X.2.2.2.2.2.1 _ (mem_at hk2.1.1.1.1.1.2) rfl, trivial⟩ ⟨yPre_blind, fun U hU hW => ⟨rfl, yPre_of X hP hD U hU hW⟩⟩ rfl (by rw [List.length_map, hn]) hl.1 (by simp) (lv_room (by rw [cat_sum]; exact hc)) hd ⟨Nat.le_refl 0, Nat.le_refl 0⟩
  refine yq_call hrun hS (fun v τ H1 locs1 h1 hP1 hD1 hS1 => ?_)
  have := hq v τ h1 l p e s m args below meth c ad ty D A H1 locs1 ls X hP1 hD1 hS1 hl
  rw [List.map_append] at this
  have e1 : (v.map (cv ad)).toList = v.toList.map (cv ad) := by cases v <;> rfl
  rw [e1]
  exact this
theorem yr_callV {i cal b : Nat} {vs : List Value} {fds : List yF} {Q2 : Option Value → yS → Prop} (hd : decode (yB mi) pc = .ok (.invokevirtual i, 3)) (hk : chkM cal = true) (hst : yI cal ≠ 99) (hb : ysh[b]? = some (.inr (.inr (yI cal, fds)))) (hlk : Cond.methodLink (yN mi).cls i (yN cal) ∈ lw_tbl) (hn : vs.length = yK cal) (hsl : (sl (.ref b :: vs)).length ≤ yL cal) (hc : (r.map fun v => v.category).sum ≤ 8)
    (h : yR d cal 0 (ent (yL cal) (.ref b :: vs)) [] σ Q2) (hq : ∀ v τ, Q2 v τ → yR (d + 1) mi (pc + 3) L (v.toList ++ r) τ Q) : yR (d + 1) mi pc L (vs.reverse ++ .ref b :: r) σ Q := by
  intro l p e s m args below meth c ad ty D A H locs ls X hP hD hS hl
  have hM := h.met hk hsl l ad ty D A
  have hk2 := hk
  simp only [chkM, Bool.and_eq_true, decide_eq_true_eq, hst, if_false] at hk2
  have hG : GoodIn (lw_tbl.filter goodWord) (wsV (yN mi).cls i (yN cal).cls (yN cal) (yW cal)) := by
    refine goodIn_add ?_ (goodIn_yW hk)
    intro w hw
    simp only [List.mem_cons, List.not_mem_nil, or_false] at hw
    rcases hw with rfl | rfl | rfl | rfl
    · exact ⟨List.mem_filter.mpr ⟨hlk, rfl⟩, good_of_word rfl⟩
    · exact ⟨List.mem_filter.mpr ⟨mem_at hk2.1.1.1.1.1.2.1.1, rfl⟩, good_of_word rfl⟩
    · exact ⟨List.mem_filter.mpr ⟨mem_at hk2.1.1.1.1.1.2.1.2, rfl⟩, good_of_word rfl⟩
    · exact ⟨List.mem_filter.mpr ⟨mem_at hk2.1.1.1.1.2, rfl⟩, good_of_word rfl⟩
  have cw := cwV (R := yRm (d + 1)) (rm := yRm d) (mc := 0) (ms := 0) (args := args) (s := s) (yK cal) X.hts hG rfl rfl rfl ⟨rfl, hk2.1.1.1.2, hk2.1.1.2, hk2.1.2⟩ (yRm_ok hk)
  obtain ⟨q, hq1, hq2⟩ := Option.map_eq_some_iff.mp hk2.1.1.1.1.1.2.2
  have hrec := va_recv X.2.2.2.2.2.2.2.2 hP hq1 (wd_at hb)
  rw [hq2] at hrec
  have hrun := va_runV (p := p) (l := l) (e := e) (below := below) (meth := meth) (H := H) (locs := locs) (cells := 0) (slots := 0) (As := vs.map (cv ad)) (rest := r.map (cv ad)) (b := ad b) (g := F0 m pc ls ((vs.reverse ++ .ref b :: r).map (cv ad))) ⟨X.1, X.2.1, X.2.2.2.1, X.2.2.2.2.1, X.hts⟩ hM cw ⟨yPre_blind, hrec, fun U hU hW => ⟨rfl, yPre_of X hP hD U hU hW⟩⟩ rfl (by rw [List.length_map, hn]) hl.1 (by simp [cv]) (lv_room (by rw [cat_sum]; exact hc)) hd ⟨Nat.le_refl 0, Nat.le_refl 0⟩
  refine yq_call hrun hS (fun v τ H1 locs1 h1 hP1 hD1 hS1 => ?_)
  have := hq v τ h1 l p e s m args below meth c ad ty D A H1 locs1 ls X hP1 hD1 hS1 hl
  rw [List.map_append] at this
  have e1 : (v.map (cv ad)).toList = v.toList.map (cv ad) := by cases v <;> rfl
  rw [e1]
  exact this
theorem yr_callVN {i cal b : Nat} {vs : List Value} {fds : List yF} {ho : String} {Q2 : Option Value → yS → Prop} (hd : decode (yB mi) pc = .ok (.invokevirtual i, 3)) (hk : chkM cal = true) (hst : yI cal ≠ 99) (hb : ysh[b]? = some (.inr (.inr (yI cal, fds)))) (hlk : Cond.methodLinkNest (yN mi).cls i (yN cal) ho ∈ lw_tbl) (hn : vs.length = yK cal) (hsl : (sl (.ref b :: vs)).length ≤ yL cal) (hc : (r.map fun v => v.category).sum ≤ 8)
    (h : yR d cal 0 (ent (yL cal) (.ref b :: vs)) [] σ Q2) (hq : ∀ v τ, Q2 v τ → yR (d + 1) mi (pc + 3) L (v.toList ++ r) τ Q) : yR (d + 1) mi pc L (vs.reverse ++ .ref b :: r) σ Q := by
  intro l p e s m args below meth c ad ty D A H locs ls X hP hD hS hl
  have hM := h.met hk hsl l ad ty D A
  have hk2 := hk
  simp only [chkM, Bool.and_eq_true, decide_eq_true_eq, hst, if_false] at hk2
  have cw := va_cnB (R := yRm (d + 1)) (rm := yRm d) (mc := 0) (ms := 0) (args := args) (s := s) (yK cal) X.hts (goodIn_yW hk) rfl rfl rfl (X.2.2.2.2.2.2.1 _ _ _ _ hlk) (X.2.2.2.2.2.1 _ (mem_at hk2.1.1.1.1.2) rfl) ⟨hk2.1.1.1.2, hk2.1.1.2, hk2.1.2⟩ (yRm_ok hk)
  obtain ⟨q, hq1, hq2⟩ := Option.map_eq_some_iff.mp hk2.1.1.1.1.1.2.2
  have hrec := va_recv X.2.2.2.2.2.2.2.2 hP hq1 (wd_at hb)
  rw [hq2] at hrec
  have hrun := va_runVN (p := p) (l := l) (e := e) (below := below) (meth := meth) (H := H) (locs := locs) (cells := 0) (slots := 0) (As := vs.map (cv ad)) (rest := r.map (cv ad)) (b := ad b) (g := F0 m pc ls ((vs.reverse ++ .ref b :: r).map (cv ad))) ⟨X.1, X.2.1, X.2.2.2.1, X.2.2.2.2.1, X.hts⟩ hM ⟨cw, X.2.2.2.2.2.1 _ (mem_at hk2.1.1.1.1.1.2.1.1) rfl, X.2.2.2.2.2.1 _ (mem_at hk2.1.1.1.1.1.2.1.2) rfl⟩ ⟨yPre_blind, hrec, fun U hU hW => ⟨rfl, yPre_of X hP hD U hU hW⟩⟩ rfl (by rw [List.length_map, hn]) hl.1 (by simp [cv]) (lv_room (by rw [cat_sum]; exact hc)) hd ⟨Nat.le_refl 0, Nat.le_refl 0⟩
  refine yq_call hrun hS (fun v τ H1 locs1 h1 hP1 hD1 hS1 => ?_)
  have := hq v τ h1 l p e s m args below meth c ad ty D A H1 locs1 ls X hP1 hD1 hS1 hl
  rw [List.map_append] at this
  have e1 : (v.map (cv ad)).toList = v.toList.map (cv ad) := by cases v <;> rfl
  rw [e1]
  exact this
end YC
