/-! THE PURE MACHINE: its state is a number at each place of each cell; the cells' kinds and all references are fixed (ysh) -/
abbrev yS : Type := Nat → Nat → Int32
def sgA (σ : yS) (c : Nat) (f : Nat → Int32) : yS := fun c' => if c' = c then f else σ c'
def sg (σ : yS) (c k : Nat) (v : Int32) : yS := fun c' => if c' = c then upd (σ c) k v else σ c'
theorem sg_eq (σ : yS) (c k : Nat) (v : Int32) : sg σ c k v = sgA σ c (upd (σ c) k v) := rfl
def lgOf (a b : Int32) : Int64 := Int64.ofBitVec (a.toBitVec ++ b.toBitVec)
def lgHi (x : Int64) : Int32 := Int32.ofBitVec (x.toBitVec.extractLsb' 32 32)
def lgLo (x : Int64) : Int32 := Int32.ofBitVec (x.toBitVec.extractLsb' 0 32)
theorem lg_hl (x : Int64) : lgOf (lgHi x) (lgLo x) = x := by
  apply Int64.toBitVec_inj.mp
  show (x.toBitVec.extractLsb' 32 32 ++ x.toBitVec.extractLsb' 0 32) = x.toBitVec
  apply BitVec.eq_of_getLsbD_eq
  intro i hi
  rw [BitVec.getLsbD_append]
  by_cases h : i < 32
  · simp [h]
  · have : i - 32 < 32 := by omega
    simp [h, this, show 32 + (i - 32) = i by omega]
/-- a row of the method table -/
def yG (mi : Nat) : yM := yMs.getD mi (⟨"", "", ""⟩, ⟨#[]⟩, 0, none, 0, 0, [])
def yN (mi : Nat) : MethodName := (yG mi).1
def yB (mi : Nat) : ByteArray := (yG mi).2.1
def yL (mi : Nat) : Nat := (yG mi).2.2.1
def yT (mi : Nat) : Option FieldType := (yG mi).2.2.2.1
def yK (mi : Nat) : Nat := (yG mi).2.2.2.2.1
def yI (mi : Nat) : Nat := (yG mi).2.2.2.2.2.1
def yP (mi j : Nat) : Nat := (yG mi).2.2.2.2.2.2.getD j 0
/-- what a cell is in the machine's heap -/
def fv (ad : Nat → Nat) (f : Nat → Int32) (k : Nat) (fd : yF) : Value := match fd with
  | none => .int (f k)
  | some none => .long (lgOf (f k) (f (k + 1000)))
  | some (some j) => .ref (ad j)
/-- what a field is in the pure state -/
def fa (f : Nat → Int32) (k : Nat) (fd : yF) : Value := match fd with
  | none => .int (f k)
  | some none => .long (lgOf (f k) (f (k + 1000)))
  | some (some j) => .ref j
def cv (ad : Nat → Nat) (v : Value) : Value := match v with
  | .ref j => .ref (ad j)
  | w => w
theorem cv_fa (ad : Nat → Nat) (f : Nat → Int32) (k : Nat) (fd : yF) : cv ad (fa f k fd) = fv ad f k fd := by
  match fd with
  | none => rfl
  | some none => rfl
  | some (some j) => rfl
theorem cv_cat (ad : Nat → Nat) (v : Value) : (cv ad v).category = v.category := by cases v <;> rfl
def cellOf (ad : Nat → Nat) (ty : Nat → ClassId) (f : Nat → Int32) (d : yC) : va_E := match d with
  | .inl q => .inl (ty q.1, q.2, .inl f)
  | .inr (.inl q) => .inl (ty 2, q.1, .inr (.inr (.inr (.inr (fun i => (q.2[i]?).map ad)))))
  | .inr (.inr q) => .inr (q.1, q.2.mapIdx (fun k fd => fv ad f k fd))
def wd (ad : Nat → Nat) (ty : Nat → ClassId) (σ : yS) : va_W := ysh.mapIdx (fun c d => (ad c, cellOf ad ty (σ c) d))
theorem wd_at {ad : Nat → Nat} {ty : Nat → ClassId} {σ : yS} {c : Nat} {d : yC} (h : ysh[c]? = some d) : (wd ad ty σ)[c]? = some (ad c, cellOf ad ty (σ c) d) := by
  rw [wd, List.getElem?_mapIdx, h]; rfl
theorem wd_set {ad : Nat → Nat} {ty : Nat → ClassId} {σ : yS} {c : Nat} {d : yC} {f : Nat → Int32} {e : va_E} (h : ysh[c]? = some d) (he : cellOf ad ty f d = e) : (wd ad ty σ).set c (ad c, e) = wd ad ty (sgA σ c f) := by
  apply List.ext_getElem?
  intro j
  rw [List.getElem?_set, wd, wd, List.getElem?_mapIdx, List.getElem?_mapIdx, List.length_mapIdx]
  by_cases hj : c = j
  · subst hj
    have hl : c < ysh.length := (List.getElem?_eq_some_iff.mp h).1
    rw [if_pos rfl, if_pos hl, h, ← he]
    simp [sgA]
  · rw [if_neg hj]
    cases ysh[j]? with
    | none => rfl
    | some d2 => simp [sgA, Ne.symm hj]
theorem fv_set {ad : Nat → Nat} {f : Nat → Int32} {fds : List yF} {k : Nat} {x : Int32} (h : fds[k]? = some none) (hk : k < 1000) : fds.mapIdx (fun k fd => fv ad (upd f k x) k fd) = fds.mapIdx (fun k fd => fv ad (upd f k x) k fd) := rfl
theorem fv_put {ad : Nat → Nat} {f : Nat → Int32} {fds : List yF} {k : Nat} {x : Int32} (h : fds[k]? = some none) (hk : k < 1000) : (fds.mapIdx (fun j fd => fv ad f j fd)).set k (.int x) = fds.mapIdx (fun j fd => fv ad (upd f k x) j fd) := by
  apply List.ext_getElem?
  intro j
  rw [List.getElem?_set, List.getElem?_mapIdx, List.getElem?_mapIdx, List.length_mapIdx]
  by_cases hj : k = j
  · subst hj
    have hl : k < fds.length := (List.getElem?_eq_some_iff.mp h).1
    rw [if_pos rfl, if_pos hl, h]
    simp [fv, upd]
  · rw [if_neg hj]
    cases hf : fds[j]? with
    | none => rfl
    | some d2 =>
      match d2 with
      | none => simp [fv, upd, Ne.symm hj]
      | some none => simp [fv, upd, Ne.symm hj]; congr 1; rw [if_neg (by omega)]
      | some (some i) => simp [fv]
theorem fv_putL {ad : Nat → Nat} {f : Nat → Int32} {fds : List yF} {k : Nat} {x : Int64} (h : fds[k]? = some (some none)) (hl2 : fds.length ≤ 1000) : (fds.mapIdx (fun j fd => fv ad f j fd)).set k (.long x) = fds.mapIdx (fun j fd => fv ad (upd (upd f k (lgHi x)) (k + 1000) (lgLo x)) j fd) := by
  apply List.ext_getElem?
  intro j
  have hl : k < fds.length := (List.getElem?_eq_some_iff.mp h).1
  rw [List.getElem?_set, List.getElem?_mapIdx, List.getElem?_mapIdx, List.length_mapIdx]
  by_cases hj : k = j
  · subst hj
    rw [if_pos rfl, if_pos hl, h]
    simp [fv, upd, lg_hl]
  · rw [if_neg hj]
    cases hf : fds[j]? with
    | none => rfl
    | some d2 =>
      have hl3 : j < fds.length := (List.getElem?_eq_some_iff.mp hf).1
      match d2 with
      | none => simp [fv, upd, Ne.symm hj, show ¬ j = k + 1000 by omega]
      | some none => simp [fv, upd, Ne.symm hj, show ¬ j = k + 1000 by omega, show ¬ j + 1000 = k by omega]
      | some (some i) => simp [fv]
/-- the locals -/
def yLs (ad : Nat → Nat) (ls : Array Slot) (n : Nat) (L : List (Option Value)) : Prop := ls.size = n ∧ lv_wf ls ∧ ∀ (k : Nat) (v : Value), L[k]? = some (some v) → ls[k]? = some (.val (cv ad v))
def asc (ad : Nat → Nat) (L : List (Option Value)) : List (Nat × Value) := (List.range L.length).filterMap (fun k => match L[k]? with
  | some (some v) => some (k, cv ad v)
  | _ => none)
theorem asc_mem {ad : Nat → Nat} {L : List (Option Value)} {k : Nat} {w : Value} : (k, w) ∈ asc ad L ↔ ∃ v, L[k]? = some (some v) ∧ w = cv ad v := by
  unfold asc
  rw [List.mem_filterMap]
  constructor
  · rintro ⟨j, hj, h⟩
    split at h
    · rename_i v hv
      simp only [Option.some.injEq, Prod.mk.injEq] at h
      obtain ⟨rfl, rfl⟩ := h
      exact ⟨v, hv, rfl⟩
    · cases h
  · rintro ⟨v, hv, rfl⟩
    refine ⟨k, List.mem_range.mpr (List.getElem?_eq_some_iff.mp hv).1, ?_⟩
    rw [hv]
theorem yLs.has {ad : Nat → Nat} {ls : Array Slot} {n : Nat} {L : List (Option Value)} (h : yLs ad ls n L) : lv_has ls n (asc ad L) := ⟨h.1, h.2.1, fun q hq => by
  obtain ⟨k, w⟩ := q
  obtain ⟨v, hv, rfl⟩ := asc_mem.mp hq
  exact h.2.2 k v hv⟩
/-- the slot before place i holds no long -/
def okAt (L : List (Option Value)) (i : Nat) : Bool := match i with
  | 0 => true
  | j + 1 => match L[j]? with
    | some (some (.long _)) => false
    | some (some (.double _)) => false
    | _ => true
theorem okAt_cat {L : List (Option Value)} {j : Nat} {v : Value} (h : okAt L (j + 1) = true) (hv : L[j]? = some (some v)) : v.category = 1 := by
  simp only [okAt, hv] at h
  cases v <;> first | rfl | cases h
theorem yLs.store {ad : Nat → Nat} {ls : Array Slot} {n : Nat} {L : List (Option Value)} {i : Nat} {v : Value} (hok : okAt L i = true)
    (h : lv_has ls n ((i, cv ad v) :: (asc ad L).filter (fun q => !(q.1 == i) && !(q.1 + 1 == i && q.2.category == 2)))) : yLs ad ls n (L.set i (some v)) := by
  refine ⟨h.1, h.2.1, fun k w hw => ?_⟩
  rw [List.getElem?_set] at hw
  by_cases hk : i = k
  · subst hk
    rw [if_pos rfl] at hw
    split at hw
    · simp only [Option.some.injEq] at hw
      subst hw
      exact h.2.2 (i, cv ad v) List.mem_cons_self
    · cases hw
  · rw [if_neg hk] at hw
    refine h.2.2 (k, cv ad w) (List.mem_cons_of_mem _ (List.mem_filter.mpr ⟨asc_mem.mpr ⟨w, hw, rfl⟩, ?_⟩))
    have h1 : ¬ k = i := Ne.symm hk
    simp only [Bool.and_eq_true, Bool.not_eq_true', beq_eq_false_iff_ne, Bool.and_eq_false_iff]
    refine ⟨h1, ?_⟩
    by_cases h2 : k + 1 = i
    · subst h2
      right
      rw [cv_cat, okAt_cat hok hw]
      decide
    · exact Or.inl h2
theorem yLs.store2 {ad : Nat → Nat} {ls : Array Slot} {n : Nat} {L : List (Option Value)} {i : Nat} {v : Value} (hok : okAt L i = true)
    (h : lv_has ls n ((i, cv ad v) :: (asc ad L).filter (fun q => !(q.1 == i) && (!(q.1 == i + 1) && !(q.1 + 1 == i && q.2.category == 2))))) : yLs ad ls n ((L.set i (some v)).set (i + 1) none) := by
  refine ⟨h.1, h.2.1, fun k w hw => ?_⟩
  rw [List.getElem?_set] at hw
  by_cases hk0 : i + 1 = k
  · rw [if_pos hk0] at hw
    split at hw <;> cases hw
  rw [if_neg hk0, List.getElem?_set] at hw
  by_cases hk : i = k
  · subst hk
    rw [if_pos rfl] at hw
    split at hw
    · simp only [Option.some.injEq] at hw
      subst hw
      exact h.2.2 (i, cv ad v) List.mem_cons_self
    · cases hw
  · rw [if_neg hk] at hw
    refine h.2.2 (k, cv ad w) (List.mem_cons_of_mem _ (List.mem_filter.mpr ⟨asc_mem.mpr ⟨w, hw, rfl⟩, ?_⟩))
    have h1 : ¬ k = i := Ne.symm hk
    simp only [Bool.and_eq_true, Bool.not_eq_true', beq_eq_false_iff_ne, Bool.and_eq_false_iff]
    refine ⟨h1, Ne.symm hk0, ?_⟩
    by_cases h2 : k + 1 = i
    · subst h2
      right
      rw [cv_cat, okAt_cat hok hw]
      decide
    · exact Or.inl h2
/-- a method's arguments as locals -/
def sl (vs : List Value) : List (Option Value) := vs.flatMap (fun v => if v.category = 2 then [some v, none] else [some v])
def ent (n : Nat) (vs : List Value) : List (Option Value) := sl vs ++ List.replicate (n - (sl vs).length) none
def slS (ad : Nat → Nat) (o : Option Value) : Slot := match o with
  | some v => .val (cv ad v)
  | none => .second
theorem sl_lg (ad : Nat → Nat) (vs : List Value) : lg_sl (vs.map (cv ad)) = (sl vs).map (slS ad) := by
  induction vs with
  | nil => rfl
  | cons v vs ih =>
    have e1 : lg_sl ((v :: vs).map (cv ad)) = (if (cv ad v).category = 2 then [.val (cv ad v), .second] else [.val (cv ad v)]) ++ lg_sl (vs.map (cv ad)) := rfl
    have e2 : sl (v :: vs) = (if v.category = 2 then [some v, none] else [some v]) ++ sl vs := rfl
    rw [e1, e2, ih, List.map_append, cv_cat]
    congr 1
    split <;> rfl
theorem ent_ok {ad : Nat → Nat} {vs : List Value} {n : Nat} (h : (sl vs).length ≤ n) : yLs ad ((lg_sl (vs.map (cv ad)) ++ List.replicate (n - (lg_sl (vs.map (cv ad))).length) Slot.unset).toArray) n (ent n vs) := by
  have hl : (lg_sl (vs.map (cv ad))).length = (sl vs).length := by rw [sl_lg, List.length_map]
  have h0 := lv_entry (vs.map (cv ad)) (n := n) (by rw [hl]; exact h)
  refine ⟨h0.1, h0.2.1, fun k v hk => ?_⟩
  rw [ent] at hk
  have hlt : k < (sl vs).length := by
    rcases Nat.lt_or_ge k (sl vs).length with q | q
    · exact q
    · rw [List.getElem?_append_right q, List.getElem?_replicate] at hk
      split at hk <;> cases hk
  rw [List.getElem?_append_left hlt] at hk
  rw [List.getElem?_toArray, List.getElem?_append_left (by rw [hl]; exact hlt), sl_lg, List.getElem?_map, hk]
  rfl
