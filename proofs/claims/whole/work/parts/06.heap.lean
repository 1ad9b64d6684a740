/-! rows for cells, calls, ends and switches -/
theorem mem_at {p : Nat} {w : Cond} (h : lw_tbl[p]? = some w) : w ∈ lw_tbl := List.mem_of_getElem? h
theorem vw_len : vwCl.length = 7 := rfl
/-- what the tables know of a class -/
def clOk (ci : Nat) (C : String) (T : u_T) (N : Nat) : Prop := vwCl[ci]? = some (C, T, N) ∧ (∀ w ∈ u_ws C T N, w ∈ lw_tbl) ∧ (∀ a, a < N → ∀ b, b < N → a ≠ b → (T a).2.1 ≠ (T b).2.1) ∧ ∃ ty0 : Nat → FieldType, ∀ k, k < N → parseFieldDescriptor (T k).2.2.1 = some (ty0 k)
theorem cl_ok {ci : Nat} {C : String} {T : u_T} {N : Nat} (h : vwCl[ci]? = some (C, T, N)) : clOk ci C T N := by
  refine ⟨h, ?_⟩
  match ci, h with
  | 0, h => cases h; exact ⟨inX0, nmX0, _, tyX0_ok⟩
  | 1, h => cases h; exact ⟨inX1, nmX1, _, tyX1_ok⟩
  | 2, h => cases h; exact ⟨inX2, nmX2, _, tyX2_ok⟩
  | 3, h => cases h; exact ⟨inX3, nmX3, _, tyX3_ok⟩
  | 4, h => cases h; exact ⟨inX4, nmX4, _, tyX4_ok⟩
  | 5, h => cases h; exact ⟨inX5, nmX5, _, tyX5_ok⟩
  | 6, h => cases h; exact ⟨inX6, nmX6, _, tyX6_ok⟩
  | n + 7, h => exact absurd h (by simp [vwCl])
theorem gw_lay (C : String) (T : u_T) (k : Nat) : goodWord (u_lay C T k) = true := by
  unfold u_lay; split <;> rfl
theorem filt_in {C : String} {T : u_T} {N : Nat} (h : ∀ w ∈ u_ws C T N, w ∈ lw_tbl) : ∀ w ∈ u_ws C T N, w ∈ lw_tbl.filter goodWord := by
  intro w hw
  refine List.mem_filter.mpr ⟨h w hw, ?_⟩
  obtain ⟨k, -, rfl⟩ := List.mem_map.mp hw
  exact gw_lay C T k
theorem yX.hts {p : Program} {s : State} {m : MethodId} {args : Array Value} {meth : Method} {c : Code} {mi : Nat} {ty : Nat → ClassId} {D : va_G} (X : yX p s m args meth c mi ty D) : ∀ w ∈ lw_tbl.filter goodWord, w.before args s = true := fun w hw => X.2.2.2.2.2.1 w (List.mem_filter.mp hw).1 (List.mem_filter.mp hw).2
section YH
variable {d mi pc : Nat} {L : List (Option Value)} {r : List Value} {σ : yS} {Q : Option Value → yS → Prop}
theorem yr_get {i c ci k : Nat} {fds : List yF} {fd : yF} {C : String} {T : u_T} {N : Nat} (hd : decode (yB mi) pc = .ok (.getfield i, 3)) (hc : ysh[c]? = some (.inr (.inr (ci, fds)))) (hcl : vwCl[ci]? = some (C, T, N)) (hk : k < N) (hf : fds[k]? = some fd) (hlk : Cond.fieldLink (yN mi).cls i (T k).1 (T k).2.1 (T k).2.2.1 ∈ lw_tbl)
    (h : yR d mi (pc + 3) L (fa (σ c) k fd :: r) σ Q) : yR d mi pc L (.ref c :: r) σ Q := by
  intro l p e s m args below meth cc ad ty D A H locs ls X hP hD hS hl
  obtain ⟨h1, h2, h3, ty0, h4⟩ := cl_ok hcl
  refine va_get (k := k) X.1 X.2.1 X.hts (filt_in h2) X.2.2.2.2.1 X.2.2.2.2.2.2.2.2 hP c (wd_at hc) hcl hk (X.2.2.2.2.2.1 _ hlk rfl) (fun _ h9 => h9) (v := cv ad (fa (σ c) k fd)) ?_ hd (h l p e s m args below meth cc ad ty D A H locs ls X hP hD hS hl)
  rw [cv_fa, List.getElem?_mapIdx, hf]
  rfl
/-- a value that fits a field of whole numbers -/
def yFit (desc : String) (x : Int32) : Prop := match parseFieldDescriptor desc with
  | some .int => True
  | some .boolean => x = 0 ∨ x = 1
  | _ => False
theorem yr_put {i c ci k : Nat} {fds : List yF} {x : Int32} {C : String} {T : u_T} {N : Nat} (hd : decode (yB mi) pc = .ok (.putfield i, 3)) (hc : ysh[c]? = some (.inr (.inr (ci, fds)))) (hcl : vwCl[ci]? = some (C, T, N)) (hk : k < N) (hk2 : k < 1000) (hf : fds[k]? = some none) (hlk : Cond.fieldLink (yN mi).cls i (T k).1 (T k).2.1 (T k).2.2.1 ∈ lw_tbl) (hfin : (T k).2.2.2 = false) (hfit : yFit (T k).2.2.1 x)
    (h : yR d mi (pc + 3) L r (sg σ c k x) Q) : yR d mi pc L (.int x :: .ref c :: r) σ Q := by
  intro l p e s m args below meth cc ad ty D A H locs ls X hP hD hS hl
  obtain ⟨h1, h2, h3, ty0, h4⟩ := cl_ok hcl
  have hpd : ∃ t, parseFieldDescriptor (T k).2.2.1 = some t ∧ narrow t (.int x) = .int x ∧ fits t (.int x) = true := by
    unfold yFit at hfit
    split at hfit
    · rename_i e1; exact ⟨_, e1, rfl, rfl⟩
    · rename_i e1
      rcases hfit with rfl | rfl
      · exact ⟨_, e1, by decide, by decide⟩
      · exact ⟨_, e1, by decide, by decide⟩
    · exact hfit.elim
  obtain ⟨t, t1, t2, t3⟩ := hpd
  have hfl : k < (fds.mapIdx (fun k fd => fv ad (σ c) k fd)).length := by rw [List.length_mapIdx]; exact (List.getElem?_eq_some_iff.mp hf).1
  refine va_put (v := .int x) (ty := t) X.1 X.2.1 X.hts (filt_in h2) ty0 h4 h3 X.2.2.2.2.1 X.2.2.2.2.2.2.2.2 hP hD hS c (wd_at hc) hcl k hk (X.2.2.2.2.2.1 _ hlk rfl) (fun _ h9 => h9) hfin t1 t2 t3 hfl hd (fun H1 locs1 hP1 hD1 hS1 => ?_)
  have he : (wd ad ty σ).set c (ad c, .inr (ci, (fds.mapIdx (fun k fd => fv ad (σ c) k fd)).set k (.int x))) = wd ad ty (sg σ c k x) := by
    rw [sg_eq]
    exact wd_set hc (by show Sum.inr (ci, fds.mapIdx (fun j fd => fv ad (upd (σ c) k x) j fd)) = _; rw [fv_put hf hk2])
  rw [he] at hP1 hD1
  exact h l p e s m args below meth cc ad ty D A H1 locs1 ls X hP1 hD1 hS1 hl
theorem yr_putL {i c ci k : Nat} {fds : List yF} {x : Int64} {C : String} {T : u_T} {N : Nat} (hd : decode (yB mi) pc = .ok (.putfield i, 3)) (hc : ysh[c]? = some (.inr (.inr (ci, fds)))) (hcl : vwCl[ci]? = some (C, T, N)) (hk : k < N) (hk2 : fds.length ≤ 1000) (hf : fds[k]? = some (some none)) (hlk : Cond.fieldLink (yN mi).cls i (T k).1 (T k).2.1 (T k).2.2.1 ∈ lw_tbl) (hfin : (T k).2.2.2 = false) (hfit : parseFieldDescriptor (T k).2.2.1 = some .long)
    (h : yR d mi (pc + 3) L r (sgA σ c (upd (upd (σ c) k (lgHi x)) (k + 1000) (lgLo x))) Q) : yR d mi pc L (.long x :: .ref c :: r) σ Q := by
  intro l p e s m args below meth cc ad ty D A H locs ls X hP hD hS hl
  obtain ⟨h1, h2, h3, ty0, h4⟩ := cl_ok hcl
  have hfl : k < (fds.mapIdx (fun k fd => fv ad (σ c) k fd)).length := by rw [List.length_mapIdx]; exact (List.getElem?_eq_some_iff.mp hf).1
  refine va_put (v := .long x) (ty := .long) X.1 X.2.1 X.hts (filt_in h2) ty0 h4 h3 X.2.2.2.2.1 X.2.2.2.2.2.2.2.2 hP hD hS c (wd_at hc) hcl k hk (X.2.2.2.2.2.1 _ hlk rfl) (fun _ h9 => h9) hfin hfit rfl rfl hfl hd (fun H1 locs1 hP1 hD1 hS1 => ?_)
  have he : (wd ad ty σ).set c (ad c, .inr (ci, (fds.mapIdx (fun k fd => fv ad (σ c) k fd)).set k (.long x))) = wd ad ty (sgA σ c (upd (upd (σ c) k (lgHi x)) (k + 1000) (lgLo x))) :=
    wd_set hc (by show Sum.inr (ci, fds.mapIdx (fun j fd => fv ad (upd (upd (σ c) k (lgHi x)) (k + 1000) (lgLo x)) j fd)) = _; rw [fv_putL hf hk2])
  rw [he] at hP1 hD1
  exact h l p e s m args below meth cc ad ty D A H1 locs1 ls X hP1 hD1 hS1 hl
theorem yr_iaload {c n : Nat} {i : Int32} (hd : decode (yB mi) pc = .ok (.iaload, 1)) (hc : ysh[c]? = some (.inl (0, n))) (hin : vp_in i n) (h : yR d mi (pc + 1) L (.int (σ c i.toNatClampNeg) :: r) σ Q) : yR d mi pc L (.int i :: .ref c :: r) σ Q := by
  intro l p e s m args below meth cc ad ty D A H locs ls X hP hD hS hl
  exact va_iald X.1 X.2.1 X.2.2.2.2.2.2.2.2 hP c 0 (wd_at hc) rfl hin hd (h l p e s m args below meth cc ad ty D A H locs ls X hP hD hS hl)
theorem yr_baload {c n : Nat} {i : Int32} (hd : decode (yB mi) pc = .ok (.baload, 1)) (hc : ysh[c]? = some (.inl (1, n))) (hin : vp_in i n) (h : yR d mi (pc + 1) L (.int (σ c i.toNatClampNeg) :: r) σ Q) : yR d mi pc L (.int i :: .ref c :: r) σ Q := by
  intro l p e s m args below meth cc ad ty D A H locs ls X hP hD hS hl
  exact va_zald X.1 X.2.1 X.2.2.2.2.2.2.2.2 hP c 1 (wd_at hc) rfl hin hd (h l p e s m args below meth cc ad ty D A H locs ls X hP hD hS hl)
theorem yr_iastore {c n : Nat} {i x : Int32} (hd : decode (yB mi) pc = .ok (.iastore, 1)) (hc : ysh[c]? = some (.inl (0, n))) (hin : vp_in i n) (h : yR d mi (pc + 1) L r (sg σ c i.toNatClampNeg x) Q) : yR d mi pc L (.int x :: .int i :: .ref c :: r) σ Q := by
  intro l p e s m args below meth cc ad ty D A H locs ls X hP hD hS hl
  refine va_iast X.1 X.2.1 X.2.2.2.2.2.2.2.2 hP hD hS c 0 (wd_at hc) rfl hin hd (fun H1 locs1 hP1 hD1 hS1 => ?_)
  have he : (wd ad ty σ).set c (ad c, .inl (ty 0, n, .inl (upd (σ c) i.toNatClampNeg x))) = wd ad ty (sg σ c i.toNatClampNeg x) := by
    rw [sg_eq]; exact wd_set hc rfl
  have hP2 : va_P D vwCl ((wd ad ty σ).set c (ad c, .inl (ty 0, n, .inl (upd (σ c) i.toNatClampNeg x)))) H1 := hP1
  have hD2 : va_D A ((wd ad ty σ).set c (ad c, .inl (ty 0, n, .inl (upd (σ c) i.toNatClampNeg x)))) := hD1
  rw [he] at hP2 hD2
  exact h l p e s m args below meth cc ad ty D A H1 locs1 ls X hP2 hD2 hS1 hl
theorem yr_bastore {c n : Nat} {i x : Int32} (hd : decode (yB mi) pc = .ok (.bastore, 1)) (hc : ysh[c]? = some (.inl (1, n))) (hin : vp_in i n) (hx : x = 0 ∨ x = 1) (h : yR d mi (pc + 1) L r (sg σ c i.toNatClampNeg x) Q) : yR d mi pc L (.int x :: .int i :: .ref c :: r) σ Q := by
  intro l p e s m args below meth cc ad ty D A H locs ls X hP hD hS hl
  refine va_zast X.1 X.2.1 X.2.2.2.2.2.2.2.2 hP hD hS c 1 (wd_at hc) rfl hin hd (fun H1 locs1 hP1 hD1 hS1 => ?_)
  have hn : vp_nar .boolean x = x := by rcases hx with rfl | rfl <;> decide
  rw [hn] at hP1 hD1
  have he : (wd ad ty σ).set c (ad c, .inl (ty 1, n, .inl (upd (σ c) i.toNatClampNeg x))) = wd ad ty (sg σ c i.toNatClampNeg x) := by
    rw [sg_eq]; exact wd_set hc rfl
  have hP2 : va_P D vwCl ((wd ad ty σ).set c (ad c, .inl (ty 1, n, .inl (upd (σ c) i.toNatClampNeg x)))) H1 := hP1
  have hD2 : va_D A ((wd ad ty σ).set c (ad c, .inl (ty 1, n, .inl (upd (σ c) i.toNatClampNeg x)))) := hD1
  rw [he] at hP2 hD2
  exact h l p e s m args below meth cc ad ty D A H1 locs1 ls X hP2 hD2 hS1 hl
theorem yr_aaload {c n j : Nat} {g : List Nat} {i : Int32} (hd : decode (yB mi) pc = .ok (.aaload, 1)) (hc : ysh[c]? = some (.inr (.inl (n, g)))) (hin : vp_in i n) (hj : g[i.toNatClampNeg]? = some j) (h : yR d mi (pc + 1) L (.ref j :: r) σ Q) : yR d mi pc L (.int i :: .ref c :: r) σ Q := by
  intro l p e s m args below meth cc ad ty D A H locs ls X hP hD hS hl
  refine va_aldq X.1 X.2.1 X.2.2.2.2.2.2.2.2 hP c 2 (wd_at hc) rfl hin hd ?_
  have e1 : va_rf ((g[i.toNatClampNeg]?).map ad) = .ref (ad j) := by rw [hj]; rfl
  rw [e1]
  exact h l p e s m args below meth cc ad ty D A H locs ls X hP hD hS hl
theorem yr_alen {c t n : Nat} {v : Int32} (hd : decode (yB mi) pc = .ok (.arraylength, 1)) (hc : ysh[c]? = some (.inl (t, n))) (ht : t < 2) (hv : Int32.ofNat n = v) (h : yR d mi (pc + 1) L (.int v :: r) σ Q) : yR d mi pc L (.ref c :: r) σ Q := by
  intro l p e s m args below meth cc ad ty D A H locs ls X hP hD hS hl
  have hx : ∃ ft, (tys ty)[t]? = some (ty t, ft) := by
    match t, ht with
    | 0, _ => exact ⟨_, rfl⟩
    | 1, _ => exact ⟨_, rfl⟩
  obtain ⟨ft, hft⟩ := hx
  exact va_alen X.1 X.2.1 X.2.2.2.2.2.2.2.2 hP c t (wd_at hc) hft hv hd (h l p e s m args below meth cc ad ty D A H locs ls X hP hD hS hl)
end YH
