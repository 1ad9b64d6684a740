theorem fit_int (x : Int32) : fits .int (.int x) = true := rfl
section YE
variable {d mi pc : Nat} {L : List (Option Value)} {r : List Value} {σ : yS} {Q : Option Value → yS → Prop}
theorem yr_copy {i c0 c1 n0 n1 p0 p1 p2 p3 : Nat} {sp dp n : Int32} (hd : decode (yB mi) pc = .ok (.invokestatic i, 3)) (hlk : lw_tbl[p0]? = some (.methodLink (yN mi).cls i arraycopyName)) (h1 : lw_tbl[p1]? = some (.native arraycopyName)) (h2 : lw_tbl[p2]? = some (.static arraycopyName)) (h3 : lw_tbl[p3]? = some (.initialized "java/lang/System"))
    (hc0 : ysh[c0]? = some (.inl (0, n0))) (hc1 : ysh[c1]? = some (.inl (0, n1))) (hcp : yCp sp dp n n0 n1) (hc : (r.map fun v => v.category).sum ≤ 8)
    (h : yR (d + 1) mi (pc + 3) L r (sgA σ c1 (va_cpy (σ c0) (σ c1) sp.toNatClampNeg dp.toNatClampNeg n.toNatClampNeg)) Q) : yR (d + 1) mi pc L (.int n :: .int dp :: .ref c1 :: .int sp :: .ref c0 :: r) σ Q := by
  intro l p e s m args below meth cc ad ty D A H locs ls X hP hD hS hl
  obtain ⟨k1, k2, k3, k4, k5⟩ := hcp
  refine va_copyi X.1 X.2.1 (by rw [X.2.2.2.1]; exact hl.1.symm) X.2.2.2.2.1 (X.2.2.2.2.2.1 _ (mem_at hlk) rfl) (X.2.2.2.2.2.1 _ (mem_at h1) rfl) (X.2.2.2.2.2.1 _ (mem_at h2) rfl) (X.2.2.2.2.2.1 _ (mem_at h3) rfl) X.2.2.2.2.2.2.2.2 hP hD hS c0 c1 0 0 (wd_at hc0) (wd_at hc1) rfl rfl rfl k1 k2 k3 k4 k5 (fun i _ => fit_int _) (by show 1 ≤ d + 1; omega) ?_ hd (fun H1 locs1 hP1 hD1 hS1 => ?_)
  · rw [cat_sum]
    show _ + (nativeFrameWords "java/lang/System" "arraycopy" 5 + 11) ≤ 40 * (d + 1)
    have : nativeFrameWords "java/lang/System" "arraycopy" 5 = 7 := by decide +kernel
    omega
  · have he : (wd ad ty σ).set c1 (ad c1, .inl (ty 0, n1, .inl (va_cpy (σ c0) (σ c1) sp.toNatClampNeg dp.toNatClampNeg n.toNatClampNeg))) = wd ad ty (sgA σ c1 (va_cpy (σ c0) (σ c1) sp.toNatClampNeg dp.toNatClampNeg n.toNatClampNeg)) := wd_set hc1 rfl
    have hP2 : va_P D vwCl ((wd ad ty σ).set c1 (ad c1, .inl (ty 0, n1, .inl (va_cpy (σ c0) (σ c1) sp.toNatClampNeg dp.toNatClampNeg n.toNatClampNeg)))) H1 := hP1
    have hD2 : va_D A ((wd ad ty σ).set c1 (ad c1, .inl (ty 0, n1, .inl (va_cpy (σ c0) (σ c1) sp.toNatClampNeg dp.toNatClampNeg n.toNatClampNeg)))) := hD1
    rw [he] at hP2 hD2
    exact h l p e s m args below meth cc ad ty D A H1 locs1 ls X hP2 hD2 hS1 hl
theorem yr_iret {x : Int32} (hd : decode (yB mi) pc = .ok (.ireturn, 1)) (ht : yT mi = some .int ∨ (yT mi = some .boolean ∧ (x = 0 ∨ x = 1))) (h : Q (some (.int x)) σ) : yR d mi pc L [.int x] σ Q := by
  intro l p e s m args below meth cc ad ty D A H locs ls X hP hD hS hl
  have hlocks := X.2.2.2.2.2.2.2.1
  rcases ht with ht | ⟨ht, hx⟩
  · exact W.iret (v := x) X.1 X.2.1 (X.2.2.1.trans ht) (fun t e1 hW => ⟨⟨some (.int x), σ, rfl, h, by rw [e1]; exact hP, hD⟩, hS.F e1⟩) hS.2.2 hd
  · exact W.zret (v := x) (ty := .boolean) X.1 X.2.1 (X.2.2.1.trans ht) (by rcases hx with rfl | rfl <;> decide) (fun t e1 hW => ⟨⟨some (.int x), σ, rfl, h, by rw [e1]; exact hP, hD⟩, hS.F e1⟩) hS.2.2 hd
theorem yr_lret {x : Int64} (hd : decode (yB mi) pc = .ok (.lreturn, 1)) (ht : yT mi = some .long) (h : Q (some (.long x)) σ) : yR d mi pc L [.long x] σ Q := by
  intro l p e s m args below meth cc ad ty D A H locs ls X hP hD hS hl
  have hlocks := X.2.2.2.2.2.2.2.1
  exact W.lret (v := x) X.1 X.2.1 (X.2.2.1.trans ht) (fun t e1 hW => ⟨⟨some (.long x), σ, rfl, h, by rw [e1]; exact hP, hD⟩, hS.F e1⟩) hS.2.2 hd
theorem yr_vret (hd : decode (yB mi) pc = .ok (.return_, 1)) (ht : yT mi = none) (h : Q none σ) : yR d mi pc L [] σ Q := by
  intro l p e s m args below meth cc ad ty D A H locs ls X hP hD hS hl
  have hlocks := X.2.2.2.2.2.2.2.1
  exact W.vret X.1 X.2.1 (X.2.2.1.trans ht) (fun t e1 hW => ⟨⟨none, σ, rfl, h, by rw [e1]; exact hP, hD⟩, hS.F e1⟩) hS.2.2 hd
/-- a switch: its ways one by one -/
def ySw (x : Int32) (k : Nat → Prop) (a : Nat) : List (Int32 × Nat) → Prop
  | [] => k a
  | q :: r => (x = q.1 → k q.2) ∧ (¬ x = q.1 → ySw x k a r)
theorem ySw.out {x : Int32} {k : Nat → Prop} {a : Nat} : ∀ {sw : List (Int32 × Nat)}, ySw x k a sw → (∃ (j : Nat) (q : Int32 × Nat), sw[j]? = some q ∧ x = q.1 ∧ k q.2) ∨ ((∀ q ∈ sw, ¬ x = q.1) ∧ k a)
  | [], h => Or.inr ⟨fun _ h => absurd h List.not_mem_nil, h⟩
  | q :: r, h => by
    by_cases hx : x = q.1
    · exact Or.inl ⟨0, q, rfl, hx, h.1 hx⟩
    · rcases ySw.out (h.2 hx) with ⟨j, q2, h1, h2⟩ | ⟨h1, h2⟩
      · exact Or.inl ⟨j + 1, q2, h1, h2⟩
      · refine Or.inr ⟨fun q3 h3 => ?_, h2⟩
        rcases List.mem_cons.mp h3 with rfl | h3
        · exact hx
        · exact h1 q3 h3
def chkLk (pc : Nat) (df : Int) (a : Nat) (ps : List (Int × Int)) (sw : List (Int32 × Nat)) : Bool :=
  decide ((pc : Int) + df = (a : Int)) && (ps.zip (ps.drop 1)).all (fun (a, next) => a.1 < next.1) && decide (ps.length = sw.length) && (ps.zip sw).all (fun q => decide (q.2.1.toInt = q.1.1) && decide ((pc : Int) + q.1.2 = (q.2.2 : Int)))
theorem lk_go {pc : Nat} {df : Int} {a : Nat} {x : Int32} {k : Nat → Prop} : ∀ {ps : List (Int × Int)} {sw : List (Int32 × Nat)}, (pc : Int) + df = (a : Int) → ps.length = sw.length → ((ps.zip sw).all (fun q => decide (q.2.1.toInt = q.1.1) && decide ((pc : Int) + q.1.2 = (q.2.2 : Int)))) = true → ySw x k a sw →
    ∃ t : Nat, (pc : Int) + Op.lookupswitch.offset ps df x.toInt = (t : Int) ∧ k t
  | [], [], h1, _, _, h => ⟨a, by simpa [Op.lookupswitch.offset] using h1, h⟩
  | (k0, o) :: ps, q :: sw, h1, h2, h3, h => by
    simp only [List.zip_cons_cons, List.all_cons, Bool.and_eq_true, decide_eq_true_eq] at h3
    by_cases hx : x = q.1
    · refine ⟨q.2, ?_, h.1 hx⟩
      rw [Op.lookupswitch.offset_cons, if_pos (by rw [hx]; exact h3.1.1.symm)]
      exact h3.1.2
    · obtain ⟨t, t1, t2⟩ := lk_go (k := k) h1 (by simpa using h2) h3.2 (h.2 hx)
      refine ⟨t, ?_, t2⟩
      rw [lv_osw hx h3.1.1]
      exact t1
theorem yr_lookup {df : Int} {a len : Nat} {ps : Array (Int × Int)} {sw : List (Int32 × Nat)} {x : Int32} (hd : decode (yB mi) pc = .ok (.lookupswitch df ps, len)) (hk : chkLk pc df a ps.toList sw = true) (h : ySw x (fun t => yR d mi t L r σ Q) a sw) : yR d mi pc L (.int x :: r) σ Q := by
  simp only [chkLk, Bool.and_eq_true, decide_eq_true_eq] at hk
  obtain ⟨⟨⟨k1, k2⟩, k3⟩, k4⟩ := hk
  obtain ⟨t, t1, t2⟩ := lk_go k1 k3 (by simpa using k4) h
  intro l p e s m args below meth cc ad ty D A H locs ls X hP hD hS hl
  exact lv_lookup X.1 X.2.1 hd k2 rfl t1 (t2 l p e s m args below meth cc ad ty D A H locs ls X hP hD hS hl)
def chkTb (pc : Nat) (df lo hi : Int) (a : Nat) (os : List Int) (sw : List (Int32 × Nat)) : Bool :=
  decide ((pc : Int) + df = (a : Int)) && decide (os.length = sw.length) && decide (hi = lo + os.length - 1) && (os.zip sw).zipIdx.all (fun q => decide (q.1.2.1.toInt = lo + (q.2 : Int)) && decide ((pc : Int) + q.1.1 = (q.1.2.2 : Int)))
theorem yr_table {df lo hi : Int} {a len : Nat} {os : Array Int} {sw : List (Int32 × Nat)} {x : Int32} (hd : decode (yB mi) pc = .ok (.tableswitch df lo hi os, len)) (hk : chkTb pc df lo hi a os.toList sw = true) (h : ySw x (fun t => yR d mi t L r σ Q) a sw) : yR d mi pc L (.int x :: r) σ Q := by
  simp only [chkTb, Bool.and_eq_true, decide_eq_true_eq] at hk
  obtain ⟨⟨⟨k1, k2⟩, k3⟩, k4⟩ := hk
  have key : ∀ (j : Nat) (q : Int32 × Nat), sw[j]? = some q → ∃ o : Int, os[j]? = some o ∧ q.1.toInt = lo + (j : Int) ∧ (pc : Int) + o = (q.2 : Int) := by
    intro j q hj
    have hl : j < sw.length := (List.getElem?_eq_some_iff.mp hj).1
    have hl2 : j < os.toList.length := by rw [k2]; exact hl
    have ho : os.toList[j]? = some (os.toList[j]) := List.getElem?_eq_getElem hl2
    have hz : (os.toList.zip sw)[j]? = some (os.toList[j], q) := by rw [List.getElem?_zip_eq_some]; exact ⟨ho, hj⟩
    have hz2 : ((os.toList.zip sw).zipIdx)[j]? = some ((os.toList[j], q), j) := by rw [List.getElem?_zipIdx, hz]; simp
    have := List.all_eq_true.mp k4 _ (List.mem_of_getElem? hz2)
    simp only [Bool.and_eq_true, decide_eq_true_eq] at this
    exact ⟨_, by rw [← Array.getElem?_toList]; exact ho, this.1, this.2⟩
  intro l p e s m args below meth cc ad ty D A H locs ls X hP hD hS hl
  rcases h.out with ⟨j, q, h1, h2, h3⟩ | ⟨h1, h2⟩
  · obtain ⟨o, o1, o2, o3⟩ := key j q h1
    have hj0 : j < os.toList.length := by rw [k2]; exact (List.getElem?_eq_some_iff.mp h1).1
    rw [← h2] at o2
    exact lv_tableIn X.1 X.2.1 hd (by omega) (by omega) (off := o) (by rw [show (x.toInt - lo).toNat = j by omega]; exact o1) o3 (h3 l p e s m args below meth cc ad ty D A H locs ls X hP hD hS hl)
  · refine lv_tableOut X.1 X.2.1 hd ?_ k1 (h2 l p e s m args below meth cc ad ty D A H locs ls X hP hD hS hl)
    rcases Int.lt_or_le x.toInt lo with q | q
    · exact Or.inl q
    · right
      rcases Int.lt_or_le hi x.toInt with q2 | q2
      · exact q2
      · exfalso
        have hj : (x.toInt - lo).toNat < sw.length := by omega
        obtain ⟨o, o1, o2, o3⟩ := key _ _ (List.getElem?_eq_getElem hj)
        exact h1 _ (List.getElem_mem hj) (Int32.toInt_inj.mp (by rw [o2]; omega))
end YE
