section OPS
variable {d : Nat} {σ τ : yS} {K : Int32 → yS → Prop} {KV : yS → Prop}
theorem lt_le {a b x : Int32} (h : b.toInt = a.toInt + 1) : x < b ↔ x ≤ a := by
  rw [Int32.lt_iff_toInt_lt, Int32.le_iff_toInt_le, h]; omega
theorem n3 {x : Int32} : x < 4 ↔ x ≤ 3 := lt_le (by decide)
theorem n6 {x : Int32} : x < 7 ↔ x ≤ 6 := lt_le (by decide)
theorem nn_le {x : Int32} : ¬ x < 0 ↔ 0 ≤ x := Int32.not_lt
/-- isLine, in both -/
theorem sp_isLine {n : Nat} {k : Int32} (hn : n ≤ 8) (hl : σ 2 10 = nI n) (h1 : ∀ j, j < n → k = nI j → K 1 σ) (h0 : (∀ j, j < n → ¬ k = nI j) → K 0 σ) : yR (d + 1) 74 0 [some (.ref 0), some (.int k)] [] σ (qI K) := by
  refine w_74_0 ?_
  rw [hl]
  rcases pk_ix k (n := n) (by omega) with q | q | ⟨j, hj, rfl⟩
  · refine sp_below (fun q1 => absurd q q1) (fun _ => ⟨yB0, h0 (fun j hj e => ?_)⟩)
    subst e; exact nI_pos (by omega) q
  · refine sp_below (fun _ q2 => absurd q (Int32.not_le.mpr q2)) (fun _ => ⟨yB0, h0 (fun j hj e => ?_)⟩)
    subst e; exact nI_ge hj (by omega) q
  · exact sp_below (fun _ _ => ⟨yB1, h1 j hj rfl⟩) (fun q => absurd q (by
      intro z
      rcases z with z | z
      · exact nI_pos (by omega) z
      · exact nI_ge hj (by omega) z))
theorem sm_isLine {n : Nat} {k : Int32} (hn : n ≤ 8) (hl : τ 98 0 = nI n) (h1 : ∀ j, j < n → k = nI j → K 1 τ) (h0 : (∀ j, j < n → ¬ k = nI j) → K 0 τ) : yR (d + 1) 93 0 [some (.ref 97), some (.int k)] [] τ (qI K) := by
  have e1 : (nI n - 1).toInt = (n : Int) - 1 := by
    have := pk_sub_toInt (a := n) (b := 1) (by omega) (by omega)
    exact this
  refine w_93_0 ⟨inN_t.mp (by decide), ?_⟩
  rw [hl]
  rcases pk_ix k (n := n) (by omega) with q | q | ⟨j, hj, rfl⟩
  · refine sm_in (fun q1 _ => absurd q1 (Int32.not_le.mpr q)) (fun _ => ⟨yB0, h0 (fun j hj e => ?_)⟩)
    subst e; exact nI_pos (by omega) q
  · refine sm_in (fun _ q2 => ?_) (fun _ => ⟨yB0, h0 (fun j hj e => ?_)⟩)
    · rw [Int32.le_iff_toInt_le] at q q2
      rw [nI_toInt (by omega)] at q
      omega
    · subst e; exact nI_ge hj (by omega) q
  · refine sm_in (fun _ _ => ⟨yB1, h1 j hj rfl⟩) (fun q => ?_)
    exfalso
    rcases q with q | q
    · exact nI_pos (by omega) q
    · rw [Int32.lt_iff_toInt_lt, nI_toInt (by omega)] at q
      omega
theorem op_told {what : Int32} (h : Inv σ) : yR (d + 200) 64 0 [some (.ref 0), some (.int what)] [] σ (qI (fun r σ1 => yR (d + 200) 144 0 [some (.ref 97), some (.int what)] [] σ1 (qI (fun r' σ2 => r = r' ∧ Inv σ2)))) := by
  obtain ⟨⟨a1, a2, a3⟩, ⟨t, t1, t2, t3, t4⟩, ⟨n, cb, sz, tp, hP⟩, ⟨c, o, c1, c2, c3, c4, c5, c6⟩, h5⟩ := id h
  have hn := hP.1
  refine w_64_0 (sp_below (fun q1 q2 => br_t1 ?_) (fun q => br_f1 (sp_bad (w_144_0 (sm_in (fun q1 q2 => ?_) (fun _ => br_f2 (bad2 h)))))))
  · have mo : ∀ r : Int32, yR (d + 199) 143 0 [some (.ref 97), some (.int what)] [] σ (qI (fun r' σ2 => r = r' ∧ Inv σ2)) → yR (d + 200) 144 0 [some (.ref 97), some (.int what)] [] σ (qI (fun r' σ2 => r = r' ∧ Inv σ2)) := fun r hr => w_144_0 (sm_in (fun _ _ => br_t2 hr) (fun z => by
      rcases z with z | z
      · exact absurd z q1
      · exact absurd (n6.mp q2) (Int32.not_le.mpr z)))
    have f3 : ∀ x : Int32, x = 0 ∨ x = 1 ∨ x = 2 → ¬ (3 : Int32) ≤ x := fun x hx => by rcases hx with rfl | rfl | rfl <;> decide
    refine w_70_0 ⟨fun e => mo _ ?_, fun e0 => ⟨fun e => mo _ ?_, fun e1 => ⟨fun e => mo _ ?_, fun e2 => ⟨fun e => mo _ ?_, fun e3 => ⟨fun e => mo _ ?_, fun e4 => ⟨fun e => sp_sum9 hn hP.2.1 (mo _ ?_), fun e5 => mo _ ?_⟩⟩⟩⟩⟩⟩
    · subst e; exact w_143_0 ⟨fun q => absurd q (by decide), fun _ => ⟨inN_t.mp (by decide), a1, h⟩⟩
    · subst e; exact w_143_0 ⟨fun q => absurd q (by decide), fun _ => ⟨inN_t.mp (by decide), a2, h⟩⟩
    · subst e; exact w_143_0 ⟨fun q => absurd q (by decide), fun _ => ⟨inN_t.mp (by decide), a3, h⟩⟩
    · subst e; exact w_143_0 ⟨fun _ => ⟨fun q => absurd rfl q, fun _ => ⟨t2.trans t3.symm, h⟩⟩, fun q => absurd (by decide) q⟩
    · subst e; exact w_143_0 ⟨fun _ => ⟨fun _ => ⟨fun q => absurd rfl q, fun _ => ⟨inN_t.mp (by decide), hP.2.1.trans hP.2.2.1.symm, h⟩⟩, fun q => absurd q (by decide)⟩, fun q => absurd (by decide) q⟩
    · subst e
      refine w_143_0 ⟨fun _ => ⟨fun _ => ⟨fun _ => ⟨fun q => absurd rfl q, fun _ => w_92_0 ⟨inN_t.mp (by decide), ?_⟩⟩, fun q => absurd q (by decide)⟩, fun q => absurd q (by decide)⟩, fun q => absurd (by decide) q⟩
      rw [hP.2.2.1]
      refine sm_begin hn (fun j hj => (hP.2.2.2.2.1 j hj).2.2.2.1) ⟨?_, h⟩
      have s1 : sumI (σ 9) n 0 0 = sumI (fun j => nI (sz j)) n 0 0 := sumI_congr n 0 0 (fun j _ hj => ((hP.2.2.2.2.1 j (by omega)).2.2.1).trans (hP.2.2.2.2.1 j (by omega)).2.2.2.1)
      have s2 := sumI_nI (cnt := sz) n 0
      have s3 : nI (sumN sz 0) = 0 := nI_0
      rw [s3, Nat.zero_add] at s2
      rw [s1, s2, Nat.add_comm]
      have : nI (sumN sz n + 25) - nI 25 = nI (sumN sz n + 25 - 25) := pk_sub (by omega)
      rw [Nat.add_sub_cancel] at this
      exact this.symm
    · have e6 : what = 6 := by
        have e7 : what.toInt < 7 := by
          rw [Int32.lt_iff_toInt_lt] at q2
          exact q2
        have e8 : 0 ≤ what.toInt := by
          rw [Int32.lt_iff_toInt_lt] at q1
          have : (0 : Int32).toInt = 0 := by decide
          omega
        have ne : ∀ z : Int32, ¬ what = z → what.toInt ≠ z.toInt := fun z hz e => hz (Int32.toInt_inj.mp e)
        have x0 := ne 0 e0
        have x1 := ne 1 e1
        have x2 := ne 2 e2
        have x3 := ne 3 e3
        have x4 := ne 4 e4
        have x5 := ne 5 e5
        have y0 : (0 : Int32).toInt = 0 := by decide
        have y1 : (1 : Int32).toInt = 1 := by decide
        have y2 : (2 : Int32).toInt = 2 := by decide
        have y3 : (3 : Int32).toInt = 3 := by decide
        have y4 : (4 : Int32).toInt = 4 := by decide
        have y5 : (5 : Int32).toInt = 5 := by decide
        have y6 : (6 : Int32).toInt = 6 := by decide
        exact Int32.toInt_inj.mp (by omega)
      subst e6
      exact w_143_0 ⟨fun _ => ⟨fun _ => ⟨fun _ => ⟨fun _ => ⟨c3.trans c5.symm, h⟩, fun q => absurd q (by decide)⟩, fun q => absurd q (by decide)⟩, fun q => absurd q (by decide)⟩, fun q => absurd (by decide) q⟩
  · rcases q with q | q
    · exact absurd q1 (Int32.not_le.mpr q)
    · exact absurd (n6.mpr q2) (Int32.not_lt.mpr q)
/-- the reference's answer behind its go -/
theorem mo_run {n : Nat} {cb sz tp : Nat → Nat} (h : Inv σ) (h1 : σ 90 0 = 1) (hP : PRc σ 2 (σ 98) n cb sz tp) {what r : Int32} (q1 : ¬ what < 0) (q2 : what < 4) (hr : ∀ τ, OE n τ → FY σ τ → r = sumI (ranF τ what) n 0 0) :
    yR (d + 200) 137 0 [some (.ref 97), some (.int what)] [] σ (qI (fun r' σ2 => r = r' ∧ Inv σ2)) := by
  refine w_137_0 (sm_in (fun _ _ => br_t1 (sm_run h h1 hP (fun τ i1 i2 i3 => sm_ran hP.1 ?_ ⟨hr τ i2 i3, i1⟩))) (fun z => ?_))
  · rw [i3.1 98 (by omega)]; exact hP.2.2.1
  · rcases z with z | z
    · exact absurd z q1
    · exact absurd (n3.mp q2) (Int32.not_le.mpr z)
theorem op_run {what : Int32} (h : Inv σ) : yR (d + 200) 58 0 [some (.ref 0), some (.int what)] [] σ (qI (fun r σ1 => yR (d + 200) 137 0 [some (.ref 97), some (.int what)] [] σ1 (qI (fun r' σ2 => r = r' ∧ Inv σ2)))) := by
  obtain ⟨n, cb, sz, tp, hP⟩ := h.2.2.1
  have hn := hP.1
  refine w_58_0 (sp_below (fun q1 q2 => br_t1 (sp_make hn hP.2.1 ?_)) (fun q => br_f1 (sp_bad (w_137_0 (sm_in (fun q1 q2 => ?_) (fun _ => br_f1 (bad2 h)))))))
  · obtain ⟨j1, j2, j3⟩ := make_inv h hP
    generalize makeC n σ = σ1 at *
    have hP1 : PRc σ1 2 (σ1 98) n cb sz tp := hP.fr (fun c a b => j3 c (by omega)) (j3 98 (by omega))
    refine w_68_0 ⟨fun e => ?_, fun e0 => ⟨fun e => ?_, fun e1 => ⟨fun e => ?_, fun e2 => ?_⟩⟩⟩
    · refine mo_run j1 j2 hP1 q1 q2 (fun τ hO hF => ?_)
      obtain ⟨cnt, o1, o2, o3, o4, o5, o6⟩ := hO
      unfold ranF
      rw [if_pos e, ← hF.1 90 (by omega), o2]
      have s1 : sumI (τ 115) n 0 0 = sumI (fun j => nI (cnt j)) n 0 0 := sumI_congr n 0 0 (fun j _ hj => (o5 j (by omega)).2.1)
      have s2 := sumI_nI (cnt := cnt) n 0
      have s3 : nI (sumN cnt 0) = 0 := nI_0
      rw [s3, Nat.zero_add] at s2
      rw [s1, s2]
    · rw [hP1.2.1]
      refine sp_silent hn (mo_run j1 j2 hP1 q1 q2 (fun τ hO hF => ?_))
      obtain ⟨cnt, o1, o2, o3, o4, o5, o6⟩ := hO
      unfold ranF
      rw [if_neg e0, if_pos e]
      refine sumI_congr n 0 0 (fun j _ hj => ?_)
      unfold slt
      rw [← hF.1 92 (by omega), (o5 j (by omega)).1, (o5 j (by omega)).2.1]
    · refine sp_sum94 hn hP1.2.1 (mo_run j1 j2 hP1 q1 q2 (fun τ hO hF => ?_))
      obtain ⟨cnt, o1, o2, o3, o4, o5, o6⟩ := hO
      unfold ranF
      rw [if_neg e0, if_neg e1, if_pos e]
      refine sumI_congr n 0 0 (fun j _ hj => ?_)
      unfold cut1
      rw [← hF.1 94 (by omega), ← (o5 j (by omega)).2.2.2.1]
      rcases (o5 j (by omega)).2.2.2.2.1 with z | z
      · rw [z, if_pos rfl]
      · rw [z, if_neg one_ne]
    · refine sp_sum93 hn hP1.2.1 (mo_run j1 j2 hP1 q1 q2 (fun τ hO hF => ?_))
      obtain ⟨cnt, o1, o2, o3, o4, o5, o6⟩ := hO
      unfold ranF
      rw [if_neg e0, if_neg e1, if_neg e2]
      refine sumI_congr n 0 0 (fun j _ hj => ?_)
      rw [← hF.1 93 (by omega)]
      exact (o5 j (by omega)).2.2.1
  · rcases q with q | q
    · exact absurd q1 (Int32.not_le.mpr q)
    · exact absurd (n3.mpr q2) (Int32.not_lt.mpr q)
theorem op_ends {x : Int32} (h : Inv σ) : yR (d + 200) 61 0 [some (.ref 0), some (.int x)] [] σ (qI (fun r σ1 => yR (d + 200) 141 0 [some (.ref 97), some (.int x)] [] σ1 (qI (fun r' σ2 => r = r' ∧ Inv σ2)))) := by
  obtain ⟨n, cb, sz, tp, hP⟩ := h.2.2.1
  have hn := hP.1
  have e4 : (¬ x < 0 ∧ ¬ (4 : Int32) ≤ x) ↔ vp_in x 4 := vp_lt (by decide)
  refine w_61_0 (sp_isName (fun q => br_t1 (sp_make hn hP.2.1 ?_)) (fun q => br_f1 (sp_bad (w_141_0 (sm_in (fun q1 q2 => absurd (e4.mp ⟨Int32.not_lt.mpr q1, fun z => absurd (n3.mpr q2) (Int32.not_lt.mpr z)⟩) q) (fun _ => br_f1 (bad2 h)))))))
  obtain ⟨j1, j2, j3⟩ := make_inv h hP
  generalize makeC n σ = σ1 at *
  have hP1 : PRc σ1 2 (σ1 98) n cb sz tp := hP.fr (fun c a b => j3 c (by omega)) (j3 98 (by omega))
  obtain ⟨y, hy, ey⟩ := vp_in_of q (by decide)
  refine ⟨q, w_141_0 (sm_in (fun _ _ => br_t1 (sm_run j1 j2 hP1 (fun τ i1 i2 i3 => ⟨q, ?_, i1⟩))) (fun z => ?_))⟩
  · obtain ⟨cnt, o1, o2, o3, o4, o5, o6⟩ := i2
    rw [ey, nI_clamp (by omega), ← i3.1 96 (by omega)]
    exact o6 y hy
  · have := e4.mpr q
    rcases z with z | z
    · exact absurd z this.1
    · exact absurd (n3.mp (Int32.not_le.mp this.2)) (Int32.not_le.mpr z)
theorem op_said {i : Int32} (h : Inv σ) : yR (d + 200) 59 0 [some (.ref 0), some (.int i)] [] σ (qI (fun r σ1 => yR (d + 200) 138 0 [some (.ref 97), some (.int i)] [] σ1 (qI (fun r' σ2 => r = r' ∧ Inv σ2)))) := by
  obtain ⟨n, cb, sz, tp, hP⟩ := h.2.2.1
  have hn := hP.1
  refine w_59_0 ⟨fun q => sp_make hn hP.2.1 ?_, fun q => sp_bad (w_138_0 ⟨fun z => absurd z q, fun _ => bad2 h⟩)⟩
  obtain ⟨j1, j2, j3⟩ := make_inv h hP
  generalize makeC n σ = σ1 at *
  have hP1 : PRc σ1 2 (σ1 98) n cb sz tp := hP.fr (fun c a b => j3 c (by omega)) (j3 98 (by omega))
  have mo : ∀ r : Int32, (∀ τ, OE n τ → FY σ1 τ → ((((τ 97 33) ≤ i) → r = -1999999) ∧ (¬ ((τ 97 33) ≤ i) → (vp_in i 240 ∧ r = τ 114 i.toNatClampNeg)))) → yR (d + 200) 138 0 [some (.ref 97), some (.int i)] [] σ1 (qI (fun r' σ2 => r = r' ∧ Inv σ2)) := by
    intro r hr
    refine w_138_0 ⟨fun _ => sm_run j1 j2 hP1 (fun τ i1 i2 i3 => ?_), fun z => absurd q z⟩
    have := hr τ i2 i3
    exact ⟨fun z => ⟨this.1 z, i1⟩, fun z => ⟨(this.2 z).1, (this.2 z).2, i1⟩⟩
  have q' : ¬ i < 0 := Int32.not_lt.mpr q
  obtain ⟨y, hy, ey⟩ := nI_of q'
  subst ey
  refine w_23_0 (sp_below (fun _ q2 => br_t2 ⟨fun q3 => mo _ (fun τ hO hF => ?_), fun q3 => ⟨?_, mo _ (fun τ hO hF => ?_)⟩⟩) (fun q2 => br_f2 (mo _ (fun τ hO hF => ?_))))
  · exfalso
    obtain ⟨cnt, o1, o2, o3, o4, o5, o6⟩ := hO
    have := sumN_30 o1
    rw [← hF.1 90 (by omega), o2] at q2
    have z1 := (nI_ltI (by omega) (by omega)).mp q2
    have z2 := (nI_leI (a := 240) (b := y) (by decide) (by omega)).mp q3
    omega
  · exact (vp_lt (b := 240) (by decide)).mp ⟨q', q3⟩
  · obtain ⟨cnt, o1, o2, o3, o4, o5, o6⟩ := hO
    have := sumN_30 o1
    rw [← hF.1 90 (by omega), o2] at q2
    have z1 := (nI_ltI (by omega) (by omega)).mp q2
    rw [o3]
    refine ⟨fun z => absurd z (nI_ge z1 (by omega)), fun _ => ⟨vp_in_nI (by omega) (by decide), ?_⟩⟩
    rw [nI_clamp (by omega), ← hF.1 91 (by omega)]
    exact o4 y z1
  · obtain ⟨cnt, o1, o2, o3, o4, o5, o6⟩ := hO
    have := sumN_30 o1
    rw [← hF.1 90 (by omega), o2] at q2
    rcases q2 with q2 | q2
    · exact absurd q2 q'
    · have z1 := (nI_leI (by omega) (by omega)).mp q2
      rw [o3]
      exact ⟨fun _ => rfl, fun z => absurd q2 z⟩
end OPS
