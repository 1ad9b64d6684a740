/-! THE INVARIANT between the class (cells 0 .. 96) and the reference (97 .. 117), and the plain calls -/
def I1 (σ : yS) : Prop := σ 0 7 = σ 101 0 ∧ σ 0 8 = σ 101 1 ∧ σ 0 9 = σ 101 2
def I2 (σ : yS) : Prop := ∃ t : Nat, t ≤ 150 ∧ σ 0 1 = nI t ∧ σ 97 6 = nI t ∧ ∀ j, j < t → σ 1 j = σ 102 j ∧ vp_in (σ 1 j) 128
def I3 (σ : yS) : Prop := ∃ (n : Nat) (cb sz tp : Nat → Nat), PRc σ 2 (σ 98) n cb sz tp
def I4 (σ : yS) : Prop := ∃ c o : Nat, c ≤ 5 ∧ o < 5 ∧ σ 27 2 = nI c ∧ σ 27 1 = nI o ∧ σ 97 3 = nI c ∧ ∀ i, i < c → ∃ (n : Nat) (cb sz tp : Nat → Nat), PRc σ (29 + 11 * ((o + i) % 5)) (fun j => σ 100 (89 * i + j)) n cb sz tp
def I5 (σ : yS) : Prop := σ 90 0 = 0 ∨ (σ 90 0 = 1 ∧ ∃ (γ : yS) (n : Nat), n ≤ 8 ∧ σ 2 10 = nI n ∧ (∀ c, 2 ≤ c → c ≤ 12 → γ c = σ c) ∧ γ 90 0 = 0 ∧ ∀ c, 90 ≤ c → c ≤ 96 → σ c = (makeC n γ) c)
def Inv (σ : yS) : Prop := I1 σ ∧ I2 σ ∧ I3 σ ∧ I4 σ ∧ I5 σ
section INV
variable {σ σ' : yS}
theorem I1.fr (h : I1 σ) (a : ∀ k, 6 < k → σ' 0 k = σ 0 k) (b : σ' 101 = σ 101) : I1 σ' := by
  unfold I1
  rw [a 7 (by omega), a 8 (by omega), a 9 (by omega), b]; exact h
theorem I2.fr (h : I2 σ) (a : σ' 0 1 = σ 0 1) (b : σ' 1 = σ 1) (c : σ' 97 6 = σ 97 6) (e : σ' 102 = σ 102) : I2 σ' := by
  unfold I2
  rw [a, b, c, e]; exact h
theorem I3.fr (h : I3 σ) (a : ∀ c, 2 ≤ c → c ≤ 12 → σ' c = σ c) (b : σ' 98 = σ 98) : I3 σ' := by
  obtain ⟨n, cb, sz, tp, h⟩ := h
  exact ⟨n, cb, sz, tp, h.fr (fun c h1 h2 => a c h1 (by omega)) b⟩
theorem I4.fr (h : I4 σ) (a : σ' 27 = σ 27) (b : σ' 97 3 = σ 97 3) (c : ∀ c, 29 ≤ c → c ≤ 83 → σ' c = σ c) (e : σ' 100 = σ 100) : I4 σ' := by
  obtain ⟨n, o, h1, h2, h3, h4, h5, h6⟩ := h
  refine ⟨n, o, h1, h2, by rw [a]; exact h3, by rw [a]; exact h4, by rw [b]; exact h5, fun i hi => ?_⟩
  obtain ⟨m, cb, sz, tp, h⟩ := h6 i hi
  have : (o + i) % 5 < 5 := Nat.mod_lt _ (by omega)
  exact ⟨m, cb, sz, tp, h.fr (fun c' g1 g2 => c c' (by omega) (by omega)) (by rw [e])⟩
theorem I5.fr (h : I5 σ) (a : ∀ c, 2 ≤ c → c ≤ 12 → σ' c = σ c) (b : ∀ c, 90 ≤ c → c ≤ 96 → σ' c = σ c) : I5 σ' := by
  unfold I5
  rw [b 90 (by omega) (by omega)]
  rcases h with h | ⟨h, γ, n, h0, h1, h2, h3, h4⟩
  · exact Or.inl h
  · exact Or.inr ⟨h, γ, n, h0, by rw [a 2 (by omega) (by omega)]; exact h1, fun c g1 g2 => (h2 c g1 g2).trans (a c g1 g2).symm, h3, fun c g1 g2 => (b c g1 g2).trans (h4 c g1 g2)⟩
/-- cells that the invariant does not speak of may change -/
theorem Inv.fr (h : Inv σ) (a : ∀ c, c ≤ 12 ∨ c = 27 ∨ (29 ≤ c ∧ c ≤ 83) ∨ (90 ≤ c ∧ c ≤ 96) ∨ c = 98 ∨ (100 ≤ c ∧ c ≤ 102) → σ' c = σ c) (b : ∀ k, k = 3 ∨ k = 6 → σ' 97 k = σ 97 k) : Inv σ' := by
  obtain ⟨h1, h2, h3, h4, h5⟩ := h
  exact ⟨h1.fr (fun k _ => by rw [a 0 (by omega)]) (a 101 (by omega)), h2.fr (by rw [a 0 (by omega)]) (a 1 (by omega)) (b 6 (Or.inr rfl)) (a 102 (by omega)), h3.fr (fun c g1 g2 => a c (by omega)) (a 98 (by omega)), h4.fr (a 27 (by omega)) (b 3 (Or.inl rfl)) (fun c g1 g2 => a c (by omega)) (a 100 (by omega)), h5.fr (fun c g1 g2 => a c (by omega)) (fun c g1 g2 => a c (by omega))⟩
theorem Inv.cnt (h : Inv σ) {j : Nat} {x : Int32} (hj : j < 3) : Inv (sg (sg σ 0 (7 + j) (σ 0 (7 + j) + 1)) 101 j (σ 101 j + 1)) := by
  obtain ⟨⟨a1, a2, a3⟩, h2, h3, h4, h5⟩ := h
  refine ⟨?_, h2.fr ?_ rfl rfl rfl, h3.fr (fun c g1 g2 => by rw [kp_sg (by omega), kp_sg (by omega)]) rfl, h4.fr rfl rfl (fun c g1 g2 => by rw [kp_sg (by omega), kp_sg (by omega)]) rfl, h5.fr (fun c g1 g2 => by rw [kp_sg (by omega), kp_sg (by omega)]) (fun c g1 g2 => by rw [kp_sg (by omega), kp_sg (by omega)])⟩
  · unfold I1
    match j, hj with
    | 0, _ => exact ⟨congrArg (· + 1) a1, a2, a3⟩
    | 1, _ => exact ⟨a1, congrArg (· + 1) a2, a3⟩
    | 2, _ => exact ⟨a1, a2, congrArg (· + 1) a3⟩
  · show sg σ 0 (7 + j) (σ 0 (7 + j) + 1) 0 1 = σ 0 1
    exact sg_ne _ _ _ (by omega)
variable {d : Nat} {K : Int32 → yS → Prop}
theorem sp_bad (h : K (-2000000) (sg σ 0 7 (σ 0 7 + 1))) : yR d 73 0 [some (.ref 0)] [] σ (qI K) := w_73_0 h
theorem sm_bad (h : K (-2000000) (sg σ 101 0 (σ 101 0 + 1))) : yR d 81 0 [some (.ref 97), some (.int (-2000000))] [] σ (qI K) := by
  have e : (-2000000 : Int32) - (-2000000) = nI 0 := by decide
  refine w_81_0 ?_
  rw [e, nI_clamp (by omega)]
  exact ⟨vp_in_nI (by omega) (by decide), h⟩
theorem sm_no (h : K (-2000001) (sg σ 101 1 (σ 101 1 + 1))) : yR d 81 0 [some (.ref 97), some (.int (-2000001))] [] σ (qI K) := by
  have e : (-2000000 : Int32) - (-2000001) = nI 1 := by decide
  refine w_81_0 ?_
  rw [e, nI_clamp (by omega)]
  exact ⟨vp_in_nI (by omega) (by decide), h⟩
theorem sm_full (h : K (-2000002) (sg σ 101 2 (σ 101 2 + 1))) : yR d 81 0 [some (.ref 97), some (.int (-2000002))] [] σ (qI K) := by
  have e : (-2000000 : Int32) - (-2000002) = nI 2 := by decide
  refine w_81_0 ?_
  rw [e, nI_clamp (by omega)]
  exact ⟨vp_in_nI (by omega) (by decide), h⟩
/-- both refuse -/
def same (r : Int32) (σ : yS) : Int32 → yS → Prop := fun r' σ' => r = r' ∧ Inv σ'
theorem bad2 (h : Inv σ) : yR d 81 0 [some (.ref 97), some (.int (-2000000))] [] (sg σ 0 7 (σ 0 7 + 1)) (qI (fun r σ' => (-2000000 : Int32) = r ∧ Inv σ')) := sm_bad ⟨rfl, h.cnt (j := 0) (x := 0) (by omega)⟩
theorem op_type {c : Int32} (h : Inv σ) : yR (d + 200) 52 0 [some (.ref 0), some (.int c)] [] σ (qI (fun r σ1 => yR (d + 200) 94 0 [some (.ref 97), some (.int c)] [] σ1 (qI (fun r' σ2 => r = r' ∧ Inv σ2)))) := by
  obtain ⟨h1, ⟨t, t1, t2, t3, t4⟩, h3, h4, h5⟩ := id h
  have bad : (c < 0 ∨ (127 : Int32) < c) → yR (d + 199) 73 0 [some (.ref 0)] [] σ (qI (fun x1 σ1 => yR (d + 200) 94 0 [some (.ref 97), some (.int c)] [] σ1 (qI (fun r' σ2 => x1 = r' ∧ Inv σ2)))) := by
    intro hc
    exact sp_bad (w_94_0 (sm_in (fun q1 q2 => by
      rcases hc with q | q
      · exact absurd q1 (Int32.not_le.mpr q)
      · exact absurd q2 (Int32.not_le.mpr q)) (fun _ => br_f1 (bad2 h))))
  refine w_52_0 ⟨fun q => bad (Or.inl q), fun q => ⟨fun q2 => ⟨fun q3 => ?_, fun q3 => ?_⟩, fun q2 => bad (Or.inr (Int32.not_le.mp q2))⟩⟩
  · have ht : t < 150 := by
      rw [t2] at q3
      exact (nI_ltI (by omega) (by decide)).mp q3
    rw [t2, nI_clamp (by omega)]
    refine ⟨vp_in_nI ht (by decide), w_94_0 (sm_in (fun _ _ => br_t1 ⟨fun _ => ?_, fun z => ?_⟩) (fun z => ?_))⟩
    · have e6 : (sg (sg σ 1 t c) 0 1 (nI t + 1)) 97 6 = nI t := t3
      rw [e6, nI_clamp (by omega)]
      refine ⟨vp_in_nI ht (by decide), rfl, h1.fr (fun k hk => ?_) rfl, ⟨t + 1, by omega, ?_, ?_, fun j hj => ?_⟩, h3.fr (fun c g1 g2 => ?_) rfl, h4.fr rfl rfl (fun c g1 g2 => ?_) rfl, h5.fr (fun c g1 g2 => ?_) (fun c g1 g2 => ?_)⟩
      · show sg (sg σ 1 t c) 0 1 (nI t + 1) 0 k = σ 0 k
        exact sg_ne _ _ _ (by omega)
      · show nI t + 1 = _
        exact nI_1 t
      · show nI t + 1 = _
        exact nI_1 t
      · show sg σ 1 t c 1 j = sg σ 102 t c 102 j ∧ vp_in (sg σ 1 t c 1 j) 128
        by_cases e : j = t
        · subst e
          rw [sg_same, sg_same]
          exact ⟨rfl, (vp_lt (b := 128) (by decide)).mp ⟨q, fun z => by
            have := Int32.le_trans z q2
            exact absurd this (by decide)⟩⟩
        · rw [sg_ne _ _ _ e, sg_ne _ _ _ e]
          exact t4 j (by omega)
      all_goals rw [kp_sg (by omega), kp_sg (by omega), kp_sg (by omega), kp_sg (by omega)]
    · have e6 : (sg (sg σ 1 t c) 0 1 (nI t + 1)) 97 6 = nI t := t3
      rw [e6] at z
      exact absurd ((nI_eq (a := t) (b := 150) (by omega) (by decide)).mp z) (by omega)
    · rcases z with z | z
      · exact absurd z q
      · exact absurd q2 (Int32.not_le.mpr z)
  · have ht : t = 150 := by
      rw [t2] at q3
      have q4 : ¬ t < 150 := fun z => q3 ((nI_ltI (a := t) (b := 150) (by omega) (by decide)).mpr z)
      omega
    refine w_94_0 (sm_in (fun _ _ => br_t1 ⟨fun z => absurd (t3.trans (by rw [ht]; rfl)) z, fun _ => sm_full ⟨rfl, h.cnt (j := 2) (x := 0) (by omega)⟩⟩) (fun z => ?_))
    rcases z with z | z
    · exact absurd z q
    · exact absurd q2 (Int32.not_le.mpr z)
theorem op_clear (h : Inv σ) : yR (d + 200) 53 0 [some (.ref 0), none] [] σ (qI (fun r σ1 => yR (d + 200) 95 0 [some (.ref 97), none] [] σ1 (qI (fun r' σ2 => r = r' ∧ Inv σ2)))) := by
  obtain ⟨h1, ⟨t, t1, t2, t3, t4⟩, h3, h4, h5⟩ := id h
  refine w_53_0 (w_95_0 ⟨t2.trans t3.symm, h1.fr (fun k hk => ?_) rfl, ⟨0, by omega, nI_0.symm, nI_0.symm, fun j hj => by omega⟩, h3.fr (fun c g1 g2 => ?_) rfl, h4.fr rfl rfl (fun c g1 g2 => ?_) rfl, h5.fr (fun c g1 g2 => ?_) (fun c g1 g2 => ?_)⟩)
  · show sg σ 0 1 0 0 k = σ 0 k
    exact sg_ne _ _ _ (by omega)
  all_goals rw [kp_sg (by omega), kp_sg (by omega)]
end INV
