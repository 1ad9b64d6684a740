theorem PRc.cong2 {σ σ' : yS} {b b' n : Nat} {f f' : Nat → Int32} {cb sz tp : Nat → Nat} (h : PRc σ b f n cb sz tp) (s1 : ∀ k, 1 ≤ k → k ≤ 4 → ∀ j, j < 60 → σ' (b' + k) j = σ (b + k) j) (s2 : ∀ k, 5 ≤ k → k ≤ 9 → ∀ j, j < 8 → σ' (b' + k) j = σ (b + k) j) (s4 : σ' b' 10 = σ b 10) (hf : ∀ j, j < 85 → f' j = f j)
    (hv : ∀ x, x < 4 → σ' (b' + 10) x = f' (85 + x) ∧ Num (σ' (b' + 10) x)) : PRc σ' b' f' n cb sz tp := by
  obtain ⟨h1, h2, h3, h4, h5, h6⟩ := h
  refine ⟨h1, s4.trans h2, (hf 0 (by omega)).trans h3, h4, fun k hk => ?_, hv⟩
  obtain ⟨l1, l2, l3, l4, l5, l6, l7, l8, l9, l10, l11⟩ := h5 k hk
  have hsz : sumN sz k + sz k ≤ 60 := by
    have : sumN sz (k + 1) ≤ sumN sz n := sumN_le (by omega)
    have e : sumN sz (k + 1) = sumN sz k + sz k := rfl
    omega
  unfold PLn
  rw [s2 6 (by omega) (by omega) k (by omega), s2 7 (by omega) (by omega) k (by omega), s2 5 (by omega) (by omega) k (by omega), s2 8 (by omega) (by omega) k (by omega), s2 9 (by omega) (by omega) k (by omega), hf (1 + k) (by omega), hf (9 + k) (by omega), hf (17 + k) (by omega)]
  refine ⟨l1, l2, l3, l4, l5, l6, l7, l8, l9.cong (fun j g1 g2 => ⟨s1 1 (by omega) (by omega) _ (by omega), s1 2 (by omega) (by omega) _ (by omega), s1 3 (by omega) (by omega) _ (by omega), s1 4 (by omega) (by omega) _ (by omega), hf _ (by omega)⟩), ?_, ?_⟩
  · rw [bitR_cong (sz k) 0 0 (fun j g1 g2 => hf (25 + sumN sz k + j) (by omega))]; exact l10
  · rw [bitR_cong (sz k) 0 0 (fun j g1 g2 => hf (25 + sumN sz k + j) (by omega))]; exact l11
section OPS3
variable {d : Nat} {σ τ : yS} {K : Int32 → yS → Prop} {KV : yS → Prop}
theorem num_le {v : Int32} : Num v ↔ (-999999 : Int32) ≤ v ∧ v ≤ 999999 := by
  rw [Int32.le_iff_toInt_le, Int32.le_iff_toInt_le]
  exact Iff.rfl
theorem op_value {x v : Int32} (h : Inv σ) : yR (d + 200) 55 0 [some (.ref 0), some (.int x), some (.int v), none] [] σ (qI (fun r σ1 => yR (d + 200) 115 0 [some (.ref 97), some (.int x), some (.int v), none] [] σ1 (qI (fun r' σ2 => r = r' ∧ Inv σ2)))) := by
  obtain ⟨h1, h2, ⟨n, cb, sz, tp, hP⟩, ⟨c, o, c1, c2, c3, c4, c5, c6⟩, h5⟩ := id h
  have e4 : (¬ x < 0 ∧ ¬ (4 : Int32) ≤ x) ↔ vp_in x 4 := vp_lt (by decide)
  have nv : numC v.toInt64 = true ↔ Num v := by rw [num_iff, Int32.toInt_toInt64]; exact Iff.rfl
  refine w_55_0 (sp_isName (fun q => br_t2 (sp_isNumber ?_)) (fun q => br_f2 (sp_bad (w_115_0 (sm_in (fun q1 q2 => absurd (e4.mp ⟨Int32.not_lt.mpr q1, fun z => absurd (n3.mpr q2) (Int32.not_lt.mpr z)⟩) q) (fun _ => br_f2 (bad2 h)))))))
  have q' := e4.mpr q
  have inx : ∀ (ρ : yS) (K' : Int32 → yS → Prop), K' 1 ρ → yR (d + 199) 80 0 [some (.int x), some (.int 0), some (.int 3)] [] ρ (qI K') := fun ρ K' hk => sm_in (fun _ _ => hk) (fun z => by
    rcases z with z | z
    · exact absurd z q'.1
    · exact absurd (n3.mp (Int32.not_le.mp q'.2)) (Int32.not_le.mpr z))
  cases hb : numC v.toInt64 with
  | false =>
    refine br_f1 (sp_bad (w_115_0 (inx _ _ (br_t2 (sm_in (fun q1 q2 => ?_) (fun _ => br_f1 (bad2 h)))))))
    have := nv.mpr (num_le.mpr ⟨q1, q2⟩)
    rw [hb] at this
    exact absurd this (by decide)
  | true =>
    have hN := nv.mp hb
    obtain ⟨y, hy, ey⟩ := vp_in_of q (by decide)
    subst ey
    have ec : (nI y).toNatClampNeg = y := nI_clamp (by omega)
    have e85 : (85 : Int32) + nI y = nI (85 + y) := nI_add 85 y
    refine br_t1 (sp_leaveState c1 c2 c3 c4 ⟨q, ?_⟩)
    rw [ec]
    refine w_115_0 (inx _ _ (br_t2 (sm_in (fun _ _ => br_t1 (sm_hold (fun ρ a b => ⟨by rw [e85]; exact vp_in_nI (by omega) (by decide), ?_⟩))) (fun z => ?_))))
    · rw [e85, nI_clamp (by omega)]
      -- the class's state before the reference
      have k1 : ∀ q, q < 12 ∨ (12 < q ∧ q < 27) ∨ q = 28 ∨ (83 < q ∧ q ≠ 90) → (sg (sg (lvC c o σ) 90 0 0) 12 y v) q = σ q := fun q hq => by
        rw [kp_sg (by omega), kp_sg (by omega)]; exact lv_kp (by omega)
      have k12 : (sg (lvC c o σ) 90 0 0) 12 = σ 12 := by rw [kp_sg (by decide)]; exact lv_kp (by omega)
      have r98 : ρ 98 = σ 98 := (a 98 (by decide)).trans (k1 98 (by omega))
      refine sm_push (c := c) c1 (by rw [kp_sg (by decide), a 97 (by decide), k1 97 (by omega)]; exact c5) (fun ρ' a' b' p3 p4 p5 => ⟨?_, ?_⟩)
      · rw [r98, k12]
        exact (hP.2.2.2.2.2 y hy).1
      · -- the invariant
        have f1 : ∀ q, q ≠ 97 → q ≠ 98 → q ≠ 99 → q ≠ 100 → ρ' q = (sg (sg (lvC c o σ) 90 0 0) 12 y v) q := fun q h1 h2 h3 h4 => by
          rw [a' q h4 h1, kp_sg h2]; exact a q h3
        have f97 : ∀ k, k ≠ 3 → ρ' 97 k = σ 97 k := fun k hk => by
          rw [b' k hk, kp_sg (by decide), a 97 (by decide), k1 97 (by omega)]
        have f98 : ρ' 98 = (sg σ 98 (85 + y) v) 98 := by
          rw [a' 98 (by decide) (by decide)]
          unfold sg
          rw [if_pos rfl, if_pos rfl, r98]
        have g1 : ∀ q, q < 12 ∨ (12 < q ∧ q < 27) ∨ q = 28 ∨ (83 < q ∧ q ≠ 90 ∧ q ≠ 97 ∧ q ≠ 98 ∧ q ≠ 99 ∧ q ≠ 100) → ρ' q = σ q := fun q hq => by
          rw [f1 q (by omega) (by omega) (by omega) (by omega)]; exact k1 q (by omega)
        refine ⟨h1.fr (fun k _ => by rw [g1 0 (by omega)]) (g1 101 (by omega)), h2.fr (by rw [g1 0 (by omega)]) (g1 1 (by omega)) (f97 6 (by omega)) (g1 102 (by omega)), ⟨n, cb, sz, tp, ?_⟩, ?_, Or.inl ?_⟩
        · refine hP.cong2 (fun k g2 g3 j hj => by rw [g1 (2 + k) (by omega)]) (fun k g2 g3 j hj => by rw [g1 (2 + k) (by omega)]) (by rw [g1 2 (by omega)]) (fun j hj => by rw [f98, sg_ne _ _ _ (by omega)]) (fun z hz => ?_)
          rw [f98, f1 12 (by decide) (by decide) (by decide) (by decide)]
          by_cases e : z = y
          · subst e
            rw [sg_same, sg_same]; exact ⟨rfl, hN⟩
          · rw [sg_ne _ _ _ e, sg_ne _ _ _ (by omega), k12]
            exact hP.2.2.2.2.2 z hz
        · refine hist_step c1 c2 c3 c4 hP c6 (fun q hq => ?_) p3 (fun i j hi hj => ?_) (fun j hj => ?_)
          · rw [f1 q (by omega) (by omega) (by omega) (by omega), kp_sg (by omega), kp_sg (by omega)]
          · rw [p4 i j hi hj, kp_sg (by decide), a 100 (by decide), k1 100 (by omega)]
          · rw [p5 j hj, kp_sg (by decide), b j hj, k1 98 (by omega)]
        · rw [f1 90 (by decide) (by decide) (by decide) (by decide), kp_sg (by decide)]
          exact sg_same _ _ _ _
    · have := num_le.mp hN
      rcases z with z | z
      · exact absurd this.1 (Int32.not_le.mpr z)
      · exact absurd this.2 (Int32.not_le.mpr z)
theorem sp_takeInto {c o : Nat} (hc : c ≤ 5) (hc0 : 0 < c) (ho : o < 5) (h2 : σ 27 2 = nI c) (h1 : σ 27 1 = nI o) (h : KV (tkA 2 (29 + 11 * ((o + (c - 1)) % 5)) (sg σ 27 2 (nI (c - 1))))) : yR (d + 3) 2 0 [some (.ref 27), some (.ref 2), none] [] σ (qV KV) := by
  have hm : (o + (c - 1)) % 5 < 5 := Nat.mod_lt _ (by omega)
  have e1 : nI c - 1 = nI (c - 1) := pk_sub (a := c) (b := 1) (by omega)
  refine w_2_0 ⟨fun _ => ?_, fun q => ?_⟩
  · rw [h1, h2, e1, nI_add]
    refine sp_mod5 (by omega) ⟨vp_in_nI hm (by decide), fun e => sp_tk_2_29 ?_, fun e => sp_tk_2_40 ?_, fun e => sp_tk_2_51 ?_, fun e => sp_tk_2_62 ?_, fun e => sp_tk_2_73 ?_⟩
    · have z := (nI_eq (a := (o + (c - 1)) % 5) (b := 0) (by omega) (by omega)).mp e; rw [z] at h; exact h
    · have z := (nI_eq (a := (o + (c - 1)) % 5) (b := 1) (by omega) (by omega)).mp e; rw [z] at h; exact h
    · have z := (nI_eq (a := (o + (c - 1)) % 5) (b := 2) (by omega) (by omega)).mp e; rw [z] at h; exact h
    · have z := (nI_eq (a := (o + (c - 1)) % 5) (b := 3) (by omega) (by omega)).mp e; rw [z] at h; exact h
    · have z := (nI_eq (a := (o + (c - 1)) % 5) (b := 4) (by omega) (by omega)).mp e; rw [z] at h; exact h
  · rw [h2] at q
    have := (nI_eq (a := c) (b := 0) (by omega) (by omega)).mp (q.trans nI_0.symm)
    omega
theorem op_back (h : Inv σ) : yR (d + 200) 63 0 [some (.ref 0)] [] σ (qI (fun r σ1 => yR (d + 200) 84 0 [some (.ref 97), none] [] σ1 (qI (fun r' σ2 => r = r' ∧ Inv σ2)))) := by
  obtain ⟨h1, h2, ⟨n, cb, sz, tp, hP⟩, ⟨c, o, c1, c2, c3, c4, c5, c6⟩, h5⟩ := id h
  have z0 : ∀ m : Nat, m ≤ 5 → (nI m = 0 ↔ m = 0) := fun m hm => by
    have := nI_eq (a := m) (b := 0) (by omega) (by omega)
    rw [nI_0] at this
    exact this
  refine w_63_0 ⟨fun q => ?_, fun q => ?_⟩
  · have hc0 : 0 < c := by
      rw [c3] at q
      have := fun e => q ((z0 c c1).mpr e)
      rcases Nat.eq_zero_or_pos c with e | e
      · exact absurd e this
      · exact e
    refine sp_takeInto c1 hc0 c2 c3 c4 ?_
    have hm : (o + (c - 1)) % 5 < 5 := Nat.mod_lt _ (by omega)
    generalize hb : 29 + 11 * ((o + (c - 1)) % 5) = b
    have hb2 : 29 ≤ b ∧ b + 10 ≤ 83 := by omega
    have e1 : nI c - 1 = nI (c - 1) := pk_sub (a := c) (b := 1) (by omega)
    have k1 : ∀ q, 12 < q ∨ q < 2 → q ≠ 27 → (tkA 2 b (sg σ 27 2 (nI (c - 1)))) q = σ q := fun q h1 h2 => by
      rw [tkA_kp (by omega)]; exact kp_sg h2
    have k27 : (tkA 2 b (sg σ 27 2 (nI (c - 1)))) 27 = (sg σ 27 2 (nI (c - 1))) 27 := tkA_kp (by omega)
    generalize hσ1 : tkA 2 b (sg σ 27 2 (nI (c - 1))) = σ1 at k1 k27 ⊢
    have hSE : SE (sg σ 27 2 (nI (c - 1))) b σ1 2 := by rw [← hσ1]; exact tkA_SE (by omega)
    have r27 : σ1 27 2 = nI (c - 1) := by rw [k27]; exact sg_same _ _ _ _
    have loop : ∀ m k : Nat, k + m = 89 → ∀ ρ : yS, (∀ q, q ≠ 98 → ρ q = (sg (sg σ1 90 0 0) 97 3 (nI (c - 1))) q) → (∀ j, j < k → ρ 98 j = σ 100 (89 * (c - 1) + j)) → yR (d + 200) 84 26 [some (.ref 97), some (.int (nI k))] [] ρ (qI (fun r' σ2 => σ1 27 2 = r' ∧ Inv σ2)) := by
      intro m
      induction m with
      | zero =>
        intro k hk ρ a b'
        have e : k = 89 := by omega
        subst e
        have p3 : ρ 97 3 = nI (c - 1) := by rw [a 97 (by decide)]; exact sg_same _ _ _ _
        refine w_84_26 ⟨fun _ => ⟨by rw [p3, r27], ?_⟩, fun q => absurd (by decide) q⟩
        have f1 : ∀ q, q ≠ 90 → q ≠ 97 → q ≠ 98 → ρ q = σ1 q := fun q g1 g2 g3 => by rw [a q g3, kp_sg g2, kp_sg g1]
        have g1 : ∀ q, (12 < q ∨ q < 2) → q ≠ 27 → q ≠ 90 → q ≠ 97 → q ≠ 98 → ρ q = σ q := fun q x1 x2 x3 x4 x5 => (f1 q x3 x4 x5).trans (k1 q x1 x2)
        have f97 : ∀ k, k ≠ 3 → ρ 97 k = σ 97 k := fun k hk => by rw [a 97 (by decide), sg_ne _ _ _ hk, kp_sg (by decide), k1 97 (by omega) (by decide)]
        refine ⟨h1.fr (fun k _ => by rw [g1 0 (by omega) (by decide) (by decide) (by decide) (by decide)]) (g1 101 (by omega) (by decide) (by decide) (by decide) (by decide)), h2.fr (by rw [g1 0 (by omega) (by decide) (by decide) (by decide) (by decide)]) (g1 1 (by omega) (by decide) (by decide) (by decide) (by decide)) (f97 6 (by decide)) (g1 102 (by omega) (by decide) (by decide) (by decide) (by decide)), ?_, ?_, Or.inl ?_⟩
        · obtain ⟨n', cb', sz', tp', hp⟩ := c6 (c - 1) (by omega)
          rw [hb] at hp
          have hp2 : PRc (sg σ 27 2 (nI (c - 1))) b (fun j => σ 100 (89 * (c - 1) + j)) n' cb' sz' tp' := hp.fr (fun q x1 x2 => kp_sg (by omega)) rfl
          have hp3 : PRc σ1 2 (ρ 98) n' cb' sz' tp' := hp2.cong hSE (fun j hj => b' j hj)
          exact ⟨n', cb', sz', tp', hp3.fr (fun q x1 x2 => f1 q (by omega) (by omega) (by omega)) rfl⟩
        · refine ⟨c - 1, o, by omega, c2, ?_, ?_, p3, fun i hi => ?_⟩
          · rw [f1 27 (by decide) (by decide) (by decide)]; exact r27
          · rw [f1 27 (by decide) (by decide) (by decide), k27, sg_ne _ _ _ (by decide)]; exact c4
          · obtain ⟨n', cb', sz', tp', hp⟩ := c6 i (by omega)
            have hmi : (o + i) % 5 < 5 := Nat.mod_lt _ (by omega)
            exact ⟨n', cb', sz', tp', hp.fr (fun q x1 x2 => g1 q (by omega) (by omega) (by omega) (by omega) (by omega)) (by rw [g1 100 (by omega) (by decide) (by decide) (by decide) (by decide)])⟩
        · rw [a 90 (by decide), kp_sg (by decide)]; exact sg_same _ _ _ _
      | succ m ih =>
        intro k hk ρ a b'
        have p3 : ρ 97 3 = nI (c - 1) := by rw [a 97 (by decide)]; exact sg_same _ _ _ _
        have ep : (89 : Int32) * nI (c - 1) = nI (89 * (c - 1)) := pk_mul 89 (c - 1)
        refine w_84_26 ⟨fun q => absurd q (nI_ge (a := k) (b := 89) (by omega) (by decide)), fun _ => ?_⟩
        rw [p3, ep, nI_add, nI_clamp (by omega), nI_clamp (by omega), nI_1]
        refine ⟨vp_in_nI (by omega) (by decide), vp_in_nI (by omega) (by decide), ih (k + 1) (by omega) _ (fun q hq => (kp_sg hq).trans (a q hq)) (fun j hj => ?_)⟩
        by_cases e : j = k
        · subst e
          rw [sg_same, a 100 (by decide), kp_sg (by decide), kp_sg (by decide), k1 100 (by omega) (by decide)]
        · rw [sg_ne _ _ _ e]; exact b' j (by omega)
    have p5 : (sg σ1 90 0 0) 97 3 = nI c := by rw [kp_sg (by decide), k1 97 (by omega) (by decide)]; exact c5
    refine w_84_0 ⟨fun _ => ?_, fun z => ?_⟩
    · have := loop 89 0 (by omega) (sg (sg σ1 90 0 0) 97 3 (nI (c - 1))) (fun _ _ => rfl) (fun j hj => by omega)
      rw [p5, e1]
      rw [nI_0] at this
      exact this
    · rw [p5] at z
      have := (z0 c c1).mp z
      omega
  · have e0 : c = 0 := (z0 c c1).mp (c3.symm.trans q)
    have p0 : (sg σ 0 8 (σ 0 8 + 1)) 97 3 = 0 := by rw [kp_sg (by decide), c5, e0]; exact nI_0
    exact w_84_0 ⟨fun z => absurd p0 z, fun _ => sm_no ⟨rfl, h.cnt (j := 1) (x := 0) (by omega)⟩⟩
end OPS3
