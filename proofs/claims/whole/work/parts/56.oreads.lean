/-! reads, in both -/
def KP (γ γ' : yS) : Prop := ∀ q, q < 13 ∨ 26 < q → γ' q = γ q
section KPS
variable {γ γ' : yS} {c lv e nb kd : Int32}
theorem KP.rf : KP γ γ := fun _ _ => rfl
theorem KP.sg {a j : Nat} {v : Int32} (h : KP γ γ') (h1 : 13 ≤ a) (h2 : a ≤ 26) : KP γ (sg γ' a j v) := fun q hq => (kp_sg (by omega)).trans (h q hq)
theorem kp_nw (h : KP γ γ') : KP γ (nwC kd nb γ') := by
  unfold nwC
  split
  · exact ((h.sg (by omega) (by omega)).sg (by omega) (by omega)).sg (by omega) (by omega)
  · exact h
theorem kp_pl (h : KP γ γ') : KP γ (plC e lv γ').2 := by
  unfold plC
  split
  · exact (((h.sg (by omega) (by omega)).sg (by omega) (by omega)).sg (by omega) (by omega)).sg (by omega) (by omega)
  · exact h
theorem kp_pop (h : KP γ γ') : KP γ (popC γ') := by
  unfold popC
  split
  · exact ((h.sg (by omega) (by omega)).sg (by omega) (by omega)).sg (by omega) (by omega)
  · exact h.sg (by omega) (by omega)
theorem kp_jn : ∀ (f : Nat) (γ' : yS), KP γ γ' → KP γ (jnC lv f γ') := by
  intro f
  induction f with
  | zero => intro γ' h; exact h.sg (by omega) (by omega)
  | succ f ih =>
    intro γ' h
    unfold jnC
    split
    · exact h.sg (by omega) (by omega)
    · exact ih _ (kp_pop h)
theorem kp_join (h : KP γ γ') : KP γ (joinC e lv γ') := kp_jn _ _ (h.sg (by omega) (by omega))
theorem kp_note {a : Nat} (h : KP γ γ') (h1 : 13 ≤ a) (h2 : a ≤ 26) : KP γ (noteC a nb γ') := by
  unfold noteC
  split
  · exact h.sg h1 h2
  · exact h
theorem kp_lef (h : KP γ γ') : KP γ (lefC kd nb γ').2 := by
  unfold lefC
  split
  · refine kp_join ?_
    split
    · exact ((kp_nw h).sg (by omega) (by omega)).sg (by omega) (by omega)
    · exact kp_note (kp_nw h) (by omega) (by omega)
  · exact h
theorem kp_unit (h : KP γ γ') : KP γ (unitC c γ').2 := by
  unfold unitC
  split
  · exact kp_lef h
  · split
    · exact kp_lef h
    · split
      · split
        · exact kp_pl (kp_nw h)
        · exact h
      · split
        · split
          · exact h
          · exact kp_pl (h.sg (by omega) (by omega))
        · exact h
theorem kp_figure (h : KP γ γ') : KP γ (figureC c γ').2 := by
  unfold figureC
  split
  · exact (h.sg (by omega) (by omega)).sg (by omega) (by omega)
  · exact h
theorem kp_more (h : KP γ γ') : KP γ (moreC c γ').2 := by
  unfold moreC
  split
  · exact h
  · split
    · exact (h.sg (by omega) (by omega)).sg (by omega) (by omega)
    · exact h
theorem kp_begins (h : KP γ γ') : KP γ (beginsC e γ').2 := by
  unfold beginsC
  split
  · exact ((((h.sg (by omega) (by omega)).sg (by omega) (by omega)).sg (by omega) (by omega)).sg (by omega) (by omega)).sg (by omega) (by omega)
  · exact h
theorem kp_closes (h : KP γ γ') : KP γ (closesC γ').2 := by
  unfold closesC
  split
  · exact h
  · exact kp_join (((kp_join h).sg (by omega) (by omega)).sg (by omega) (by omega))
theorem kp_rfst (h : KP γ γ') : KP γ (rfstC γ').2 := by
  unfold rfstC
  split
  · exact (((kp_nw h).sg (by omega) (by omega)).sg (by omega) (by omega)).sg (by omega) (by omega)
  · exact h
theorem kp_target (h : KP γ γ') : KP γ (targetC c γ').2 := by
  unfold targetC
  split
  · exact kp_pl (kp_note (h.sg (by omega) (by omega)) (by omega) (by omega))
  · exact h
theorem kp_bet (h : KP γ γ') : KP γ (betC c γ').2 := by
  unfold betC
  split
  · exact h
  · split
    · exact kp_pl ((kp_join (kp_nw h)).sg (by omega) (by omega))
    · exact h
theorem kp_ends (h : KP γ γ') : KP γ (endsC γ').2 := by
  unfold endsC
  split
  · exact h
  · split
    · exact ((((kp_join h).sg (by omega) (by omega)).sg (by omega) (by omega)).sg (by omega) (by omega)).sg (by omega) (by omega)
    · exact h
theorem kp_rest (h : KP γ γ') : KP γ (restC c γ').2 := by
  unfold restC
  split
  · exact kp_closes h
  · split
    · exact kp_target h
    · split
      · exact kp_ends h
      · split
        · exact kp_rfst h
        · split
          · exact kp_target h
          · exact kp_bet h
theorem kp_main (h : KP γ γ') : KP γ (mainC c γ').2 := by
  unfold mainC
  split
  · split
    · exact kp_begins h
    · split
      · exact kp_unit (kp_begins h)
      · exact kp_begins h
  · split
    · exact kp_unit h
    · split
      · exact kp_figure h
      · exact kp_rest h
theorem kp_takes (h : KP γ γ') : KP γ (takesC c γ').2 := by
  unfold takesC
  split
  · exact kp_more h
  · split
    · exact h.sg (by omega) (by omega)
    · exact kp_main (h.sg (by omega) (by omega))
theorem kp_rn {t : Nat → Int32} {len : Nat} : ∀ (m k : Nat) (γ' : yS), KP γ γ' → KP γ (rnC t len m k γ').2 := by
  intro m
  induction m with
  | zero => intro k γ' h; exact h
  | succ m ih =>
    intro k γ' h
    unfold rnC
    split
    · exact ih _ _ (kp_takes h)
    · exact kp_takes h
end KPS
section RDS
variable {d : Nat} {σ : yS} {K : Int32 → yS → Prop}
theorem sp_rn {t : Nat → Int32} {len : Nat} (hl : len ≤ 150) : ∀ (m k : Nat), k + m = len → ∀ γ : yS, (∀ j, j < len → γ 1 j = t j) → K (rnC t len m k γ).1 (rnC t len m k γ).2 → yR (d + 5) 26 35 [some (.ref 13), some (.ref 1), some (.int (nI len)), some (.int (nI k))] [] γ (qI K) := by
  intro m
  induction m with
  | zero =>
    intro k hk γ ht h
    have e : k = len := by omega
    subst e
    unfold rnC at h
    refine w_26_35 ⟨fun _ => ⟨fun q => ?_, fun q => ?_⟩, fun q => absurd (Int32.le_refl _) q⟩
    · rw [ifF q] at h; exact h
    · rw [ifT q] at h; exact h
  | succ m ih =>
    intro k hk γ ht h
    refine w_26_35 ⟨fun q => absurd q (nI_ge (by omega) (by omega)), fun _ => ⟨fun q => absurd q (nI_ge (a := k) (b := 150) (by omega) (by omega)), fun _ => ?_⟩⟩
    rw [nI_clamp (by omega), ht k (by omega), nI_1]
    refine ⟨vp_in_nI (by omega) (by decide), sp_takes ?_⟩
    have hkp : KP γ (takesC (t k) γ).2 := kp_takes KP.rf
    unfold rnC at h
    generalize takesC (t k) γ = r at h hkp ⊢
    obtain ⟨b, r⟩ := r
    cases b with
    | true =>
      rw [ifT rfl] at h
      exact br_t1 (ih (k + 1) (by omega) r (fun j hj => (congrFun (hkp 1 (by omega)) j).trans (ht j hj)) h)
    | false =>
      rw [ifF (by simp)] at h
      exact br_f1 h
end RDS
theorem PLn.cong {kd lf rt nb root ev nd nm tg f kd' lf' rt' nb' root' ev' nd' nm' tg' f' : Nat → Int32} {sz tp : Nat → Nat} {k : Nat} (h : PLn kd lf rt nb root ev nd nm tg f (sumN sz) sz tp k) (hk : k < 8)
    (s1 : ∀ j, j < 60 → kd' j = kd j ∧ lf' j = lf j ∧ rt' j = rt j ∧ nb' j = nb j) (s2 : root' k = root k ∧ ev' k = ev k ∧ nd' k = nd k ∧ nm' k = nm k ∧ tg' k = tg k) (hf : ∀ j, j < 85 → f' j = f j) : PLn kd' lf' rt' nb' root' ev' nd' nm' tg' f' (sumN sz) sz tp k := by
  obtain ⟨l1, l2, l3, l4, l5, l6, l7, l8, l9, l10, l11⟩ := h
  obtain ⟨a1, a2, a3, a4, a5⟩ := s2
  unfold PLn
  rw [a1, a2, a3, a4, a5, hf (1 + k) (by omega), hf (9 + k) (by omega), hf (17 + k) (by omega)]
  refine ⟨l1, l2, l3, l4, l5, l6, l7, l8, l9.cong (fun j g1 g2 => ?_), ?_, ?_⟩
  · obtain ⟨b1, b2, b3, b4⟩ := s1 (sumN sz k + j) (by omega)
    exact ⟨b1, b2, b3, b4, hf _ (by omega)⟩
  · rw [bitR_cong (sz k) 0 0 (fun j g1 g2 => hf (25 + sumN sz k + j) (by omega))]; exact l10
  · rw [bitR_cong (sz k) 0 0 (fun j g1 g2 => hf (25 + sumN sz k + j) (by omega))]; exact l11
section ORD
variable {d : Nat} {σ : yS}
theorem nI_neg {k : Nat} (h : k ≤ 150) : nI k ≠ -1 := fun e => by
  have := congrArg Int32.toInt e
  rw [nI_toInt (by omega)] at this
  have z : (-1 : Int32).toInt = -1 := by decide
  omega
theorem op_reads (h : Inv σ) : yR (d + 200) 54 0 [some (.ref 0), none] [] σ (qI (fun r σ1 => yR (d + 200) 114 0 [some (.ref 97), none] [] σ1 (qI (fun r' σ2 => r = r' ∧ Inv σ2)))) := by
  obtain ⟨h1, ⟨len, t1, t2, t3, t4⟩, ⟨n, cb, sz, tp, hP⟩, ⟨c, o, c1, c2, c3, c4, c5, c6⟩, h5⟩ := id h
  have hv : ∀ j, j < len → ¬ σ 1 j = -1999999 := fun j hj e => by
    have := (t4 j hj).2
    rw [e] at this
    exact this (Or.inl (by decide))
  -- the reader's start
  have g0 : ∃ γ0 : yS, γ0 = sg (sg (sg (sg (sg (sg σ 14 10 0) 13 3 0) 13 4 0) 13 5 0) 13 6 0) 13 10 0 := ⟨_, rfl⟩
  obtain ⟨γ0, hγ0⟩ := g0
  have kp0 : KP σ γ0 := by
    rw [hγ0]
    exact (((((KP.rf.sg (by omega) (by omega)).sg (by omega) (by omega)).sg (by omega) (by omega)).sg (by omega) (by omega)).sg (by omega) (by omega)).sg (by omega) (by omega)
  have hres : ∃ res : Int32 × yS, res = rnC (σ 1) len len 0 γ0 := ⟨_, rfl⟩
  obtain ⟨res, hres⟩ := hres
  have kpr : KP σ res.2 := by rw [hres]; exact kp_rn len 0 γ0 kp0
  -- the reference, from any state with the same text
  have ref : ∀ (K : Int32 → yS → Prop) (σ1 : yS), σ1 97 6 = nI len → (∀ j, j < len → σ1 102 j = σ 1 j) →
      (∀ τ' cb' ln', res.1 = -1 → RLn cb' ln' res.2 τ' → FR σ1 τ' → yR (d + 199) 82 0 [some (.ref 97), none] [] τ' (qV (fun σ3 => yR (d + 200) 114 71 [some (.ref 97), some (.int 0)] [] σ3 (qI K)))) →
      (∀ τ' kf, kf ≤ len → res.1 = nI kf → FR σ1 τ' → K ((-10) - nI kf) τ') → yR (d + 200) 114 0 [some (.ref 97), none] [] σ1 (qI K) := by
    intro K σ1 e6 e102 kO kF
    have hF : FR σ1 (sg (sg (sg (sg σ1 97 7 0) 97 8 (-1999999)) 97 11 0) 103 0 0) := (((FR.rf.s97 (by omega) (by omega)).s97 (by omega) (by omega)).s97 (by omega) (by omega)).sc (by omega) (by omega)
    have hT : TX (σ 1) len σ1 := ⟨e6, e102⟩
    have hR : RLn 0 0 γ0 (sg (sg (sg (sg σ1 97 7 0) 97 8 (-1999999)) 97 11 0) 103 0 0) := by
      rw [hγ0]
      exact ⟨rfl, rfl, rfl, rfl, rfl, by omega, by omega, rfl, rfl, sg_same _ _ _ _, fun _ => 0, fun _ => 0, rfl, fun k hk => by omega⟩
    have hC : CK (σ 1) len res 0 γ0 := ⟨Nat.zero_le _, by rw [Nat.sub_zero]; exact hres.symm⟩
    refine w_114_0 ⟨vp_in_nI (n := 0) (by omega) (by decide), sm_rds t1 hv len 0 (by omega) 0 0 γ0 _ hR (hT.fr hF) hC rfl (Or.inl ?_) (fun τ' cb' ln' b1 b2 b3 => kO τ' cb' ln' b1 b2 (hF.tr b3)) (fun τ' kf b0 b1 b2 => kF τ' kf b0 b1 (hF.tr b2))⟩
    rw [hγ0]
    exact Int32.le_refl _
  refine w_54_0 ?_
  rw [t2]
  refine w_26_0 ?_
  rw [← hγ0]
  have start := sp_rn (d := d + 194) (t := σ 1) (len := len) (K := fun x1 σ1 => (((x1 = (-1)) → yR (d + 199) 72 0 [some (.ref 0)] [] σ1 (qV (fun σ2 => yR (d + 199) 49 0 [some (.ref 2), some (.ref 14)] [] σ2 (qV (fun σ3 => yR (d + 200) 114 0 [some (.ref 97), none] [] σ3 (qI (fun r' σ2 => σ3 2 10 = r' ∧ Inv σ2))))))) ∧ (¬ (x1 = (-1)) → yR (d + 200) 114 0 [some (.ref 97), none] [] σ1 (qI (fun r' σ2 => (-10) - x1 = r' ∧ Inv σ2))))) t1 len 0 (by omega) γ0 (fun j hj => by rw [kp0 1 (by omega)])
  rw [nI_0] at start
  refine start ?_
  rw [← hres]
  clear start
  refine ⟨fun eok => ?_, fun nok => ?_⟩
  · -- a program
    refine sp_leaveState c1 c2 (by rw [kpr 27 (by omega)]; exact c3) (by rw [kpr 27 (by omega)]; exact c4) (sp_tkp ?_)
    have hb : ∃ β : yS, β = tkP 2 14 (sg (lvC c o res.2) 90 0 0) := ⟨_, rfl⟩
    obtain ⟨β, hβ⟩ := hb
    rw [← hβ]
    have kx : ∀ q, q < 27 ∨ q = 28 ∨ (83 < q ∧ q ≠ 90) → (sg (lvC c o res.2) 90 0 0) q = res.2 q := fun q hq => by
      rw [kp_sg (by omega)]; exact lv_kp (by omega)
    have kb : ∀ q, q < 2 ∨ 11 < q → β q = (sg (lvC c o res.2) 90 0 0) q := fun q hq => by
      rw [hβ]; exact tkP_kp (by omega)
    have kb2 : ∀ q, q < 2 ∨ q = 12 ∨ q = 28 ∨ (83 < q ∧ q ≠ 90) → β q = σ q := fun q hq => by
      rw [kb q (by omega), kx q (by omega), kpr q (by omega)]
    refine ref _ β (by rw [kb2 97 (by omega)]; exact t3) (fun j hj => by rw [kb2 102 (by omega)]; exact (t4 j hj).1.symm) (fun τ' cb' ln' _ hR hF => ?_) (fun τ' kf b0 b1 _ => absurd (b1.symm.trans eok) (nI_neg (by omega)))
    obtain ⟨r1, r2, r3, r4, r5, r6, r7, r8, r9, r10, sz', tp', r11, r12⟩ := hR
    have b14 : β 2 10 = nI ln' := by
      rw [hβ, tkP_10, kx 14 (by omega)]; exact r5
    refine sm_hold (fun ρ a b => ?_)
    -- the copying
    have loop : ∀ m k : Nat, k + m = 85 → ∀ ρ' : yS, (∀ q, q ≠ 98 → ρ' q = ρ q) → (∀ j, j < k → ρ' 98 j = ρ 103 j) → (∀ j, 85 ≤ j → ρ' 98 j = ρ 98 j) → yR (d + 200) 114 71 [some (.ref 97), some (.int (nI k))] [] ρ' (qI (fun r' σ2 => β 2 10 = r' ∧ Inv σ2)) := by
      intro m
      induction m with
      | succ m ih =>
        intro k hk ρ' e1 e2 e3
        refine w_114_71 ⟨fun q => absurd q (nI_ge (a := k) (b := 85) (by omega) (by decide)), fun _ => ⟨vp_in_nI (by omega) (by decide), ?_⟩⟩
        rw [nI_clamp (by omega), nI_1, e1 103 (by decide)]
        refine ih (k + 1) (by omega) _ (fun q hq => (kp_sg hq).trans (e1 q hq)) (fun j hj => ?_) (fun j hj => by rw [sg_ne _ _ _ (by omega)]; exact e3 j hj)
        by_cases e : j = k
        · subst e; exact sg_same _ _ _ _
        · rw [sg_ne _ _ _ e]; exact e2 j (by omega)
      | zero =>
        intro k hk ρ' e1 e2 e3
        have e85 : k = 85 := by omega
        subst e85
        have h97 : ∀ j, j < 7 → ρ' 97 j = σ 97 j := fun j hj => by
          rw [e1 97 (by decide), a 97 (by decide), hF.2 j (by omega), kb2 97 (by omega)]
        refine w_114_71 ⟨fun _ => sm_push (c := c) c1 (by rw [h97 3 (by omega)]; exact c5) (fun ρ'' a' b' p3 p4 p5 => ?_), fun q => absurd (by decide) q⟩
        -- what is where
        have f1 : ∀ q, q ≠ 97 → q ≠ 98 → q ≠ 99 → q ≠ 100 → (q < 103 ∨ 107 < q) → ρ'' q = β q := fun q x1 x2 x3 x4 x5 => by
          rw [a' q x4 x1, e1 q x2, a q x3, hF.1 q x5 x1]
        have g1 : ∀ q, q < 2 ∨ q = 12 ∨ q = 101 ∨ q = 102 → ρ'' q = σ q := fun q hq => by
          rw [f1 q (by omega) (by omega) (by omega) (by omega) (by omega), kb2 q (by omega)]
        have r98 : ∀ q, ρ q = τ' q ∨ q = 99 := fun q => by
          by_cases e : q = 99
          · exact Or.inr e
          · exact Or.inl (a q e)
        have f98a : ∀ j, j < 85 → ρ'' 98 j = τ' 103 j := fun j hj => by
          rw [a' 98 (by decide) (by decide), e2 j hj, a 103 (by decide)]
        have f98b : ∀ j, 85 ≤ j → ρ'' 98 j = σ 98 j := fun j hj => by
          rw [a' 98 (by decide) (by decide), e3 j hj, a 98 (by decide), hF.1 98 (by omega) (by decide), kb2 98 (by omega)]
        have hk98 : ρ'' 98 0 = nI ln' := (f98a 0 (by omega)).trans r10
        refine ⟨vp_in_nI (n := 0) (by omega) (by decide), by rw [b14, hk98], ?_⟩
        refine ⟨h1.fr (fun k _ => by rw [g1 0 (by omega)]) (g1 101 (by omega)), ⟨len, t1, by rw [g1 0 (by omega)]; exact t2, ?_, fun j hj => by rw [g1 1 (by omega), g1 102 (by omega)]; exact t4 j hj⟩, ⟨ln', sumN sz', sz', tp', r6, ?_, hk98, by rw [← r11]; exact r7, fun k hk => ?_, fun x hx => ?_⟩, ?_, Or.inl ?_⟩
        · rw [b' 6 (by decide), h97 6 (by omega)]; exact t3
        · rw [f1 2 (by decide) (by decide) (by decide) (by decide) (by omega)]; exact b14
        · have cp : ∀ q j, (1 ≤ q ∧ q ≤ 4 ∧ j < 60) ∨ (5 ≤ q ∧ q ≤ 9 ∧ j < 8) → ρ'' (2 + q) j = res.2 (14 + q) j := fun q j hq => by
            rw [f1 (2 + q) (by omega) (by omega) (by omega) (by omega) (by omega), hβ, tkP_at hq, kx (14 + q) (by omega)]
          exact (r12 k hk).cong (by omega) (fun j hj => ⟨cp 1 j (by omega), cp 2 j (by omega), cp 3 j (by omega), cp 4 j (by omega)⟩) ⟨cp 5 k (by omega), cp 6 k (by omega), cp 7 k (by omega), cp 8 k (by omega), cp 9 k (by omega)⟩ f98a
        · have hvx := hP.2.2.2.2.2 x hx
          show ρ'' 12 x = ρ'' 98 (85 + x) ∧ Num (ρ'' 12 x)
          rw [g1 12 (by omega), f98b (85 + x) (by omega)]
          exact hvx
        · have hP' : PRc res.2 2 (res.2 98) n cb sz tp := hP.fr (fun q x1 x2 => kpr q (by omega)) (kpr 98 (by omega))
          refine hist_step (σ := res.2) c1 c2 (by rw [kpr 27 (by omega)]; exact c3) (by rw [kpr 27 (by omega)]; exact c4) hP' (fun i hi => ?_) (fun q hq => ?_) p3 (fun i j hi hj => ?_) (fun j hj => ?_)
          · obtain ⟨n', cb'', sz'', tp'', hp⟩ := c6 i hi
            have hmi : (o + i) % 5 < 5 := Nat.mod_lt _ (by omega)
            exact ⟨n', cb'', sz'', tp'', hp.fr (fun q x1 x2 => kpr q (by omega)) (by rw [kpr 100 (by omega)])⟩
          · rw [f1 q (by omega) (by omega) (by omega) (by omega) (by omega), kb q (by omega), kp_sg (by omega)]
          · rw [p4 i j hi hj, e1 100 (by decide), a 100 (by decide), hF.1 100 (by omega) (by decide), kb2 100 (by omega), kpr 100 (by omega)]
          · rw [p5 j hj, e1 99 (by decide), b j hj, hF.1 98 (by omega) (by decide), kb2 98 (by omega), kpr 98 (by omega)]
        · rw [f1 90 (by decide) (by decide) (by decide) (by decide) (by omega), kb 90 (by omega)]
          exact sg_same _ _ _ _
    have := loop 85 0 (by omega) ρ (fun _ _ => rfl) (fun j hj => by omega) (fun _ _ => rfl)
    rw [nI_0] at this
    exact this
  · -- a fault
    refine ref _ res.2 (by rw [kpr 97 (by omega)]; exact t3) (fun j hj => by rw [kpr 102 (by omega)]; exact (t4 j hj).1.symm) (fun τ' cb' ln' b1 _ _ => absurd b1 nok) (fun τ' kf b0 b1 hF => ⟨by rw [b1], h.fr (fun q hq => ?_) (fun k hk => ?_)⟩)
    · rw [hF.1 q (by omega) (by omega), kpr q (by omega)]
    · rw [hF.2 k (by omega), kpr 97 (by omega)]
end ORD
