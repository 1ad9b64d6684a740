/-! alone -/
section ALONE
variable {d : Nat} {σ τ : yS} {K : Int32 → yS → Prop} {KV : yS → Prop}
/-- the j-th result from here, of at most m -/
def aC (root : Int32) : Nat → Nat → yS → Int32 × yS
  | 0, _, γ => (-1999999, γ)
  | m + 1, 0, γ => if (askC 61 root γ).1 = true then ((askC 61 root γ).2 84 6, (askC 61 root γ).2) else (-1999999, (askC 61 root γ).2)
  | m + 1, j + 1, γ => if (askC 61 root γ).1 = true then aC root m j (askC 61 root γ).2 else (-1999999, (askC 61 root γ).2)
theorem aC_kp {root : Int32} {c : Nat} (h : c < 84 ∨ 89 < c) : ∀ (m j : Nat) (γ : yS), (aC root m j γ).2 c = γ c := by
  intro m
  induction m with
  | zero => intro j γ; rfl
  | succ m ih =>
    intro j γ
    cases j with
    | zero => unfold aC; split <;> exact ask_kp (by omega) _ _ _
    | succ j =>
      unfold aC; split
      · exact (ih j _).trans (ask_kp (by omega) _ _ _)
      · exact ask_kp (by omega) _ _ _
theorem sp_alone {k n' : Nat} {cb sz tp : Nat → Nat} {f : Nat → Int32} (hk : k < n') (i : Nat) (hi : i < 2147483648) : ∀ (m n : Nat), n + m = 30 → n ≤ i → ∀ γ : yS, PRc γ 2 f n' cb sz tp → K (aC (nI (cb k + tp k)) m (i - n) γ).1 (aC (nI (cb k + tp k)) m (i - n) γ).2 → yR (d + 199 + 1) 62 42 [some (.ref 0), some (.int (nI k)), some (.int (nI i)), some (.int (nI n))] [] γ (qI K) := by
  intro m
  induction m with
  | zero =>
    intro n hn hni γ hP hK
    have e : n = 30 := by omega
    subst e
    exact w_62_42 ⟨fun _ => hK, fun q => absurd (by decide) q⟩
  | succ m ih =>
    intro n hn hni γ hP hK
    have hn8 := hP.1
    have hroot : γ 7 k = nI (cb k + tp k) := (hP.2.2.2.2.1 k hk).2.2.2.2.1
    refine w_62_42 ⟨fun q => absurd q (nI_ge (a := n) (b := 30) (by omega) (by omega)), fun _ => ⟨fun q => ?_, fun _ => ⟨vp_in_nI (by omega) (by decide), ?_⟩⟩⟩
    · exact absurd ((nI_ltI (by omega) (by omega)).mp q) (by omega)
    · rw [nI_clamp (by omega), hroot]
      refine ask61 ?_
      by_cases e : n = i
      · subst e
        rw [Nat.sub_self] at hK
        unfold aC at hK
        by_cases b : (askC 61 (nI (cb k + tp k)) γ).1 = true
        · rw [if_pos b] at hK
          rw [b]
          exact br_t1 ⟨fun q => absurd rfl q, fun _ => hK⟩
        · rw [if_neg b] at hK
          have b' : (askC 61 (nI (cb k + tp k)) γ).1 = false := by revert b; cases (askC 61 (nI (cb k + tp k)) γ).1 <;> simp
          rw [b']
          exact br_f1 hK
      · obtain ⟨j, hj⟩ : ∃ j, i - n = j + 1 := ⟨i - n - 1, by omega⟩
        rw [hj] at hK
        unfold aC at hK
        by_cases b : (askC 61 (nI (cb k + tp k)) γ).1 = true
        · rw [if_pos b] at hK
          rw [b]
          refine br_t1 ⟨fun _ => ?_, fun q => absurd ((nI_eq (by omega) (by omega)).mp q) e⟩
          rw [nI_1]
          refine ih (n + 1) (by omega) (by omega) _ (hP.fr (fun c x1 x2 => ask_kp (by omega) _ _ _) rfl) ?_
          have : i - (n + 1) = j := by omega
          rw [this]; exact hK
        · rw [if_neg b] at hK
          have b' : (askC 61 (nI (cb k + tp k)) γ).1 = false := by revert b; cases (askC 61 (nI (cb k + tp k)) γ).1 <;> simp
          rw [b']
          exact br_f1 hK
def aT (root : Int32) (γ0 : yS) (n : Nat) (γ τ : yS) : Prop := τ 97 33 = nI n ∧ (∀ j, j < n → (aC root 30 j γ0).1 = τ 114 j) ∧ ∀ j, n ≤ j → (aC root 30 j γ0).1 = (aC root (30 - n) (j - n) γ).1
def aE (root : Int32) (γ0 : yS) (n : Nat) (γ τ : yS) : Prop := n ≤ 30 ∧ τ 97 33 = nI n ∧ (∀ j, j < n → (aC root 30 j γ0).1 = τ 114 j) ∧ ∀ j, n ≤ j → (aC root 30 j γ0).1 = -1999999
theorem aC_f {root : Int32} {m j : Nat} {γ : yS} (h : (askC 61 root γ).1 = false) : (aC root m j γ).1 = -1999999 := by
  cases m with
  | zero => rfl
  | succ m => cases j <;> (unfold aC; rw [if_neg (by rw [h]; decide)])
theorem op_alone {k i : Int32} (h : Inv σ) : yR (d + 200) 62 0 [some (.ref 0), some (.int k), some (.int i), none] [] σ (qI (fun r σ1 => yR (d + 200) 142 0 [some (.ref 97), some (.int k), some (.int i)] [] σ1 (qI (fun r' σ2 => r = r' ∧ Inv σ2)))) := by
  obtain ⟨h1, h2, ⟨n, cb, sz, tp, hP⟩, ⟨c, o, c1, c2, c3, c4, c5, c6⟩, h5⟩ := id h
  have hn := hP.1
  refine w_62_0 (sp_isLine hn hP.2.1 (fun j hj e => br_t2 ?_) (fun q => br_f2 (sp_bad (w_142_0 (sm_isLine hn hP.2.2.1 (fun j hj e => absurd e (q j hj)) (fun _ => br_f2 (bad2 h)))))))
  subst e
  refine ⟨fun q => ?_, fun q => sp_bad (w_142_0 (sm_isLine hn hP.2.2.1 (fun _ _ _ => br_t2 ⟨fun z => absurd z q, fun _ => bad2 h⟩) (fun z => absurd rfl (z j hj))))⟩
  obtain ⟨i', hi, rfl⟩ : ∃ i' : Nat, i' < 2147483648 ∧ i = nI i' := by
    refine ⟨i.toInt.toNat, ?_, ?_⟩
    · have := Int32.toInt_lt i
      omega
    · have h0 : 0 ≤ i.toInt := by rw [Int32.le_iff_toInt_le] at q; exact q
      apply Int32.toInt_inj.mp
      rw [nI_toInt (by have := Int32.toInt_lt i; omega)]
      omega
  have hroot : (brunC σ) 7 j = nI (cb j + tp j) := by rw [brun_kp (by omega)]; exact (hP.2.2.2.2.1 j hj).2.2.2.2.1
  refine sp_beginRun ⟨vp_in_nI (by omega) (by decide), ?_⟩
  rw [nI_clamp (by omega), hroot]
  refine sp_beginLine ?_
  generalize hγ : beginC (nI (cb j + tp j)) (brunC σ) = γ0
  have kp0 : ∀ c, c < 84 ∨ 89 < c → γ0 c = σ c := fun c hc => by
    rw [← hγ]; unfold beginC
    rw [kp_renew (by omega), kp_sg (by omega), kp_sg (by omega), brun_kp (by omega)]
  have hgo := sp_alone (d := d) (K := fun r σ1 => yR (d + 200) 142 0 [some (.ref 97), some (.int (nI j)), some (.int (nI i'))] [] σ1 (qI (fun r' σ2 => r = r' ∧ Inv σ2))) hj i' hi 30 0 (by omega) (by omega) γ0 (hP.fr (fun c x1 x2 => kp0 c (by omega)) rfl) ?_
  · rw [nI_0] at hgo; exact hgo
  rw [Nat.sub_zero]
  have kp1 : ∀ c, c < 84 ∨ 89 < c → (aC (nI (cb j + tp j)) 30 i' γ0).2 c = σ c := fun c hc => (aC_kp hc _ _ _).trans (kp0 c hc)
  generalize hr : aC (nI (cb j + tp j)) 30 i' γ0 = r at kp1 ⊢
  have hI : Inv r.2 := h.fr (fun c hc => kp1 c (by omega)) (fun k _ => by rw [kp1 97 (by omega)])
  have hP1 : PRc σ 2 (r.2 98) n cb sz tp := hP.fr (fun _ _ _ => rfl) (kp1 98 (by omega))
  refine w_142_0 (sm_isLine hn hP1.2.2.1 (fun _ _ _ => br_t2 ⟨fun _ => sm_take ?_, fun z => absurd q z⟩) (fun z => absurd rfl (z j hj)))
  have e98 : (tvM r.2) 98 = r.2 98 := tv_kp (by decide) (by decide)
  refine sm_goLine (d := d + 193) (γ := brunC σ) (n := n) (cb := cb) (sz := sz) (tp := tp) (U := fun _ γ => γ) (T := aT (nI (cb j + tp j)) γ0) (E := aE (nI (cb j + tp j)) γ0) (most := 30) (hP1.fr (fun c x1 x2 => brun_kp (by omega)) e98) hj (take_VR hP1 rfl) (Or.inr ⟨rfl, rfl⟩) (fun _ _ _ _ => rfl) ?_ ?_ ?_ ?_ ?_ ?_
  · rintro m γ τ r τ' hm ⟨t1, t2, t3⟩ hr hf - a1 a2 a3
    subst hr
    refine ⟨by omega, a2.trans t1, fun x hx => by rw [a1]; exact t2 x hx, fun x hx => (t3 x hx).trans (aC_f hf)⟩
  · rintro γ τ ⟨t1, t2, t3⟩
    exact ⟨Nat.le_refl _, t1, t2, fun x hx => t3 x hx⟩
  · rintro m γ τ hm ⟨t1, t2, t3⟩
    exact ⟨m, t1, by omega⟩
  · rintro m γ τ r τ1 hm ⟨t1, t2, t3⟩ hr hf a1 a2 a3 a4 a5
    subst hr
    have es : stM τ1 = sg (sg τ1 114 m (τ1 97 30)) 97 33 (nI (m + 1)) := by
      unfold stM
      rw [a2, t1, nI_clamp (by omega), nI_1]
    have e30 : 30 - m = (29 - m) + 1 := by omega
    rw [es]
    refine ⟨sg_same _ _ _ _, fun x hx => ?_, fun x hx => ?_⟩
    · rw [kp_sg (by decide)]
      by_cases e : x = m
      · subst e
        rw [sg_same, a4, t3 x (Nat.le_refl _), Nat.sub_self, e30]
        unfold aC
        rw [if_pos hf]
      · rw [sg_ne _ _ _ e, a1]; exact t2 x (by omega)
    · rw [t3 x (by omega), e30, show x - m = (x - (m + 1)) + 1 by omega, show 30 - (m + 1) = 29 - m by omega]
      conv => lhs; unfold aC
      rw [if_pos hf]
  · refine ⟨?_, fun x hx => by omega, fun x hx => ?_⟩
    · rw [bl_33]
      show (tvM r.2) 97 33 = nI 0
      unfold tvM
      rw [kp_sg (by decide), kp_sg (by decide), kp_sg (by decide), kp_sg (by decide), sg_same]; exact nI_0.symm
    · rw [hγ]; rfl
  · intro τ' hE hT hF
    rw [hγ] at hT ⊢
    generalize glC (fun _ γ => γ) (nI (cb j + tp j)) 30 0 γ0 = g at hT ⊢
    obtain ⟨t0, t1, t2, t3⟩ := hT
    have hFY : FY r.2 (sg (sg (sg τ' 115 j (nI g.1)) 116 j (τ' 97 25)) 117 j (τ' 97 26)) := tv_FY.tr (((hF.fy.sg (by omega) (by omega)).sg (by omega) (by omega)).sg (by omega) (by omega))
    have hI2 : Inv (sg (sg (sg τ' 115 j (nI g.1)) 116 j (τ' 97 25)) 117 j (τ' 97 26)) := hI.fr (fun c hc => hFY.1 c (by omega)) (fun k hk => hFY.2 k (by omega))
    have e33 : (sg (sg (sg τ' 115 j (nI g.1)) 116 j (τ' 97 25)) 117 j (τ' 97 26)) 97 33 = nI g.1 := by
      rw [kp_sg (by decide), kp_sg (by decide), kp_sg (by decide)]; exact t1
    have e114 : (sg (sg (sg τ' 115 j (nI g.1)) 116 j (τ' 97 25)) 117 j (τ' 97 26)) 114 = τ' 114 := by
      rw [kp_sg (by decide), kp_sg (by decide), kp_sg (by decide)]
    rw [e33, e114]
    refine ⟨fun z => ⟨?_, hI2⟩, fun z => ?_⟩
    · have : ¬ i' < g.1 := fun w => nI_ge w (by omega) z
      rw [← hr]
      exact t3 i' (by omega)
    · have : i' < g.1 := (nI_ltI (by omega) (by omega)).mp (Int32.not_le.mp z)
      refine ⟨vp_in_nI (by omega) (by decide), ?_, hI2⟩
      rw [nI_clamp (by omega), ← hr]
      exact t2 i' this
end ALONE
