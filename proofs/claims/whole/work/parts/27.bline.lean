def sumN (sz : Nat → Nat) : Nat → Nat
  | 0 => 0
  | k + 1 => sumN sz k + sz k
section BL
variable {d : Nat} {τ : yS} {K : Int32 → yS → Prop} {KV : yS → Prop}
theorem sm_begin {sz : Nat → Nat} {k : Nat} (hk : k ≤ 8) (hs : ∀ j, j < k → τ 98 (9 + j) = nI (sz j)) (h : K (nI (25 + sumN sz k)) τ) : yR d 91 0 [some (.ref 97), some (.int (nI k)), none, none] [] τ (qI K) := by
  have loop : ∀ m j : Nat, j + m = k → yR d 91 5 [some (.ref 97), some (.int (nI k)), some (.int (nI (25 + sumN sz j))), some (.int (nI j))] [] τ (qI K) := by
    intro m
    induction m with
    | zero =>
      intro j hj
      have e : j = k := by omega
      subst e
      exact w_91_5 ⟨fun _ => h, fun q => absurd (Int32.le_refl _) q⟩
    | succ m ih =>
      intro j hj
      have e9 : (9 : Int32) + nI j = nI (9 + j) := nI_add 9 j
      refine w_91_5 ⟨fun q => absurd q (nI_ge (by omega) (by omega)), fun _ => ⟨by rw [e9]; exact vp_in_nI (by omega) (by decide), ?_⟩⟩
      have es : 25 + sumN sz j + sz j = 25 + sumN sz (j + 1) := by rw [sumN]; omega
      rw [e9, nI_clamp (by omega), hs j (by omega), nI_add, nI_1, es]
      exact ih (j + 1) (by omega)
  have := loop k 0 (by omega)
  rw [nI_0] at this
  exact w_91_0 this
/-- what beginLine makes -/
def blM (mb n tp : Nat) (w : Nat → Int32) (τ : yS) : yS := sg (sg (akR w n 0 (sg (sg (sg τ 97 24 (nI mb)) 97 25 0) 97 26 0)) 108 tp (-1999999)) 109 tp 0
theorem sm_bl {sz : Nat → Nat} {k mb n tp : Nat} {w : Nat → Int32} (hk : k < 8) (hs : ∀ j, j < k → τ 98 (9 + j) = nI (sz j)) (hmb : mb = 25 + sumN sz k) (hn : τ 98 (9 + k) = nI n) (htp : τ 98 (17 + k) = nI tp) (h60 : tp < 60) (hn60 : n ≤ 60) (hb : mb + n ≤ 85) (hw : ∀ j, τ 98 (mb + j) = w j) (hnd : ∀ j, j < n → ndOk w 0 (n - 1) tp j)
    (h : KV (blM mb n tp w τ)) : yR (d + 2) 131 0 [some (.ref 97), some (.int (nI k)), none, none] [] τ (qV KV) := by
  have e9 : (9 : Int32) + nI k = nI (9 + k) := nI_add 9 k
  have e17 : (17 : Int32) + nI k = nI (17 + k) := nI_add 17 k
  have loop : ∀ m j : Nat, j + m = n → ∀ ρ : yS, ρ 98 = τ 98 → ρ 97 24 = nI mb → KV (sg (sg (akR w m j ρ) 108 tp (-1999999)) 109 tp 0) → yR (d + 2) 131 21 [some (.ref 97), some (.int (nI k)), some (.int (nI j)), none] [] ρ (qV KV) := by
    intro m
    induction m with
    | zero =>
      intro j hj ρ h8 h4 hK
      have e : j = n := by omega
      subst e
      refine w_131_21 ?_
      rw [e9, e17, nI_clamp (by omega), nI_clamp (by omega), h8, hn, htp, nI_clamp (by omega)]
      exact ⟨vp_in_nI (by omega) (by decide), fun _ => ⟨vp_in_nI (by omega) (by decide), vp_in_nI h60 (by decide), hK⟩, fun q => absurd (Int32.le_refl _) q⟩
    | succ m ih =>
      intro j hj ρ h8 h4 hK
      have wj : ρ 98 (mb + j) = w j := by rw [h8]; exact hw j
      have go : ∀ ρ' : yS, ρ' = akS (w j) j ρ → yR (d + 2) 131 21 [some (.ref 97), some (.int (nI k)), some (.int (nI j + 1)), none] [] ρ' (qV KV) := by
        intro ρ' e
        subst e
        rw [nI_1]
        exact ih (j + 1) (by omega) _ ((akS_kp (by decide)).trans h8) (by rw [akS_kp (by decide)]; exact h4) hK
      refine w_131_21 ?_
      rw [e9, nI_clamp (by omega), h8, hn]
      refine ⟨vp_in_nI (by omega) (by decide), fun q => absurd q (nI_ge (by omega) (by omega)), fun _ => sm_node h4 (by omega) ?_⟩
      rw [wj]
      refine w_85_0 ?_
      rcases hnd j (by omega) with s | ⟨s1, s2, s3, l, r, g1, g2, g3, g4, g5, g6, g7, g8⟩ | ⟨s1, s2, c, g1, g2, g3, g4⟩
      · exact ⟨fun _ => go _ (by unfold akS; rw [if_pos s]), fun q => absurd s q⟩
      · refine ⟨fun q => absurd q s1, fun _ => w_87_0 ⟨?_, w_85_0 (w_90_0 (sm_in (fun _ _ => ⟨yB1, br_t2 (w_88_0 ⟨?_, go _ ?_⟩)⟩) (fun q => ?_)))⟩⟩
        · show vp_in (fst1 (w j)) 60
          rw [g1]; exact vp_in_nI (by omega) (by decide)
        · show vp_in (snd1 (w j)) 60
          rw [g2]; exact vp_in_nI (by omega) (by decide)
        · unfold akS; rw [if_neg s1, if_pos s2]; rfl
        · rcases q with q | q
          · exact absurd s3 (Int32.not_le.mpr q)
          · exact absurd s2 (Int32.not_le.mpr q)
      · refine ⟨fun q => absurd q s1, fun _ => w_87_0 ⟨?_, w_85_0 (w_90_0 (sm_in (fun q1 q2 => absurd q2 s2) (fun q => ⟨yB0, br_f2 (go _ ?_)⟩)))⟩⟩
        · show vp_in (fst1 (w j)) 60
          rw [g1]; exact vp_in_nI (by omega) (by decide)
        · unfold akS; rw [if_neg s1, if_neg s2]; rfl
  refine w_131_0 (sm_begin (by omega) hs ?_)
  rw [← hmb]
  have := loop n 0 (by omega) (sg (sg (sg τ 97 24 (nI mb)) 97 25 0) 97 26 0) rfl rfl h
  rw [nI_0] at this
  exact this
end BL
