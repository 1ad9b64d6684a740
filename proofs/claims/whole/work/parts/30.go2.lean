/-- the n-th result of line k is told, in both -/
def lnT (k s0 : Nat) (γ0 τ0 : yS) (n : Nat) (γ τ : yS) : Prop :=
  γ 90 2 = nI (s0 + n) ∧ τ 97 33 = nI (s0 + n) ∧ (∀ j, j < s0 + n → γ 91 j = τ 114 j) ∧ γ 92 k = nI n ∧ (γ 95 k = if n = 0 then -1999999 else τ 114 (s0 + n - 1)) ∧ (∀ j, j ≠ k → γ 92 j = γ0 92 j ∧ γ 95 j = γ0 95 j) ∧ γ 93 = γ0 93 ∧ γ 94 = γ0 94 ∧ (∀ c, 114 < c → τ c = τ0 c) ∧ ∀ j, j < s0 → τ 114 j = τ0 114 j
theorem lnT_fr {k s0 n : Nat} {γ0 τ0 γ τ γ' τ' : yS} (h : lnT k s0 γ0 τ0 n γ τ) (h1 : ∀ c, 89 < c → γ' c = γ c) (h2 : τ' 114 = τ 114) (h3 : τ' 97 33 = τ 97 33) (h4 : ∀ c, 114 < c → τ' c = τ c) : lnT k s0 γ0 τ0 n γ' τ' := by
  obtain ⟨a1, a2, a3, a4, a5, a6, a7, a8, a9, a10⟩ := h
  refine ⟨?_, ?_, ?_, ?_, ?_, ?_, ?_, ?_, ?_, ?_⟩
  · rw [h1 90 (by omega)]; exact a1
  · rw [h3]; exact a2
  · intro j hj; rw [h1 91 (by omega), h2]; exact a3 j hj
  · rw [h1 92 (by omega)]; exact a4
  · rw [h1 95 (by omega), h2]; exact a5
  · intro j hj; rw [h1 92 (by omega), h1 95 (by omega)]; exact a6 j hj
  · rw [h1 93 (by omega)]; exact a7
  · rw [h1 94 (by omega)]; exact a8
  · intro c hc; rw [h4 c hc]; exact a9 c hc
  · intro j hj; rw [h2]; exact a10 j hj
theorem say_nI {s : Nat} {v : Int32} {σ : yS} (h : σ 90 2 = nI s) (hs : s < 240) : sayC v σ = sg (sg σ 91 s v) 90 2 (nI (s + 1)) := by
  unfold sayC
  rw [h, if_pos (inN_t.mpr (vp_in_nI hs (by decide))), nI_clamp (by omega), nI_1]
theorem lnT_st {k s0 n : Nat} {γ0 τ0 γ τ τ1 : yS} {r : Bool × yS} (hs : s0 + n < 240) (h : lnT k s0 γ0 τ0 n γ τ) (h2 : τ1 114 = τ 114) (h3 : τ1 97 33 = τ 97 33) (h4 : ∀ c, 114 < c → τ1 c = τ c) (h5 : τ1 97 30 = r.2 84 6) (h1 : ∀ c, 89 < c → r.2 c = γ c) : lnT k s0 γ0 τ0 (n + 1) (upC k n r.2) (stM τ1) := by
  obtain ⟨a1, a2, a3, a4, a5, a6, a7, a8, a9, a10⟩ := lnT_fr (γ' := r.2) (τ' := τ1) h h1 h2 h3 h4
  have e1 : upC k n r.2 = sg (sg (sg (sg r.2 91 (s0 + n) (r.2 84 6)) 90 2 (nI (s0 + n + 1))) 92 k (nI (n + 1))) 95 k (r.2 84 6) := by
    unfold upC
    rw [say_nI a1 hs, nI_1]
    rfl
  have e2 : stM τ1 = sg (sg τ1 114 (s0 + n) (r.2 84 6)) 97 33 (nI (s0 + n + 1)) := by
    unfold stM
    rw [a2, nI_clamp (by omega), nI_1, h5]
  rw [e1, e2]
  refine ⟨rfl, rfl, ?_, sg_same _ 92 k _, ?_, ?_, a7, a8, ?_, ?_⟩
  · intro j hj
    show sg r.2 91 (s0 + n) (r.2 84 6) 91 j = sg τ1 114 (s0 + n) (r.2 84 6) 114 j
    by_cases e : j = s0 + n
    · subst e; rw [sg_same, sg_same]
    · rw [sg_ne _ _ _ e, sg_ne _ _ _ e]; exact a3 j (by omega)
  · rw [sg_same, if_neg (by omega)]
    show r.2 84 6 = sg τ1 114 (s0 + n) (r.2 84 6) 114 (s0 + (n + 1) - 1)
    rw [show s0 + (n + 1) - 1 = s0 + n by omega, sg_same]
  · intro j hj
    refine ⟨?_, ?_⟩
    · exact (sg_ne (sg (sg r.2 91 (s0 + n) (r.2 84 6)) 90 2 (nI (s0 + n + 1))) 92 (nI (n + 1)) hj).trans (a6 j hj).1
    · exact (sg_ne _ 95 (r.2 84 6) hj).trans (a6 j hj).2
  · intro c hc
    rw [kp_sg (by omega), kp_sg (by omega)]; exact a9 c hc
  · intro j hj
    exact (sg_ne τ1 114 (r.2 84 6) (by omega)).trans (a10 j hj)
theorem fin_kp' {k : Nat} {σ : yS} (c : Nat) (h : c ≠ 93 ∧ c ≠ 94) : (finC k σ) c = σ c := by
  unfold finC
  exact (kp_sg (by omega)).trans (kp_sg (by omega))
section GO2
variable {d : Nat} {γ τ : yS} {KV : yS → Prop}
theorem up_lt (k : Nat) : ∀ (n : Nat) (γ : yS) (c : Nat), c < 90 → (upC k n γ) c = γ c := fun _ _ _ h => up_kp (by omega)
theorem sm_line {n k : Nat} {cb sz tp : Nat → Nat} (hP : PRc γ 2 (τ 98) n cb sz tp) (hk : k < n) (hV : VR γ τ) (hO : ORk k γ τ) (hK : ∀ τ', ORk (k + 1) (mlC k γ) τ' → VR (mlC k γ) τ' → FY τ τ' → KV τ') :
    yR (d + 6) 133 0 [some (.ref 97), some (.int (nI k)), some (.int (if γ 8 k = 1 then 1 else 0)), none, none] [] τ (qV KV) := by
  obtain ⟨cnt, c1, c2, c3, c4, c5⟩ := hO
  have hs0 : sumN cnt k ≤ 30 * k := sumN_30 c1
  have hn8 := hP.1
  have hroot : γ 7 k = nI (cb k + tp k) := (hP.2.2.2.2.1 k hk).2.2.2.2.1
  have hm : (((if γ 8 k = 1 then (1 : Int32) else 0) = 0 ∧ mostC γ k = 1) ∨ ((if γ 8 k = 1 then (1 : Int32) else 0) = 1 ∧ mostC γ k = 30)) := by
    unfold mostC
    by_cases e : γ 8 k = 1
    · right; rw [if_pos e, if_pos e]; exact ⟨rfl, rfl⟩
    · left; rw [if_neg e, if_neg e]; exact ⟨rfl, rfl⟩
  have hm30 : mostC γ k ≤ 30 := by rcases hm with h | h <;> omega
  -- the ghost as makeLine begins
  have hP1 : PRc (sg (sg γ 92 k 0) 95 k (-1999999)) 2 (τ 98) n cb sz tp := hP
  have e90 : ∀ c, 89 < c → (beginC (nI (cb k + tp k)) (sg (sg γ 92 k 0) 95 k (-1999999))) c = (sg (sg γ 92 k 0) 95 k (-1999999)) c := fun c hc => by
    unfold beginC
    rw [kp_renew (by omega), kp_sg (by omega), kp_sg (by omega)]
  have h0 : lnT k (sumN cnt k) γ τ 0 (beginC (nI (cb k + tp k)) (sg (sg γ 92 k 0) 95 k (-1999999))) (blM (25 + sumN sz k) (sz k) (tp k) (fun j => τ 98 (25 + sumN sz k + j)) τ) := by
    refine ⟨?_, ?_, ?_, ?_, ?_, ?_, ?_, ?_, ?_, ?_⟩
    · rw [e90 90 (by omega)]; exact c2
    · rw [bl_33]; exact c3
    · intro j hj; rw [e90 91 (by omega), bl_114 (by omega)]; exact c4 j hj
    · rw [e90 92 (by omega)]
      exact (sg_same γ 92 k 0).trans nI_0.symm
    · rw [e90 95 (by omega), if_pos rfl]
      exact sg_same _ 95 k _
    · intro j hj
      rw [e90 92 (by omega), e90 95 (by omega)]
      exact ⟨sg_ne γ 92 0 hj, sg_ne (sg γ 92 k 0) 95 (-1999999) hj⟩
    · rw [e90 93 (by omega)]; rfl
    · rw [e90 94 (by omega)]; rfl
    · intro c hc; exact bl_114 (by omega)
    · intro j hj; rw [bl_114 (by omega)]
  refine sm_goLine (U := upC k) (T := lnT k (sumN cnt k) γ τ) (E := lnT k (sumN cnt k) γ τ) (most := mostC γ k) hP1 hk hV hm (up_lt k) (fun n γ τ r τ' _ h _ _ a b c d => lnT_fr h a b c d) (fun _ _ h => h) (fun n γ' τ' hn h => ⟨sumN cnt k + n, h.2.1, by omega⟩) (fun n γ' τ' r τ1 hn h _ _ a b c d e => lnT_st (by omega) h a b c d e) h0 (fun τ' hE hT hF => ?_)
  have hle := gl_le (U := upC k) (root := nI (cb k + tp k)) (mostC γ k) 0 (beginC (nI (cb k + tp k)) (sg (sg γ 92 k 0) 95 k (-1999999)))
  have eml : mlC k γ = finC k (glC (upC k) (nI (cb k + tp k)) (mostC γ k) 0 (beginC (nI (cb k + tp k)) (sg (sg γ 92 k 0) 95 k (-1999999)))).2 := by
    unfold mlC
    rw [hroot, ln_gl]
  generalize hgl : glC (upC k) (nI (cb k + tp k)) (mostC γ k) 0 (beginC (nI (cb k + tp k)) (sg (sg γ 92 k 0) 95 k (-1999999))) = g at *
  obtain ⟨n', γ'⟩ := g
  simp only at hE hT hle eml ⊢
  obtain ⟨a1, a2, a3, a4, a5, a6, a7, a8, a9, a10⟩ := hT
  obtain ⟨E1, E2, ⟨q, E3⟩, E4⟩ := hE
  rw [eml] at hK
  have hfc : (if γ' 84 8 = 0 then (0 : Int32) else 1) = τ' 97 26 := by
    rcases E4 with ⟨h1, h2⟩ | ⟨h1, h2⟩
    · rw [if_pos h1, h2]
    · rw [if_neg (by rw [h1]; exact one_ne), h2]
  refine hK _ ⟨fun j => if j = k then n' else cnt j, ?_, ?_, ?_, ?_, ?_⟩ (fun y hy => ?_) (((hF.fy.sg (by omega) (by omega)).sg (by omega) (by omega)).sg (by omega) (by omega))
  · intro j hj
    show (if j = k then n' else cnt j) ≤ 30
    split
    · omega
    · exact c1 j (by omega)
  all_goals
    have es : ∀ m, m ≤ k → sumN (fun j => if j = k then n' else cnt j) m = sumN cnt m := by
      intro m
      induction m with
      | zero => intro _; rfl
      | succ m ih =>
        intro hm
        show sumN (fun j => if j = k then n' else cnt j) m + (if m = k then n' else cnt m) = sumN cnt m + cnt m
        rw [ih (by omega), if_neg (by omega)]
    have es1 : sumN (fun j => if j = k then n' else cnt j) (k + 1) = sumN cnt k + n' := by
      show sumN (fun j => if j = k then n' else cnt j) k + (if k = k then n' else cnt k) = _
      rw [es k (Nat.le_refl _), if_pos rfl]
  · rw [es1, fin_kp' 90 (by omega)]; exact a1
  · rw [es1]; exact a2
  · rw [es1]
    intro j hj
    rw [fin_kp' 91 (by omega)]
    exact a3 j hj
  · intro j hj
    by_cases e : j = k
    · subst e
      have ec : (fun i => if i = j then n' else cnt i) j = n' := if_pos rfl
      rw [es1, ec, fin_kp' 92 (by omega), fin_kp' 95 (by omega)]
      refine ⟨a4, sg_same τ' 115 j _, ?_, ?_, ?_, a5⟩
      · show sg γ' 93 j (γ' 84 7) 93 j = sg (sg τ' 115 j (nI n')) 116 j (τ' 97 25) 116 j
        rw [sg_same, sg_same, E3.1, E3.2.1]
      · show sg (sg γ' 93 j (γ' 84 7)) 94 j (if γ' 84 8 = 0 then 0 else 1) 94 j = sg (sg (sg τ' 115 j (nI n')) 116 j (τ' 97 25)) 117 j (τ' 97 26) 117 j
        rw [sg_same, sg_same, hfc]
      · show sg (sg γ' 93 j (γ' 84 7)) 94 j (if γ' 84 8 = 0 then 0 else 1) 94 j = 0 ∨ sg (sg γ' 93 j (γ' 84 7)) 94 j (if γ' 84 8 = 0 then 0 else 1) 94 j = 1
        rw [sg_same]
        by_cases z : γ' 84 8 = 0
        · rw [if_pos z]; exact Or.inl rfl
        · rw [if_neg z]; exact Or.inr rfl
    · have hjk : j < k := by omega
      obtain ⟨b1, b2, b3, b4, b6, b5⟩ := c5 j hjk
      have ec : (fun i => if i = k then n' else cnt i) j = cnt j := if_neg e
      rw [es (j + 1) (by omega), ec, fin_kp' 92 (by omega), fin_kp' 95 (by omega)]
      have hsl : sumN cnt (j + 1) ≤ sumN cnt k := sumN_le (by omega)
      refine ⟨(a6 j e).1.trans b1, ?_, ?_, ?_, ?_, ?_⟩
      · refine (sg_ne τ' 115 (nI n') e).trans ?_
        rw [a9 115 (by omega)]; exact b2
      · show sg γ' 93 k (γ' 84 7) 93 j = sg (sg τ' 115 k (nI n')) 116 k (τ' 97 25) 116 j
        rw [sg_ne _ _ _ e, sg_ne _ _ _ e, a7]
        show γ 93 j = τ' 116 j
        rw [a9 116 (by omega)]; exact b3
      · show sg (sg γ' 93 k (γ' 84 7)) 94 k (if γ' 84 8 = 0 then 0 else 1) 94 j = sg (sg (sg τ' 115 k (nI n')) 116 k (τ' 97 25)) 117 k (τ' 97 26) 117 j
        rw [sg_ne _ _ _ e, sg_ne _ _ _ e]
        show γ' 94 j = τ' 117 j
        rw [a8, a9 117 (by omega)]; exact b4
      · show sg (sg γ' 93 k (γ' 84 7)) 94 k (if γ' 84 8 = 0 then 0 else 1) 94 j = 0 ∨ sg (sg γ' 93 k (γ' 84 7)) 94 k (if γ' 84 8 = 0 then 0 else 1) 94 j = 1
        rw [sg_ne _ _ _ e]
        show γ' 94 j = 0 ∨ γ' 94 j = 1
        rw [a8]; exact b6
      · refine (a6 j e).2.trans (b5.trans ?_)
        by_cases z : cnt j = 0
        · rw [if_pos z, if_pos z]
        · rw [if_neg z, if_neg z]
          have : sumN cnt (j + 1) = sumN cnt j + cnt j := rfl
          exact (a10 _ (by omega)).symm
  · rw [fin_kp' 85 (by omega)]
    exact E2 y hy
end GO2
