theorem PRc.fr {γ γ' : yS} {b n : Nat} {f f' : Nat → Int32} {cb sz tp : Nat → Nat} (h : PRc γ b f n cb sz tp) (hg : ∀ c, b ≤ c → c ≤ b + 10 → γ' c = γ c) (hf : f' = f) : PRc γ' b f' n cb sz tp := by
  subst hf
  unfold PRc
  rw [hg (b + 1) (by omega) (by omega), hg (b + 2) (by omega) (by omega), hg (b + 3) (by omega) (by omega), hg (b + 4) (by omega) (by omega), hg (b + 5) (by omega) (by omega), hg (b + 6) (by omega) (by omega), hg (b + 7) (by omega) (by omega), hg (b + 8) (by omega) (by omega), hg (b + 9) (by omega) (by omega), hg (b + 10) (by omega) (by omega), hg b (by omega) (by omega)]
  exact h
section GO3
variable {d : Nat} {γ τ : yS} {KV : yS → Prop}
def tvM (τ : yS) : yS := sg (sg (sg (sg (sg τ 97 33 0) 112 0 (τ 98 85)) 112 1 (τ 98 86)) 112 2 (τ 98 87)) 112 3 (τ 98 88)
theorem sm_take (h : KV (tvM τ)) : yR d 134 0 [some (.ref 97), none] [] τ (qV KV) := by
  have e5 : ∀ x : Nat, (85 : Int32) + nI x = nI (85 + x) := fun x => nI_add 85 x
  have st : ∀ (x : Nat) (ρ : yS), x < 4 → ρ 98 = τ 98 → yR d 134 7 [some (.ref 97), some (.int (nI (x + 1)))] [] (sg ρ 112 x (τ 98 (85 + x))) (qV KV) → yR d 134 7 [some (.ref 97), some (.int (nI x))] [] ρ (qV KV) := by
    intro x ρ hx h8 hh
    refine w_134_7 ⟨fun q => absurd q (nI_ge (a := x) (b := 4) hx (by decide)), fun _ => ⟨by rw [e5]; exact vp_in_nI (by omega) (by decide), vp_in_nI hx (by decide), ?_⟩⟩
    rw [e5, nI_clamp (by omega), nI_clamp (by omega), nI_1, h8]
    exact hh
  refine w_134_0 ?_
  have := st 0 (sg τ 97 33 0) (by omega) rfl (st 1 _ (by omega) rfl (st 2 _ (by omega) rfl (st 3 _ (by omega) rfl (w_134_7 ⟨fun _ => h, fun q => absurd (Int32.le_refl _) q⟩))))
  rw [nI_0] at this
  exact this
theorem tv_112 {x : Nat} (hx : x < 4) : (tvM τ) 112 x = τ 98 (85 + x) := by
  unfold tvM
  match x, hx with
  | 0, _ => rw [sg_ne _ _ _ (by decide), sg_ne _ _ _ (by decide), sg_ne _ _ _ (by decide), sg_same]
  | 1, _ => rw [sg_ne _ _ _ (by decide), sg_ne _ _ _ (by decide), sg_same]
  | 2, _ => rw [sg_ne _ _ _ (by decide), sg_same]
  | 3, _ => rw [sg_same]
theorem tv_kp {c : Nat} (h1 : c ≠ 97) (h2 : c ≠ 112) : (tvM τ) c = τ c := by
  unfold tvM
  rw [kp_sg h2, kp_sg h2, kp_sg h2, kp_sg h2, kp_sg h1]
theorem tv_97 {k : Nat} (h : k ≠ 33) : (tvM τ) 97 k = τ 97 k := by
  unfold tvM
  rw [kp_sg (by decide), kp_sg (by decide), kp_sg (by decide), kp_sg (by decide), sg_ne _ _ _ h]
theorem tv_FY : FY τ (tvM τ) := ⟨fun c hc => tv_kp (by omega) (by omega), fun j hj => tv_97 (by omega)⟩
theorem brun_85 {σ : yS} {x : Nat} (hx : x < 4) : (brunC σ) 85 x = σ 12 x := by
  unfold brunC sgA
  rw [if_pos rfl, pk_cpy_in (Nat.zero_le _) (by omega)]
  congr 1; omega
theorem take_VR {n : Nat} {σ : yS} {cb sz tp : Nat → Nat} (hP : PRc γ 2 (τ 98) n cb sz tp) (h12 : σ 12 = γ 12) : VR (brunC σ) (tvM τ) := by
  intro x hx
  have := hP.2.2.2.2.2 x hx
  rw [brun_85 hx, h12, tv_112 hx]
  exact this
theorem sm_go {n : Nat} {cb sz tp : Nat → Nat} (hP : PRc γ 2 (τ 98) n cb sz tp) (hK : ∀ τ', ORk n (mksC n 0 (brunC (sg γ 90 2 0))) τ' → VR (mksC n 0 (brunC (sg γ 90 2 0))) τ' → FY τ τ' → KV τ') :
    yR (d + 7) 135 0 [some (.ref 97), none] [] τ (qV KV) := by
  have e1 : ∀ x : Nat, (1 : Int32) + nI x = nI (1 + x) := fun x => nI_add 1 x
  have loop : ∀ m k : Nat, k + m = n → ∀ (g ρ : yS), (∀ c, c < 84 → g c = γ c) → FY τ ρ → ORk k g ρ → VR g ρ → (∀ τ', ORk n (mksC m k g) τ' → VR (mksC m k g) τ' → FY τ τ' → KV τ') → yR (d + 7) 135 6 [some (.ref 97), some (.int (nI k))] [] ρ (qV KV) := by
    intro m
    induction m with
    | zero =>
      intro k hk g ρ hg hF hO hV hh
      have e : k = n := by omega
      subst e
      have h0 : ρ 98 0 = nI k := by rw [hF.1 98 (by omega)]; exact hP.2.2.1
      exact w_135_6 ⟨inN_t.mp (by decide), fun _ => hh ρ hO hV hF, fun q => absurd (by rw [h0]; exact Int32.le_refl _) q⟩
    | succ m ih =>
      intro k hk g ρ hg hF hO hV hh
      have h98 : ρ 98 = τ 98 := hF.1 98 (by omega)
      have h0 : ρ 98 0 = nI n := by rw [h98]; exact hP.2.2.1
      have hn8 := hP.1
      have hPg : PRc g 2 (ρ 98) n cb sz tp := hP.fr (fun c _ _ => hg c (by omega)) h98
      have hev : g 8 k = ρ 98 (1 + k) := (hPg.2.2.2.2.1 k (by omega)).1
      refine w_135_6 ⟨inN_t.mp (by decide), fun q => absurd (by rw [h0] at q; exact q) (nI_ge (by omega) (by omega)), fun _ => ⟨by rw [e1]; exact vp_in_nI (by omega) (by decide), ?_⟩⟩
      rw [e1, nI_clamp (by omega), ← hev]
      have go : yR (d + 6) 133 0 [some (.ref 97), some (.int (nI k)), some (.int (if g 8 k = 1 then 1 else 0)), none, none] [] ρ (qV (fun σ1 => yR (d + 6 + 1) 135 6 [some (.ref 97), some (.int (nI k + 1))] [] σ1 (qV KV))) := by
        refine sm_line hPg (by omega) hV hO (fun τ' o1 o2 o3 => ?_)
        rw [nI_1]
        exact ih (k + 1) (by omega) (mlC k g) τ' (fun c hc => (ml_kp (by omega)).trans (hg c hc)) (hF.tr o3) o1 o2 hh
      refine ⟨fun q => ?_, fun q => ?_⟩
      · rw [if_neg q] at go; exact go
      · rw [if_pos q] at go; exact go
  refine w_135_0 (sm_take ?_)
  have hV : VR (brunC (sg γ 90 2 0)) (tvM τ) := take_VR hP rfl
  have := loop n 0 (by omega) (brunC (sg γ 90 2 0)) (tvM τ) (fun c hc => (brun_kp (by omega)).trans (kp_sg (by omega))) tv_FY ⟨fun _ => 0, fun j hj => by omega, by rw [brun_kp (by decide)]; exact nI_0.symm, nI_0.symm, fun j hj => by simp [sumN] at hj, fun j hj => by omega⟩ hV hK
  rw [nI_0] at this
  exact this
end GO3
