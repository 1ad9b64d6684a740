/-! RUNS: make in the class, go in the reference, and what is read off them -/
def sumI (f : Nat → Int32) : Nat → Nat → Int32 → Int32
  | 0, _, a => a
  | m + 1, k, a => sumI f m (k + 1) (a + f k)
theorem sumI_congr {f g : Nat → Int32} : ∀ (m s : Nat) (a : Int32), (∀ k, s ≤ k → k < s + m → f k = g k) → sumI f m s a = sumI g m s a := by
  intro m
  induction m with
  | zero => intro s a _; rfl
  | succ m ih =>
    intro s a h
    show sumI f m (s + 1) (a + f s) = sumI g m (s + 1) (a + g s)
    rw [h s (Nat.le_refl _) (by omega)]
    exact ih (s + 1) _ (fun k h1 h2 => h k (by omega) (by omega))
theorem sumI_nI {cnt : Nat → Nat} : ∀ (m s : Nat), sumI (fun j => nI (cnt j)) m s (nI (sumN cnt s)) = nI (sumN cnt (s + m)) := by
  intro m
  induction m with
  | zero => intro s; rfl
  | succ m ih =>
    intro s
    show sumI (fun j => nI (cnt j)) m (s + 1) (nI (sumN cnt s) + nI (cnt s)) = _
    rw [nI_add]
    have := ih (s + 1)
    rw [show s + (m + 1) = s + 1 + m by omega]
    exact this
section RUNS
variable {d : Nat} {σ τ : yS} {K : Int32 → yS → Prop} {KV : yS → Prop}
theorem sp_sum9 {n : Nat} (hn : n ≤ 8) (hl : σ 2 10 = nI n) (h : K (sumI (σ 9) n 0 0) σ) : yR d 71 0 [some (.ref 0), some (.ref 9), none, none] [] σ (qI K) := by
  have loop : ∀ m k : Nat, k + m = n → ∀ a : Int32, K (sumI (σ 9) m k a) σ → yR d 71 4 [some (.ref 0), some (.ref 9), some (.int a), some (.int (nI k))] [] σ (qI K) := by
    intro m
    induction m with
    | zero =>
      intro k hk a h9
      have e : k = n := by omega
      subst e
      exact w_71_4_9 ⟨fun _ => h9, fun q => absurd (by rw [hl]; exact Int32.le_refl _) q⟩
    | succ m ih =>
      intro k hk a h
      refine w_71_4_9 ⟨fun q => absurd (by rw [hl] at q; exact q) (nI_ge (by omega) (by omega)), fun _ => ⟨fun q => absurd q (nI_ge (a := k) (b := 8) (by omega) (by decide)), fun _ => ⟨vp_in_nI (by omega) (by decide), ?_⟩⟩⟩
      rw [nI_clamp (by omega), nI_1]
      exact ih (k + 1) (by omega) _ h
  have := loop n 0 (by omega) 0 h
  rw [nI_0] at this
  exact w_71_0_9 this
theorem sp_sum93 {n : Nat} (hn : n ≤ 8) (hl : σ 2 10 = nI n) (h : K (sumI (σ 93) n 0 0) σ) : yR d 71 0 [some (.ref 0), some (.ref 93), none, none] [] σ (qI K) := by
  have loop : ∀ m k : Nat, k + m = n → ∀ a : Int32, K (sumI (σ 93) m k a) σ → yR d 71 4 [some (.ref 0), some (.ref 93), some (.int a), some (.int (nI k))] [] σ (qI K) := by
    intro m
    induction m with
    | zero =>
      intro k hk a h9
      have e : k = n := by omega
      subst e
      exact w_71_4_93 ⟨fun _ => h9, fun q => absurd (by rw [hl]; exact Int32.le_refl _) q⟩
    | succ m ih =>
      intro k hk a h
      refine w_71_4_93 ⟨fun q => absurd (by rw [hl] at q; exact q) (nI_ge (by omega) (by omega)), fun _ => ⟨fun q => absurd q (nI_ge (a := k) (b := 8) (by omega) (by decide)), fun _ => ⟨vp_in_nI (by omega) (by decide), ?_⟩⟩⟩
      rw [nI_clamp (by omega), nI_1]
      exact ih (k + 1) (by omega) _ h
  have := loop n 0 (by omega) 0 h
  rw [nI_0] at this
  exact w_71_0_93 this
theorem sp_sum94 {n : Nat} (hn : n ≤ 8) (hl : σ 2 10 = nI n) (h : K (sumI (σ 94) n 0 0) σ) : yR d 71 0 [some (.ref 0), some (.ref 94), none, none] [] σ (qI K) := by
  have loop : ∀ m k : Nat, k + m = n → ∀ a : Int32, K (sumI (σ 94) m k a) σ → yR d 71 4 [some (.ref 0), some (.ref 94), some (.int a), some (.int (nI k))] [] σ (qI K) := by
    intro m
    induction m with
    | zero =>
      intro k hk a h9
      have e : k = n := by omega
      subst e
      exact w_71_4_94 ⟨fun _ => h9, fun q => absurd (by rw [hl]; exact Int32.le_refl _) q⟩
    | succ m ih =>
      intro k hk a h
      refine w_71_4_94 ⟨fun q => absurd (by rw [hl] at q; exact q) (nI_ge (by omega) (by omega)), fun _ => ⟨fun q => absurd q (nI_ge (a := k) (b := 8) (by omega) (by decide)), fun _ => ⟨vp_in_nI (by omega) (by decide), ?_⟩⟩⟩
      rw [nI_clamp (by omega), nI_1]
      exact ih (k + 1) (by omega) _ h
  have := loop n 0 (by omega) 0 h
  rw [nI_0] at this
  exact w_71_0_94 this
def slt (f : Nat → Int32) (k : Nat) : Int32 := if f k = 0 then 1 else 0
def cut1 (f : Nat → Int32) (k : Nat) : Int32 := if f k = 0 then 0 else 1
theorem sp_silent {n : Nat} (hn : n ≤ 8) (h : K (sumI (slt (σ 92)) n 0 0) σ) : yR d 24 0 [some (.ref 90), some (.int (nI n)), none, none] [] σ (qI K) := by
  have loop : ∀ m k : Nat, k + m = n → ∀ a : Int32, K (sumI (slt (σ 92)) m k a) σ → yR d 24 4 [some (.ref 90), some (.int (nI n)), some (.int a), some (.int (nI k))] [] σ (qI K) := by
    intro m
    induction m with
    | zero =>
      intro k hk a h9
      have e : k = n := by omega
      subst e
      exact w_24_4 ⟨fun _ => h9, fun q => absurd (Int32.le_refl _) q⟩
    | succ m ih =>
      intro k hk a h
      have h' : K (sumI (slt (σ 92)) m (k + 1) (a + slt (σ 92) k)) σ := h
      unfold slt at h'
      refine w_24_4 ⟨fun q => absurd q (nI_ge (by omega) (by omega)), fun _ => ⟨fun q => absurd q (nI_ge (a := k) (b := 8) (by omega) (by decide)), fun _ => ⟨vp_in_nI (by omega) (by decide), ?_⟩⟩⟩
      rw [nI_clamp (by omega), nI_1]
      refine ⟨fun q => ?_, fun q => ?_⟩
      · rw [if_neg q, Int32.add_zero] at h'
        exact ih (k + 1) (by omega) _ h'
      · rw [if_pos q] at h'
        exact ih (k + 1) (by omega) _ h'
  have := loop n 0 (by omega) 0 h
  rw [nI_0] at this
  exact w_24_0 this
/-- ran of the reference -/
def ranF (τ : yS) (what : Int32) : Nat → Int32 := if what = 0 then τ 115 else if what = 1 then slt (τ 115) else if what = 2 then cut1 (τ 117) else τ 116
theorem sm_ran {n : Nat} {what : Int32} (hn : n ≤ 8) (h0 : τ 98 0 = nI n) (h : K (sumI (ranF τ what) n 0 0) τ) : yR d 136 0 [some (.ref 97), some (.int what), none, none] [] τ (qI K) := by
  have loop : ∀ m k : Nat, k + m = n → ∀ a : Int32, K (sumI (ranF τ what) m k a) τ → yR d 136 4 [some (.ref 97), some (.int what), some (.int a), some (.int (nI k))] [] τ (qI K) := by
    intro m
    induction m with
    | zero =>
      intro k hk a h9
      have e : k = n := by omega
      subst e
      exact w_136_4 ⟨inN_t.mp (by decide), fun _ => h9, fun q => absurd (by rw [h0]; exact Int32.le_refl _) q⟩
    | succ m ih =>
      intro k hk a h
      have h' : K (sumI (ranF τ what) m (k + 1) (a + ranF τ what k)) τ := h
      have hv : vp_in (nI k) 8 := vp_in_nI (by omega) (by decide)
      have ec : (nI k).toNatClampNeg = k := nI_clamp (by omega)
      have go := ih (k + 1) (by omega) _ h'
      rw [← nI_1] at go
      unfold ranF at go
      refine w_136_4 ⟨inN_t.mp (by decide), fun q => absurd (by rw [h0] at q; exact q) (nI_ge (by omega) (by omega)), fun _ => ⟨fun q0 => ⟨fun q1 => ⟨fun q2 => ⟨hv, ?_⟩, fun q2 => ⟨hv, fun z => ?_, fun z => ?_⟩⟩, fun q1 => ⟨hv, fun z => ?_, fun z => ?_⟩⟩, fun q0 => ⟨hv, ?_⟩⟩⟩
      · rw [if_neg q0, if_neg q1, if_neg q2] at go; rw [ec]; exact go
      · rw [if_neg q0, if_neg q1, if_pos q2] at go; rw [ec] at z; unfold cut1 at go; rw [if_pos z] at go; exact go
      · rw [if_neg q0, if_neg q1, if_pos q2] at go; rw [ec] at z; unfold cut1 at go; rw [if_neg z] at go; exact go
      · rw [if_neg q0, if_pos q1] at go; rw [ec] at z; unfold slt at go; rw [if_neg z] at go; exact go
      · rw [if_neg q0, if_pos q1] at go; rw [ec] at z; unfold slt at go; rw [if_pos z] at go; exact go
      · rw [if_pos q0] at go; rw [ec]; exact go
  have := loop n 0 (by omega) 0 h
  rw [nI_0] at this
  exact w_136_0 this
/-- class and reference, both run -/
def OE (n : Nat) (τ : yS) : Prop := ∃ cnt : Nat → Nat, (∀ j, j < n → cnt j ≤ 30) ∧ τ 90 2 = nI (sumN cnt n) ∧ τ 97 33 = nI (sumN cnt n) ∧ (∀ j, j < sumN cnt n → τ 91 j = τ 114 j) ∧
  (∀ j, j < n → τ 92 j = nI (cnt j) ∧ τ 115 j = nI (cnt j) ∧ τ 93 j = τ 116 j ∧ τ 94 j = τ 117 j ∧ (τ 94 j = 0 ∨ τ 94 j = 1) ∧ τ 95 j = if cnt j = 0 then -1999999 else τ 114 (sumN cnt (j + 1) - 1)) ∧ ∀ x, x < 4 → τ 96 x = τ 112 x
/-- behind make: the invariant, and all that isn't the outcome's or the machine's as it was -/
theorem make_inv {n : Nat} {cb sz tp : Nat → Nat} (h : Inv σ) (hP : PRc σ 2 (σ 98) n cb sz tp) : Inv (makeC n σ) ∧ (makeC n σ) 90 0 = 1 ∧ ∀ c, c < 84 ∨ 96 < c → (makeC n σ) c = σ c := by
  obtain ⟨h1, h2, h3, h4, h5⟩ := id h
  have kp : ∀ c, c < 84 ∨ 96 < c → (makeC n σ) c = σ c := fun c hc => make_kp hc
  have is1 : (makeC n σ) 90 0 = 1 := by
    unfold makeC
    split
    · rfl
    · rename_i q
      rcases h5 with z | ⟨z, -⟩
      · exact absurd z q
      · exact z
  refine ⟨⟨h1.fr (fun k _ => by rw [kp 0 (by omega)]) (kp 101 (by omega)), h2.fr (by rw [kp 0 (by omega)]) (kp 1 (by omega)) (by rw [kp 97 (by omega)]) (kp 102 (by omega)), h3.fr (fun c g1 g2 => kp c (by omega)) (kp 98 (by omega)), h4.fr (kp 27 (by omega)) (by rw [kp 97 (by omega)]) (fun c g1 g2 => kp c (by omega)) (kp 100 (by omega)), ?_⟩, is1, kp⟩
  refine Or.inr ⟨is1, ?_⟩
  by_cases q : σ 90 0 = 0
  · exact ⟨σ, n, hP.1, by rw [kp 2 (by omega)]; exact hP.2.1, fun c g1 g2 => (kp c (by omega)).symm, q, fun c g1 g2 => rfl⟩
  · have e : makeC n σ = σ := by unfold makeC; rw [if_neg q]
    rw [e]
    rcases h5 with z | ⟨z, r⟩
    · exact absurd z q
    · exact r
theorem sm_run {n : Nat} {cb sz tp : Nat → Nat} (h : Inv σ) (h1 : σ 90 0 = 1) (hP : PRc σ 2 (σ 98) n cb sz tp) (hK : ∀ τ, Inv τ → OE n τ → FY σ τ → KV τ) : yR (d + 7) 135 0 [some (.ref 97), none] [] σ (qV KV) := by
  obtain ⟨i1, i2, i3, i4, i5⟩ := id h
  rcases i5 with z | ⟨-, γ, m, g0, g1, g2, g3, g4⟩
  · exact absurd (h1.symm.trans z) one_ne
  · have em : m = n := by
      have := hP.2.1
      have e : nI m = nI n := g1.symm.trans this
      have := hP.1
      exact (nI_eq (by omega) (by omega)).mp e
    subst em
    have hPg : PRc γ 2 (σ 98) m cb sz tp := hP.fr (fun c a b => g2 c a (by omega)) rfl
    refine sm_go hPg (fun τ' o1 o2 o3 => hK τ' ?_ ?_ o3)
    · exact h.fr (fun c hc => o3.1 c (by omega)) (fun k hk => o3.2 k (by omega))
    · obtain ⟨cnt, c1, c2, c3, c4, c5⟩ := o1
      have em : makeC m γ = endC (mksC m 0 (brunC (sg γ 90 2 0))) := by unfold makeC; rw [if_pos g3]
      generalize hG : mksC m 0 (brunC (sg γ 90 2 0)) = G at *
      have cl : ∀ c, 90 ≤ c → c ≤ 96 → τ' c = (endC G) c := fun c a b => by rw [o3.1 c (by omega), g4 c a b, em]
      have c9 : ∀ c, 91 ≤ c → c ≤ 95 → τ' c = G c := fun c a b => by
        rw [cl c (by omega) (by omega)]
        unfold endC
        rw [kp_sg (by omega)]
        unfold sgA
        rw [if_neg (by omega)]
      have c90 : τ' 90 2 = G 90 2 := by
        rw [cl 90 (by omega) (by omega)]
        rfl
      refine ⟨cnt, c1, by rw [c90]; exact c2, c3, fun j hj => by rw [c9 91 (by omega) (by omega)]; exact c4 j hj, fun j hj => ?_, fun x hx => ?_⟩
      · rw [c9 92 (by omega) (by omega), c9 93 (by omega) (by omega), c9 94 (by omega) (by omega), c9 95 (by omega) (by omega)]
        exact c5 j hj
      · rw [cl 96 (by omega) (by omega), ← (o2 x hx).1]
        unfold endC
        rw [kp_sg (by omega)]
        unfold sgA
        rw [if_pos rfl, pk_cpy_in (Nat.zero_le _) (by omega)]
        congr 1; omega
end RUNS
