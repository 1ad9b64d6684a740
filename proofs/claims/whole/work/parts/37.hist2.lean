section HIST
variable {d : Nat} {σ τ : yS} {K : Int32 → yS → Prop} {KV : yS → Prop}
theorem sp_mod5 {a : Nat} (ha : a < 10) (h : K (nI (a % 5)) σ) : yR d 147 0 [some (.int (nI a)), some (.int 5), none] [] σ (qI K) := by
  have hx : ∀ a : Nat, a < 10 → (0 : Int32) ≤ nI a ^^^ 5 := by decide
  have e : nI a - nI a / nI 5 * nI 5 = nI (a % 5) := pk_rem (by omega) (by omega) (by omega)
  refine w_147_0 ⟨by decide, fun _ => ?_, fun q => absurd (hx a ha) q⟩
  have e2 : nI a - nI a / 5 * 5 = nI (a % 5) := e
  rw [e2]; exact h
/-- the class leaves a STATE -/
def lvC (c o : Nat) (σ : yS) : yS := if c < 5 then sg (tkA (29 + 11 * ((o + c) % 5)) 2 σ) 27 2 (nI (c + 1)) else sg (tkA (29 + 11 * ((o + c) % 5)) 2 σ) 27 1 (nI ((o + 1) % 5))
theorem sp_leave {c o : Nat} (hc : c ≤ 5) (ho : o < 5) (h2 : σ 27 2 = nI c) (h1 : σ 27 1 = nI o) (h : KV (lvC c o σ)) : yR (d + 3) 1 0 [some (.ref 27), some (.ref 2), none] [] σ (qV KV) := by
  have hm : (o + c) % 5 < 5 := Nat.mod_lt _ (by omega)
  have e5 : ∀ j : Nat, j < 5 → (j : Nat) < 2 ^ 31 := fun j hj => by omega
  have fin : ∀ b : Nat, b = 29 + 11 * ((o + c) % 5) → ((((5 : Int32) ≤ ((tkA b 2 σ) 27 2)) → yR (d + 2) 147 0 [some (.int (((tkA b 2 σ) 27 1) + 1)), some (.int 5), none] [] (tkA b 2 σ) (qI (fun x3 σ3 => KV (sg σ3 27 1 x3)))) ∧ (¬ ((5 : Int32) ≤ ((tkA b 2 σ) 27 2)) → KV (sg (tkA b 2 σ) 27 2 (((tkA b 2 σ) 27 2) + 1)))) := by
    intro b hb
    have k27 : (tkA b 2 σ) 27 = σ 27 := tkA_kp (by omega)
    rw [k27, h2, h1, nI_1, nI_1]
    unfold lvC at h
    rw [← hb] at h
    refine ⟨fun q => ?_, fun q => ?_⟩
    · have : 5 ≤ c := (nI_leI (a := 5) (b := c) (by omega) (by omega)).mp q
      rw [if_neg (by omega)] at h
      exact sp_mod5 (by omega) h
    · have : ¬ 5 ≤ c := fun z => q ((nI_leI (a := 5) (b := c) (by omega) (by omega)).mpr z)
      rw [if_pos (by omega)] at h
      exact h
  refine w_1_0 ?_
  rw [h1, h2, nI_add]
  refine sp_mod5 (by omega) ⟨vp_in_nI hm (by decide), fun e => sp_tk_29_2 (fin 29 ?_), fun e => sp_tk_40_2 (fin 40 ?_), fun e => sp_tk_51_2 (fin 51 ?_), fun e => sp_tk_62_2 (fin 62 ?_), fun e => sp_tk_73_2 (fin 73 ?_)⟩
  · have := (nI_eq (a := (o + c) % 5) (b := 0) (by omega) (by omega)).mp e; omega
  · have := (nI_eq (a := (o + c) % 5) (b := 1) (by omega) (by omega)).mp e; omega
  · have := (nI_eq (a := (o + c) % 5) (b := 2) (by omega) (by omega)).mp e; omega
  · have := (nI_eq (a := (o + c) % 5) (b := 3) (by omega) (by omega)).mp e; omega
  · have := (nI_eq (a := (o + c) % 5) (b := 4) (by omega) (by omega)).mp e; omega
theorem sp_leaveState {c o : Nat} (hc : c ≤ 5) (ho : o < 5) (h2 : σ 27 2 = nI c) (h1 : σ 27 1 = nI o) (h : KV (sg (lvC c o σ) 90 0 0)) : yR (d + 4) 72 0 [some (.ref 0)] [] σ (qV KV) := w_72_0 (sp_leave hc ho h2 h1 h)
theorem lv_kp {c o q : Nat} (h : q < 27 ∨ q = 28 ∨ 83 < q) : (lvC c o σ) q = σ q := by
  have hm : (o + c) % 5 < 5 := Nat.mod_lt _ (by omega)
  unfold lvC
  split
  · rw [kp_sg (by omega)]; exact tkA_kp (by omega)
  · rw [kp_sg (by omega)]; exact tkA_kp (by omega)
theorem lv_ring {c o q : Nat} (h : 29 ≤ q) : (lvC c o σ) q = (tkA (29 + 11 * ((o + c) % 5)) 2 σ) q := by
  unfold lvC
  split
  · exact kp_sg (by omega)
  · exact kp_sg (by omega)
/-- the reference holds -/
theorem sm_hold (h : ∀ ρ : yS, (∀ c, c ≠ 99 → ρ c = τ c) → (∀ j, j < 89 → ρ 99 j = τ 98 j) → KV ρ) : yR d 82 0 [some (.ref 97), none] [] τ (qV KV) := by
  have loop : ∀ m k : Nat, k + m = 89 → ∀ ρ : yS, (∀ c, c ≠ 99 → ρ c = τ c) → (∀ j, j < k → ρ 99 j = τ 98 j) → yR d 82 2 [some (.ref 97), some (.int (nI k))] [] ρ (qV KV) := by
    intro m
    induction m with
    | zero =>
      intro k hk ρ a b
      have e : k = 89 := by omega
      subst e
      exact w_82_2 ⟨fun _ => h ρ a b, fun q => absurd (by decide) q⟩
    | succ m ih =>
      intro k hk ρ a b
      refine w_82_2 ⟨fun q => absurd q (nI_ge (a := k) (b := 89) (by omega) (by decide)), fun _ => ⟨vp_in_nI (by omega) (by decide), ?_⟩⟩
      rw [nI_clamp (by omega), nI_1]
      refine ih (k + 1) (by omega) _ (fun c hc => (kp_sg hc).trans (a c hc)) (fun j hj => ?_)
      by_cases e : j = k
      · subst e; rw [sg_same, a 98 (by decide)]
      · rw [sg_ne _ _ _ e]; exact b j (by omega)
  have := loop 89 0 (by omega) τ (fun _ _ => rfl) (fun j hj => by omega)
  rw [nI_0] at this
  exact w_82_0 this
/-- the reference pushes -/
theorem sm_push {c : Nat} (hc : c ≤ 5) (h3 : τ 97 3 = nI c) (h : ∀ ρ : yS, (∀ q, q ≠ 100 → q ≠ 97 → ρ q = τ q) → (∀ k, k ≠ 3 → ρ 97 k = τ 97 k) → ρ 97 3 = nI (if c < 5 then c + 1 else 5) → (∀ i j, i < (if c < 5 then c else 4) → j < 89 → ρ 100 (89 * i + j) = τ 100 (89 * (if c < 5 then i else i + 1) + j)) → (∀ j, j < 89 → ρ 100 (89 * (if c < 5 then c else 4) + j) = τ 99 j) → KV ρ) : yR d 83 0 [some (.ref 97), none] [] τ (qV KV) := by
  have copy : ∀ (p : Nat), p ≤ 4 → ∀ m k : Nat, k + m = 89 → ∀ ρ : yS, (∀ q, q ≠ 100 → q ≠ 97 → ρ q = τ q) → (∀ k, k ≠ 3 → ρ 97 k = τ 97 k) → ρ 97 3 = nI p →
      (∀ ρ' : yS, (∀ q, q ≠ 100 → q ≠ 97 → ρ' q = τ q) → (∀ k, k ≠ 3 → ρ' 97 k = τ 97 k) → ρ' 97 3 = nI (p + 1) → (∀ x, (x < 89 * p + k ∨ 89 * p + 89 ≤ x) → ρ' 100 x = ρ 100 x) → (∀ j, k ≤ j → j < 89 → ρ' 100 (89 * p + j) = τ 99 j) → KV ρ') → yR d 83 50 [some (.ref 97), some (.int (nI k))] [] ρ (qV KV) := by
    intro p hp m
    induction m with
    | zero =>
      intro k hk ρ a b e3 g
      have e : k = 89 := by omega
      subst e
      refine w_83_50 ⟨fun _ => ?_, fun q => absurd (by decide) q⟩
      rw [e3, nI_1]
      exact g _ (fun q h1 h2 => (kp_sg h2).trans (a q h1 h2)) (fun k hk => (sg_ne _ _ _ hk).trans (b k hk)) (sg_same _ _ _ _) (fun x _ => rfl) (fun j h1 h2 => by omega)
    | succ m ih =>
      intro k hk ρ a b e3 g
      have ep : (89 : Int32) * nI p = nI (89 * p) := pk_mul 89 p
      refine w_83_50 ⟨fun q => absurd q (nI_ge (a := k) (b := 89) (by omega) (by decide)), fun _ => ⟨vp_in_nI (by omega) (by decide), ?_⟩⟩
      rw [e3, ep, nI_add, nI_clamp (by omega), nI_clamp (by omega), nI_1]
      refine ⟨vp_in_nI (by omega) (by decide), ih (k + 1) (by omega) _ (fun q h1 h2 => (kp_sg h1).trans (a q h1 h2)) (fun k hk => by rw [kp_sg (by decide)]; exact b k hk) (by rw [kp_sg (by decide)]; exact e3) (fun ρ' a' b' c' d' e' => g ρ' a' b' c' (fun x hx => ?_) (fun j h1 h2 => ?_))⟩
      · rw [d' x (by omega), sg_ne _ _ _ (by omega)]
      · by_cases e : j = k
        · subst e
          rw [d' _ (by omega), sg_same, a 99 (by decide) (by decide)]
        · exact e' j (by omega) h2
  refine w_83_0 ⟨fun q => ?_, fun q => ?_⟩
  · have hc5 : c < 5 := by
      have : ¬ c = 5 := fun e => q (by rw [h3, e]; rfl)
      omega
    have := copy c (by omega) 89 0 (by omega) τ (fun _ _ _ => rfl) (fun _ _ => rfl) h3 (fun ρ' a' b' c' d' e' => h ρ' a' b' (by rw [if_pos hc5]; exact c') (fun i j hi hj => by rw [if_pos hc5] at hi ⊢; exact d' _ (by omega)) (fun j hj => by rw [if_pos hc5]; exact e' j (by omega) hj))
    rw [nI_0] at this
    exact this
  · have hc5 : c = 5 := (nI_eq (a := c) (b := 5) (by omega) (by omega)).mp (h3.symm.trans q)
    subst hc5
    have shift : ∀ m k : Nat, k + m = 356 → ∀ ρ : yS, (∀ q, q ≠ 100 → ρ q = τ q) → (∀ x, x < k → ρ 100 x = τ 100 (x + 89)) → (∀ x, k ≤ x → ρ 100 x = τ 100 x) → yR d 83 10 [some (.ref 97), some (.int (nI k))] [] ρ (qV KV) := by
      intro m
      induction m with
      | zero =>
        intro k hk ρ a b b2
        have e : k = 356 := by omega
        subst e
        refine w_83_10 ⟨fun _ => ?_, fun q => absurd (by decide) q⟩
        have e4 : ρ 97 3 - 1 = nI 4 := by rw [a 97 (by decide), h3]; decide
        rw [e4]
        have := copy 4 (by omega) 89 0 (by omega) (sg ρ 97 3 (nI 4)) (fun q h1 h2 => (kp_sg h2).trans (a q h1)) (fun k hk => by rw [sg_ne _ _ _ hk, a 97 (by decide)]) (sg_same _ _ _ _) (fun ρ' a' b' c' d' e' => h ρ' a' b' c' (fun i j hi hj => ?_) (fun j hj => e' j (by omega) hj))
        · rw [nI_0] at this
          exact this
        · have hi4 : i < 4 := hi
          have : ρ' 100 (89 * i + j) = ρ 100 (89 * i + j) := d' _ (by omega)
          rw [this, b _ (by omega)]
          show τ 100 (89 * i + j + 89) = τ 100 (89 * (i + 1) + j)
          congr 1; omega
      | succ m ih =>
        intro k hk ρ a b b2
        have e89 : nI k + (89 : Int32) = nI (k + 89) := nI_add k 89
        refine w_83_10 ⟨fun q => absurd q (nI_ge (a := k) (b := 356) (by omega) (by decide)), fun _ => ⟨by rw [e89]; exact vp_in_nI (by omega) (by decide), vp_in_nI (by omega) (by decide), ?_⟩⟩
        rw [e89, nI_clamp (by omega), nI_clamp (by omega), nI_1]
        refine ih (k + 1) (by omega) _ (fun q hq => (kp_sg hq).trans (a q hq)) (fun x hx => ?_) (fun x hx => ?_)
        · by_cases e : x = k
          · subst e; rw [sg_same]; exact b2 _ (by omega)
          · rw [sg_ne _ _ _ e]; exact b x (by omega)
        · rw [sg_ne _ _ _ (by omega)]; exact b2 x (by omega)
    have := shift 356 0 (by omega) τ (fun _ _ => rfl) (fun x hx => by omega) (fun _ _ => rfl)
    rw [nI_0] at this
    exact this
/-- STATES behind a call told S -/
theorem hist_step {ρ : yS} {c o n : Nat} {cb sz tp : Nat → Nat} (hc : c ≤ 5) (ho : o < 5) (h2 : σ 27 2 = nI c) (h1 : σ 27 1 = nI o) (hP : PRc σ 2 (σ 98) n cb sz tp) (hH : ∀ i, i < c → ∃ (n : Nat) (cb sz tp : Nat → Nat), PRc σ (29 + 11 * ((o + i) % 5)) (fun j => σ 100 (89 * i + j)) n cb sz tp)
    (r1 : ∀ q, q = 27 ∨ (29 ≤ q ∧ q ≤ 83) → ρ q = (lvC c o σ) q) (r2 : ρ 97 3 = nI (if c < 5 then c + 1 else 5)) (r3 : ∀ i j, i < (if c < 5 then c else 4) → j < 89 → ρ 100 (89 * i + j) = σ 100 (89 * (if c < 5 then i else i + 1) + j)) (r4 : ∀ j, j < 89 → ρ 100 (89 * (if c < 5 then c else 4) + j) = σ 98 j) : I4 ρ := by
  have hm : (o + c) % 5 < 5 := Nat.mod_lt _ (by omega)
  have ring : ∀ q, 29 ≤ q → q ≤ 83 → ρ q = (tkA (29 + 11 * ((o + c) % 5)) 2 σ) q := fun q a b => (r1 q (Or.inr ⟨a, b⟩)).trans (lv_ring a)
  have own : PRc ρ (29 + 11 * ((o + c) % 5)) (fun j => ρ 100 (89 * (if c < 5 then c else 4) + j)) n cb sz tp := by
    have h1' : PRc (tkA (29 + 11 * ((o + c) % 5)) 2 σ) (29 + 11 * ((o + c) % 5)) (fun j => ρ 100 (89 * (if c < 5 then c else 4) + j)) n cb sz tp := hP.cong (tkA_SE (by omega)) r4
    exact h1'.fr (fun q a b => ring q (by omega) (by omega)) rfl
  have old : ∀ i', (o + i') % 5 ≠ (o + c) % 5 → ∀ q, 29 + 11 * ((o + i') % 5) ≤ q → q ≤ 29 + 11 * ((o + i') % 5) + 10 → ρ q = σ q := fun i' hi q a b => by
    have hm' : (o + i') % 5 < 5 := Nat.mod_lt _ (by omega)
    rw [ring q (by omega) (by omega)]
    exact tkA_kp (by omega)
  by_cases hc5 : c < 5
  · rw [if_pos hc5] at r2
    have e2 : ρ 27 2 = nI (c + 1) := by
      rw [r1 27 (Or.inl rfl)]
      unfold lvC
      rw [if_pos hc5]
      exact sg_same _ _ _ _
    have e1 : ρ 27 1 = nI o := by
      rw [r1 27 (Or.inl rfl)]
      unfold lvC
      rw [if_pos hc5, sg_ne _ _ _ (by decide), tkA_kp (by omega)]
      exact h1
    refine ⟨c + 1, o, by omega, ho, e2, e1, r2, fun i hi => ?_⟩
    by_cases e : i = c
    · subst e
      rw [if_pos hc5] at own
      exact ⟨n, cb, sz, tp, own⟩
    · obtain ⟨n', cb', sz', tp', hp⟩ := hH i (by omega)
      have hne : (o + i) % 5 ≠ (o + c) % 5 := by omega
      refine ⟨n', cb', sz', tp', (hp.cong (σ' := ρ) (b' := 29 + 11 * ((o + i) % 5)) ⟨fun k a b j hj => ?_, fun k a b j hj => ?_, fun j hj => ?_, ?_⟩ (fun j hj => ?_))⟩
      · rw [old i hne _ (by omega) (by omega)]
      · rw [old i hne _ (by omega) (by omega)]
      · rw [old i hne _ (by omega) (by omega)]
      · rw [old i hne _ (by omega) (by omega)]
      · have := r3 i j (by rw [if_pos hc5]; omega) hj
        rw [if_pos hc5] at this
        exact this
  · have hc5' : c = 5 := by omega
    subst hc5'
    rw [if_neg hc5] at r2
    have e2 : ρ 27 2 = nI 5 := by
      rw [r1 27 (Or.inl rfl)]
      unfold lvC
      rw [if_neg hc5, sg_ne _ _ _ (by decide), tkA_kp (by omega)]
      exact h2
    have e1 : ρ 27 1 = nI ((o + 1) % 5) := by
      rw [r1 27 (Or.inl rfl)]
      unfold lvC
      rw [if_neg hc5]
      exact sg_same _ _ _ _
    have hm1 : (o + 1) % 5 < 5 := Nat.mod_lt _ (by omega)
    refine ⟨5, (o + 1) % 5, Nat.le_refl _, hm1, e2, e1, r2, fun i hi => ?_⟩
    by_cases e : i = 4
    · subst e
      rw [if_neg hc5] at own
      have eq : ((o + 1) % 5 + 4) % 5 = (o + 5) % 5 := by omega
      rw [eq]
      exact ⟨n, cb, sz, tp, own⟩
    · obtain ⟨n', cb', sz', tp', hp⟩ := hH (i + 1) (by omega)
      have hne : (o + (i + 1)) % 5 ≠ (o + 5) % 5 := by omega
      have eq : ((o + 1) % 5 + i) % 5 = (o + (i + 1)) % 5 := by omega
      rw [eq]
      refine ⟨n', cb', sz', tp', (hp.cong (σ' := ρ) (b' := 29 + 11 * ((o + (i + 1)) % 5)) ⟨fun k a b j hj => ?_, fun k a b j hj => ?_, fun j hj => ?_, ?_⟩ (fun j hj => ?_))⟩
      · rw [old (i + 1) hne _ (by omega) (by omega)]
      · rw [old (i + 1) hne _ (by omega) (by omega)]
      · rw [old (i + 1) hne _ (by omega) (by omega)]
      · rw [old (i + 1) hne _ (by omega) (by omega)]
      · have := r3 i j (by rw [if_neg hc5]; omega) hj
        rw [if_neg hc5] at this
        exact this
end HIST
