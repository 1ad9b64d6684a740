/-! drops -/
section DROPS
variable {d : Nat} {σ τ : yS} {K : Int32 → yS → Prop} {KV : yS → Prop}
def shf (k m : Nat) (f : Nat → Int32) : Nat → Int32 := fun j => if k ≤ j ∧ j < m then f (j + 1) else f j
theorem shf_step {k m : Nat} {f : Nat → Int32} (hk : k ≤ m) {ρ : yS} {c : Nat} (h : ρ c = shf k m f) : (sg ρ c m (ρ c (m + 1))) c = shf k (m + 1) f := by
  funext j
  by_cases e : j = m
  · subst e
    rw [sg_same, h]
    unfold shf
    rw [if_neg (by omega), if_pos (by omega)]
  · rw [sg_ne _ _ _ e, h]
    unfold shf
    by_cases e2 : k ≤ j ∧ j < m
    · rw [if_pos e2, if_pos (by omega)]
    · rw [if_neg e2, if_neg (by omega)]
theorem shf_0 {k : Nat} {f : Nat → Int32} : f = shf k k f := by
  funext j
  unfold shf
  rw [if_neg (by omega)]
theorem sp_drop {n k : Nat} (hn : n ≤ 8) (hk : k < n) (hl : σ 2 10 = nI n) (h : ∀ ρ : yS, (∀ q, q ≠ 2 → ¬ (7 ≤ q ∧ q ≤ 11) → ρ q = σ q) → (∀ j, j ≠ 10 → ρ 2 j = σ 2 j) → ρ 2 10 = nI (n - 1) → (∀ q, 7 ≤ q → q ≤ 11 → ρ q = shf k (n - 1) (σ q)) → KV ρ) : yR (d + 1) 50 0 [some (.ref 2), some (.int (nI k)), none] [] σ (qV KV) := by
  have en : nI n - 1 = nI (n - 1) := pk_sub (a := n) (b := 1) (by omega)
  have loop : ∀ m a : Nat, a + m + 1 = n → k ≤ a → ∀ ρ : yS, (∀ q, ¬ (7 ≤ q ∧ q ≤ 11) → ρ q = σ q) → (∀ q, 7 ≤ q → q ≤ 11 → ρ q = shf k a (σ q)) → yR (d + 1) 50 14 [some (.ref 2), some (.int (nI k)), some (.int (nI a))] [] ρ (qV KV) := by
    intro m
    induction m with
    | zero =>
      intro a ha hka ρ a1 a2
      have e2 : ρ 2 = σ 2 := a1 2 (by omega)
      refine w_50_14 ⟨fun _ => ?_, fun q => ?_⟩
      · refine h _ (fun q g1 g2 => (kp_sg g1).trans (a1 q g2)) (fun j hj => by rw [sg_ne _ _ _ hj, e2]) (by rw [sg_same, e2, hl]; exact en) (fun q g1 g2 => ?_)
        rw [kp_sg (by omega), a2 q g1 g2]
        have : a = n - 1 := by omega
        rw [this]
      · rw [e2, hl, nI_1] at q
        have : a + 1 = n := by omega
        rw [this] at q
        exact absurd (Int32.le_refl _) q
    | succ m ih =>
      intro a ha hka ρ a1 a2
      have e2 : ρ 2 = σ 2 := a1 2 (by omega)
      refine w_50_14 ⟨fun q => ?_, fun _ => ⟨fun q => ?_, fun _ => ?_⟩⟩
      · rw [e2, hl, nI_1] at q
        exact absurd q (nI_ge (by omega) (by omega))
      · rw [nI_1] at q
        exact absurd q (nI_ge (a := a + 1) (b := 8) (by omega) (by omega))
      · rw [nI_1, nI_clamp (by omega), nI_clamp (by omega)]
        refine ⟨vp_in_nI (by omega) (by decide), vp_in_nI (by omega) (by decide), ih (a + 1) (by omega) (by omega) _ (fun q hq => ?_) (fun q g1 g2 => ?_)⟩
        · rw [kp_sg (by omega), kp_sg (by omega), kp_sg (by omega), kp_sg (by omega), kp_sg (by omega)]; exact a1 q hq
        · have hq : q = 7 ∨ q = 8 ∨ q = 9 ∨ q = 10 ∨ q = 11 := by omega
          rcases hq with rfl | rfl | rfl | rfl | rfl
          · rw [kp_sg (by omega), kp_sg (by omega), kp_sg (by omega), kp_sg (by omega)]; exact shf_step hka (a2 7 (by omega) (by omega))
          · rw [kp_sg (by omega), kp_sg (by omega), kp_sg (by omega)]
            exact shf_step hka (ρ := sg ρ 7 a (ρ 7 (a + 1))) (c := 8) ((kp_sg (by omega)).trans (a2 8 (by omega) (by omega)))
          · rw [kp_sg (by omega), kp_sg (by omega)]
            exact shf_step hka (ρ := sg (sg ρ 7 a (ρ 7 (a + 1))) 8 a (ρ 8 (a + 1))) (c := 9) (by rw [kp_sg (by omega), kp_sg (by omega)]; exact a2 9 (by omega) (by omega))
          · rw [kp_sg (by omega)]
            exact shf_step hka (ρ := sg (sg (sg ρ 7 a (ρ 7 (a + 1))) 8 a (ρ 8 (a + 1))) 9 a (ρ 9 (a + 1))) (c := 10) (by rw [kp_sg (by omega), kp_sg (by omega), kp_sg (by omega)]; exact a2 10 (by omega) (by omega))
          · exact shf_step hka (ρ := sg (sg (sg (sg ρ 7 a (ρ 7 (a + 1))) 8 a (ρ 8 (a + 1))) 9 a (ρ 9 (a + 1))) 10 a (ρ 10 (a + 1))) (c := 11) (by rw [kp_sg (by omega), kp_sg (by omega), kp_sg (by omega), kp_sg (by omega)]; exact a2 11 (by omega) (by omega))
  refine w_50_0 (sp_below (fun _ _ => br_t1 (loop (n - 1 - k) k (by omega) (Nat.le_refl _) σ (fun _ _ => rfl) (fun q _ _ => shf_0))) (fun q => ?_))
  rcases q with q | q
  · exact absurd q (nI_pos (by omega))
  · rw [hl] at q; exact absurd q (nI_ge hk (by omega))
/-- the reference's two moves -/
def mv1 (o s m : Nat) (f : Nat → Int32) : Nat → Int32 := fun i => if o ≤ i ∧ i < m then f (i + s) else f i
def mv2 (k m : Nat) (f : Nat → Int32) : Nat → Int32 := fun i => if (1 + k ≤ i ∧ i < 1 + m) ∨ (9 + k ≤ i ∧ i < 9 + m) ∨ (17 + k ≤ i ∧ i < 17 + m) then f (i + 1) else f i
theorem mv1_step {o s m : Nat} {f : Nat → Int32} (ho : o ≤ m) {ρ : yS} {c : Nat} (h : ρ c = mv1 o s m f) : (sg ρ c m (ρ c (m + s))) c = mv1 o s (m + 1) f := by
  funext j
  by_cases e : j = m
  · subst e
    rw [sg_same, h]
    unfold mv1
    rw [if_neg (by omega), if_pos (by omega)]
  · rw [sg_ne _ _ _ e, h]
    unfold mv1
    by_cases e2 : o ≤ j ∧ j < m
    · rw [if_pos e2, if_pos (by omega)]
    · rw [if_neg e2, if_neg (by omega)]
theorem mv2_step {k m : Nat} {f : Nat → Int32} (hk : k ≤ m) (hm : m < 7) {ρ : yS} (h : ρ 98 = mv2 k m f) : (sg (sg (sg ρ 98 (1 + m) (ρ 98 (2 + m))) 98 (9 + m) ((sg ρ 98 (1 + m) (ρ 98 (2 + m))) 98 (10 + m))) 98 (17 + m) ((sg (sg ρ 98 (1 + m) (ρ 98 (2 + m))) 98 (9 + m) ((sg ρ 98 (1 + m) (ρ 98 (2 + m))) 98 (10 + m))) 98 (18 + m))) 98 = mv2 k (m + 1) f := by
  funext j
  have e10 : (sg ρ 98 (1 + m) (ρ 98 (2 + m))) 98 (10 + m) = f (10 + m) := by
    rw [sg_ne _ _ _ (by omega), h]; unfold mv2; rw [if_neg (by omega)]
  have e18 : (sg (sg ρ 98 (1 + m) (ρ 98 (2 + m))) 98 (9 + m) ((sg ρ 98 (1 + m) (ρ 98 (2 + m))) 98 (10 + m))) 98 (18 + m) = f (18 + m) := by
    rw [sg_ne _ _ _ (by omega), sg_ne _ _ _ (by omega), h]; unfold mv2; rw [if_neg (by omega)]
  have e2 : ρ 98 (2 + m) = f (2 + m) := by rw [h]; unfold mv2; rw [if_neg (by omega)]
  rw [e18, e10, e2]
  by_cases c1 : j = 17 + m
  · subst c1
    rw [sg_same]; unfold mv2; rw [if_pos (by omega)]; congr 1; omega
  · rw [sg_ne _ _ _ c1]
    by_cases c2 : j = 9 + m
    · subst c2
      rw [sg_same]; unfold mv2; rw [if_pos (by omega)]; congr 1; omega
    · rw [sg_ne _ _ _ c2]
      by_cases c3 : j = 1 + m
      · subst c3
        rw [sg_same]; unfold mv2; rw [if_pos (by omega)]; congr 1; omega
      · rw [sg_ne _ _ _ c3, h]
        unfold mv2
        by_cases c4 : (1 + k ≤ j ∧ j < 1 + m) ∨ (9 + k ≤ j ∧ j < 9 + m) ∨ (17 + k ≤ j ∧ j < 17 + m)
        · rw [if_pos c4, if_pos (by omega)]
        · rw [if_neg c4, if_neg (by omega)]
theorem sm_drop {k o s : Nat} (hk : k ≤ 7) (ho : 25 ≤ o) (hs : 1 ≤ s) (hos : o + s ≤ 85) (h : ∀ ρ : yS, (∀ q, q ≠ 98 → ρ q = τ q) → ρ 98 = mv2 k 7 (mv1 o s (85 - s) (τ 98)) → yR d 83 0 [some (.ref 97), none] [] (sg ρ 98 0 (ρ 98 0 - 1)) (qV (fun σ1 => K (σ1 98 0) σ1))) : yR (d + 1) 116 38 [some (.ref 97), some (.int (nI k)), some (.int (nI o)), some (.int (nI s)), some (.int (nI o))] [] τ (qI K) := by
  have loop2 : ∀ m i : Nat, i + m = 7 → k ≤ i → ∀ ρ : yS, (∀ q, q ≠ 98 → ρ q = τ q) → ρ 98 = mv2 k i (mv1 o s (85 - s) (τ 98)) → yR (d + 1) 116 72 [some (.ref 97), some (.int (nI k)), some (.int (nI o)), some (.int (nI s)), some (.int (nI i))] [] ρ (qI K) := by
    intro m
    induction m with
    | zero =>
      intro i hi hki ρ a b
      have e : i = 7 := by omega
      subst e
      exact w_116_72 ⟨fun _ => ⟨inN_t.mp (by decide), h ρ a b⟩, fun q => absurd (by decide) q⟩
    | succ m ih =>
      intro i hi hki ρ a b
      have e1 : (1 : Int32) + nI i = nI (1 + i) := nI_add 1 i
      have e9 : (9 : Int32) + nI i = nI (9 + i) := nI_add 9 i
      have e17 : (17 : Int32) + nI i = nI (17 + i) := nI_add 17 i
      refine w_116_72 ⟨fun q => absurd q (nI_ge (a := i) (b := 7) (by omega) (by omega)), fun _ => ?_⟩
      rw [e1, e9, e17, nI_1, nI_1, nI_1, nI_1, nI_clamp (by omega), nI_clamp (by omega), nI_clamp (by omega), nI_clamp (by omega), nI_clamp (by omega), nI_clamp (by omega)]
      refine ⟨vp_in_nI (by omega) (by decide), vp_in_nI (by omega) (by decide), vp_in_nI (by omega) (by decide), vp_in_nI (by omega) (by decide), vp_in_nI (by omega) (by decide), vp_in_nI (by omega) (by decide), ih (i + 1) (by omega) (by omega) _ (fun q hq => ?_) ?_⟩
      · rw [kp_sg hq, kp_sg hq, kp_sg hq]; exact a q hq
      · have := mv2_step hki (by omega) b
        rw [show 1 + i + 1 = 2 + i by omega, show 9 + i + 1 = 10 + i by omega, show 17 + i + 1 = 18 + i by omega]
        exact this
  have loop1 : ∀ m i : Nat, i + m = 85 - s → o ≤ i → ∀ ρ : yS, (∀ q, q ≠ 98 → ρ q = τ q) → ρ 98 = mv1 o s i (τ 98) → yR (d + 1) 116 38 [some (.ref 97), some (.int (nI k)), some (.int (nI o)), some (.int (nI s)), some (.int (nI i))] [] ρ (qI K) := by
    intro m
    induction m with
    | zero =>
      intro i hi hoi ρ a b
      have e : i = 85 - s := by omega
      refine w_116_38 ⟨fun _ => loop2 (7 - k) k (by omega) (Nat.le_refl _) ρ a ?_, fun q => ?_⟩
      · rw [b, ← e]
        funext j
        unfold mv2
        rw [if_neg (by omega)]
      · rw [nI_add] at q
        have : i + s = 85 := by omega
        rw [this] at q
        exact absurd (by decide) q
    | succ m ih =>
      intro i hi hoi ρ a b
      refine w_116_38 ?_
      rw [nI_add, nI_1, nI_clamp (by omega), nI_clamp (by omega)]
      refine ⟨fun q => absurd q (nI_ge (a := i + s) (b := 85) (by omega) (by omega)), fun _ => ⟨vp_in_nI (by omega) (by decide), vp_in_nI (by omega) (by decide), ih (i + 1) (by omega) (by omega) _ (fun q hq => (kp_sg hq).trans (a q hq)) (mv1_step hoi b)⟩⟩
  refine loop1 (85 - s - o) o (by omega) (Nat.le_refl _) τ (fun _ _ => rfl) ?_
  funext j
  unfold mv1
  rw [if_neg (by omega)]
/-- which line stands where, behind a drop -/
def dk (k j : Nat) : Nat := if j < k then j else j + 1
theorem sumN_dk_lo {sz : Nat → Nat} {k : Nat} : ∀ j, j ≤ k → sumN (fun i => sz (dk k i)) j = sumN sz j := by
  intro j
  induction j with
  | zero => intro _; rfl
  | succ j ih =>
    intro h
    show sumN _ j + sz (dk k j) = sumN sz j + sz j
    rw [ih (by omega)]
    unfold dk
    rw [if_pos (by omega)]
theorem sumN_dk_hi {sz : Nat → Nat} {k : Nat} : ∀ m, sumN (fun i => sz (dk k i)) (k + m) + sz k = sumN sz (k + m + 1) := by
  intro m
  induction m with
  | zero =>
    show sumN _ k + sz k = sumN sz k + sz k
    rw [sumN_dk_lo k (Nat.le_refl _)]
  | succ m ih =>
    show sumN _ (k + m) + sz (dk k (k + m)) + sz k = sumN sz (k + m + 1) + sz (k + m + 1)
    have : dk k (k + m) = k + m + 1 := by unfold dk; rw [if_neg (by omega)]
    rw [this]; omega
theorem PRc.drop {σ' : yS} {n k : Nat} {f f' : Nat → Int32} {cb sz tp : Nat → Nat} (hP : PRc σ 2 f n cb sz tp) (hk : k < n) (s1 : ∀ q, 3 ≤ q → q ≤ 6 → σ' q = σ q) (s12 : σ' 12 = σ 12) (s2 : ∀ q, 7 ≤ q → q ≤ 11 → σ' q = shf k (n - 1) (σ q)) (s4 : σ' 2 10 = nI (n - 1)) (f0 : f' 0 = nI (n - 1)) (hf : ∀ j, j ≠ 0 → f' j = mv2 k 7 (mv1 (25 + sumN sz k) (sz k) (85 - sz k) f) j) : PRc σ' 2 f' (n - 1) (fun j => cb (dk k j)) (fun j => sz (dk k j)) (fun j => tp (dk k j)) := by
  obtain ⟨h1, h2, h3, h4, h5, h6⟩ := hP
  have hs : sumN (fun j => sz (dk k j)) (n - 1) + sz k = sumN sz n := by
    have := sumN_dk_hi (sz := sz) (k := k) (n - 1 - k)
    rw [show k + (n - 1 - k) = n - 1 by omega, show n - 1 + 1 = n by omega] at this
    exact this
  have m1 : ∀ (a j : Nat), a = 1 ∨ a = 9 ∨ a = 17 → j < n - 1 → f' (a + j) = f (a + dk k j) := fun a j ha hj => by
    have b1 : ∀ i, 1 ≤ i → i ≤ 24 → mv1 (25 + sumN sz k) (sz k) (85 - sz k) f i = f i := fun i g1 g2 => by unfold mv1; rw [if_neg (by omega)]
    rw [hf _ (by omega)]
    unfold mv2 dk
    by_cases e : j < k
    · rw [if_pos e, if_neg (by omega)]; exact b1 _ (by omega) (by omega)
    · rw [if_neg e, if_pos (by omega)]; exact b1 _ (by omega) (by omega)
  have mH : ∀ i, 25 ≤ i → f' i = mv1 (25 + sumN sz k) (sz k) (85 - sz k) f i := fun i g => by
    rw [hf _ (by omega)]; unfold mv2; rw [if_neg (by omega)]
  have c2 : ∀ q j, 7 ≤ q → q ≤ 11 → j < n - 1 → σ' q j = σ q (dk k j) := fun q j g1 g2 hj => by
    rw [s2 q g1 g2]; unfold shf dk
    by_cases e : j < k
    · rw [if_pos e, if_neg (by omega)]
    · rw [if_neg e, if_pos (by omega)]
  refine ⟨by omega, s4, f0, by omega, fun j hj => ?_, fun x hx => ?_⟩
  · have hdj : dk k j < n := by unfold dk; split <;> omega
    obtain ⟨l1, l2, l3, l4, l5, l6, l7, l8, l9, l10, l11⟩ := h5 (dk k j) hdj
    have hsum : sumN sz (dk k j) + sz (dk k j) ≤ 60 := by
      have : sumN sz (dk k j + 1) ≤ sumN sz n := sumN_le (by omega)
      have e : sumN sz (dk k j + 1) = sumN sz (dk k j) + sz (dk k j) := rfl
      omega
    have hw : ∀ i, i < sz (dk k j) → f' (25 + sumN (fun j => sz (dk k j)) j + i) = f (25 + sumN sz (dk k j) + i) := fun i hi => by
      rw [mH _ (by omega)]
      unfold mv1
      by_cases e : j < k
      · have ed : dk k j = j := by unfold dk; rw [if_pos e]
        rw [ed] at hi ⊢
        rw [sumN_dk_lo j (by omega)]
        have : sumN sz (j + 1) ≤ sumN sz k := sumN_le (by omega)
        have e1 : sumN sz (j + 1) = sumN sz j + sz j := rfl
        rw [if_neg (by omega)]
      · have ed : dk k j = j + 1 := by unfold dk; rw [if_neg e]
        rw [ed] at hi hsum ⊢
        have hh := sumN_dk_hi (sz := sz) (k := k) (j - k)
        rw [show k + (j - k) = j by omega] at hh
        have h9 : sumN sz (k + 1) ≤ sumN sz (j + 1) := sumN_le (by omega)
        have e1 : sumN sz (k + 1) = sumN sz k + sz k := rfl
        rw [if_pos (by omega)]
        congr 1; omega
    show PLn (σ' 3) (σ' 4) (σ' 5) (σ' 6) (σ' 7) (σ' 8) (σ' 9) (σ' 10) (σ' 11) f' _ _ _ j
    unfold PLn
    rw [c2 8 j (by omega) (by omega) hj, c2 9 j (by omega) (by omega) hj, c2 7 j (by omega) (by omega) hj, c2 10 j (by omega) (by omega) hj, c2 11 j (by omega) (by omega) hj, m1 1 j (by omega) hj, m1 9 j (by omega) hj, m1 17 j (by omega) hj, s1 3 (by omega) (by omega), s1 4 (by omega) (by omega), s1 5 (by omega) (by omega), s1 6 (by omega) (by omega)]
    refine ⟨l1, l2, l3, l4, l5, l6, l7, l8, l9.cong (fun i g1 g2 => ⟨rfl, rfl, rfl, rfl, hw i (by omega)⟩), ?_, ?_⟩
    · rw [bitR_cong (w := fun i => f (25 + sumN sz (dk k j) + i)) (sz (dk k j)) 0 0 (fun i g1 g2 => hw i (by omega))]; exact l10
    · rw [bitR_cong (w := fun i => f (25 + sumN sz (dk k j) + i)) (sz (dk k j)) 0 0 (fun i g1 g2 => hw i (by omega))]; exact l11
  · have e : f' (85 + x) = f (85 + x) := by
      rw [mH _ (by omega)]
      unfold mv1
      rw [if_neg (by omega)]
    show σ' 12 x = _ ∧ _
    rw [s12, e]; exact h6 x hx
theorem op_drops {k : Int32} (h : Inv σ) : yR (d + 200) 56 0 [some (.ref 0), some (.int k)] [] σ (qI (fun r σ1 => yR (d + 200) 116 0 [some (.ref 97), some (.int k), none, none, none] [] σ1 (qI (fun r' σ2 => r = r' ∧ Inv σ2)))) := by
  obtain ⟨h1, h2, ⟨n, cb, sz, tp, hP⟩, ⟨c, o, c1, c2, c3, c4, c5, c6⟩, h5⟩ := id h
  have hn := hP.1
  refine w_56_0 (sp_isLine hn hP.2.1 (fun j hj e => br_t1 ?_) (fun q => br_f1 (sp_bad (w_116_0 (sm_isLine hn hP.2.2.1 (fun j hj e => absurd e (q j hj)) (fun _ => br_f1 (bad2 h)))))))
  subst e
  have en : nI n - 1 = nI (n - 1) := pk_sub (a := n) (b := 1) (by omega)
  refine sp_leaveState c1 c2 c3 c4 (sp_drop hn hj (by rw [kp_sg (by decide), lv_kp (by omega)]; exact hP.2.1) (fun σ3 a1 a2 a3 a4 => ?_))
  have k1 : ∀ q, q < 27 ∨ q = 28 ∨ (83 < q ∧ q ≠ 90) → (sg (lvC c o σ) 90 0 0) q = σ q := fun q hq => by
    rw [kp_sg (by omega)]; exact lv_kp (by omega)
  have m1 : ∀ q, q ≠ 2 → ¬ (7 ≤ q ∧ q ≤ 11) → q < 27 ∨ q = 28 ∨ (83 < q ∧ q ≠ 90) → σ3 q = σ q := fun q x1 x2 x3 => (a1 q x1 x2).trans (k1 q x3)
  have h98 : σ3 98 = σ 98 := m1 98 (by decide) (by omega) (by omega)
  have hL : ∀ i, i < n → σ 98 (9 + i) = nI (sz i) := fun i hi => (hP.2.2.2.2.1 i hi).2.2.2.1
  have hsum : sumN sz j + sz j ≤ 60 := by
    have : sumN sz (j + 1) ≤ sumN sz n := sumN_le (by omega)
    have e : sumN sz (j + 1) = sumN sz j + sz j := rfl
    have := hP.2.2.2.1
    omega
  have hs1 := (hP.2.2.2.2.1 j hj).2.2.2.2.2.2.1
  refine w_116_0 (sm_isLine hn (by rw [h98]; exact hP.2.2.1) (fun i hi e => br_t1 (sm_hold (fun ρ b1 b2 => ?_))) (fun q => absurd rfl (q j hj)))
  have r98 : ρ 98 = σ 98 := (b1 98 (by decide)).trans h98
  have e9 : (9 : Int32) + nI j = nI (9 + j) := nI_add 9 j
  refine sm_begin (sz := sz) (by omega) (fun i hi => by rw [r98]; exact hL i (by omega)) ⟨by rw [e9]; exact vp_in_nI (by omega) (by decide), ?_⟩
  rw [e9, nI_clamp (by omega), r98, hL j hj]
  refine sm_drop (by omega) (by omega) hs1 (by omega) (fun ρ2 g1 g2 => sm_push (c := c) c1 (by rw [kp_sg (by decide), g1 97 (by decide), b1 97 (by decide), m1 97 (by decide) (by omega) (by omega)]; exact c5) (fun ρ' a' b' p3 p4 p5 => ?_))
  have z0 : ρ2 98 0 = nI n := by
    rw [g2, r98]
    unfold mv2 mv1
    rw [if_neg (by omega), if_neg (by omega)]; exact hP.2.2.1
  have q98 : ρ' 98 = (sg ρ2 98 0 (nI (n - 1))) 98 := by rw [a' 98 (by decide) (by decide), z0, en]
  have f1 : ∀ q, q ≠ 97 → q ≠ 98 → q ≠ 99 → q ≠ 100 → ρ' q = σ3 q := fun q h1 h2 h3 h4 => by
    rw [a' q h4 h1, kp_sg h2, g1 q h2]; exact b1 q h3
  have m2 : ∀ q, q ≠ 2 → ¬ (7 ≤ q ∧ q ≤ 11) → q < 27 ∨ q = 28 ∨ (83 < q ∧ q ≠ 90 ∧ q ≠ 97 ∧ q ≠ 98 ∧ q ≠ 99 ∧ q ≠ 100) → ρ' q = σ q := fun q x1 x2 x3 => by
    rw [f1 q (by omega) (by omega) (by omega) (by omega)]; exact m1 q x1 x2 (by omega)
  have f97 : ∀ k, k ≠ 3 → ρ' 97 k = σ 97 k := fun k hk => by
    rw [b' k hk, kp_sg (by decide), g1 97 (by decide), b1 97 (by decide), m1 97 (by decide) (by omega) (by omega)]
  refine ⟨?_, h1.fr (fun k _ => by rw [m2 0 (by omega) (by omega) (by omega)]) (m2 101 (by omega) (by omega) (by omega)), h2.fr (by rw [m2 0 (by omega) (by omega) (by omega)]) (m2 1 (by omega) (by omega) (by omega)) (f97 6 (by omega)) (m2 102 (by omega) (by omega) (by omega)), ⟨n - 1, _, _, _, hP.drop (k := j) hj (fun q x1 x2 => m2 q (by omega) (by omega) (by omega)) (m2 12 (by omega) (by omega) (by omega)) (fun q x1 x2 => ?_) ?_ ?_ (fun i hi => ?_)⟩, ?_, Or.inl ?_⟩
  · rw [a3, q98, sg_same]
  · rw [f1 q (by omega) (by omega) (by omega) (by omega), a4 q x1 x2, k1 q (by omega)]
  · rw [f1 2 (by decide) (by decide) (by decide) (by decide)]; exact a3
  · rw [q98, sg_same]
  · rw [q98, sg_ne _ _ _ hi, g2, r98]
  · refine hist_step c1 c2 c3 c4 hP c6 (fun q hq => ?_) p3 (fun i j hi hj => ?_) (fun j hj => ?_)
    · rw [f1 q (by omega) (by omega) (by omega) (by omega), a1 q (by omega) (by omega), kp_sg (by omega)]
    · rw [p4 i j hi hj, kp_sg (by decide), g1 100 (by decide), b1 100 (by decide), m1 100 (by omega) (by omega) (by omega)]
    · rw [p5 j hj, kp_sg (by decide), g1 99 (by decide), b2 j hj, h98]
  · rw [f1 90 (by decide) (by decide) (by decide) (by decide), a1 90 (by decide) (by omega)]
    exact sg_same _ _ _ _
end DROPS
