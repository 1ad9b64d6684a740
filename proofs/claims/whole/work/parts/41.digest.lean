/-! digest -/
def dg (f : Nat → Int32) : Nat → Nat → Int64 → Int64
  | 0, _, h => h
  | m + 1, i, h => dg f m (i + 1) (31 * h + (f i).toInt64)
def dgL (σ : yS) : Nat → Nat → Int64 → Int64
  | 0, _, h => h
  | m + 1, k, h => dgL σ m (k + 1) (dg (fun i => didC σ k (nI i)) 4 0 (dg (fun i => lineC σ k (nI i)) 4 0 h))
def allC (n : Nat) (σ : yS) : Nat → Int32
  | 0 => σ 0 7
  | 1 => σ 0 8
  | 2 => σ 0 9
  | 3 => σ 0 1
  | 4 => σ 2 10
  | 5 => sumI (σ 9) n 0 0
  | _ => σ 27 2
def runC (n : Nat) (σ : yS) : Nat → Int32
  | 0 => σ 90 2
  | 1 => sumI (slt (σ 92)) n 0 0
  | 2 => sumI (σ 94) n 0 0
  | _ => sumI (σ 93) n 0 0
/-- the state of the reference while it mixes -/
def MX (σ : yS) (h : Int64) (τ : yS) : Prop := (∀ c, c ≠ 97 → τ c = σ c) ∧ (∀ j, j ≠ 37 → j ≠ 1037 → τ 97 j = σ 97 j) ∧ lgOf (τ 97 37) (τ 97 1037) = h
/-- the count of what was said stays in its row -/
def SB (σ : yS) : Prop := ∃ s : Nat, s ≤ 240 ∧ σ 90 2 = nI s
theorem SB.say {σ : yS} {v : Int32} (h : SB σ) : SB (sayC v σ) := by
  obtain ⟨s, h1, h2⟩ := h
  by_cases e : s < 240
  · rw [say_nI h2 e]
    exact ⟨s + 1, by omega, sg_same _ _ _ _⟩
  · have : s = 240 := by omega
    subst this
    unfold sayC
    rw [h2, if_neg (by decide)]
    exact ⟨240, h1, h2⟩
theorem SB.fr {σ σ' : yS} (h : SB σ) (e : σ' 90 = σ 90) : SB σ' := by unfold SB; rw [e]; exact h
theorem SB.up {σ : yS} {k n : Nat} (h : SB σ) : SB (upC k n σ) := (h.say (v := σ 84 6)).fr (by unfold upC; rw [kp_sg (by decide), kp_sg (by decide)])
theorem SB.ln {k : Nat} {root : Int32} : ∀ (m n : Nat) (σ : yS), SB σ → SB (lnC k root m n σ) := by
  intro m
  induction m with
  | zero => intro n σ h; exact h.fr (fin_kp' 90 (by omega))
  | succ m ih =>
    intro n σ h
    have h2 : SB (askC 61 root σ).2 := h.fr (ask_kp (by omega) _ _ _)
    unfold lnC
    split
    · exact ih _ _ h2.up
    · exact h2.fr (fin_kp' 90 (by omega))
theorem SB.ml {k : Nat} {σ : yS} (h : SB σ) : SB (mlC k σ) := SB.ln _ _ _ (h.fr (by unfold beginC; rw [kp_renew (by omega), kp_sg (by decide), kp_sg (by decide), kp_sg (by decide), kp_sg (by decide)]))
theorem SB.mks : ∀ (n k : Nat) (σ : yS), SB σ → SB (mksC n k σ) := by
  intro n
  induction n with
  | zero => intro k σ h; exact h
  | succ n ih => intro k σ h; exact ih _ _ h.ml
theorem make_said {n : Nat} {γ : yS} (h0 : γ 90 0 = 0) : ∃ s : Nat, s ≤ 240 ∧ (makeC n γ) 90 2 = nI s := by
  have h : SB (mksC n 0 (brunC (sg γ 90 2 0))) := SB.mks _ _ _ ⟨0, by omega, by rw [brun_kp (by decide), sg_same]; exact nI_0.symm⟩
  unfold makeC
  rw [if_pos h0]
  obtain ⟨s, h1, h2⟩ := h
  refine ⟨s, h1, ?_⟩
  unfold endC
  rw [sg_ne _ _ _ (by decide), sgA_ne _ _ (by decide)]
  exact h2
section DIGEST
variable {d : Nat} {σ τ : yS} {K : Int32 → yS → Prop} {KL : Int64 → yS → Prop} {KV : yS → Prop}
theorem upd_s {f : Nat → Int32} {k : Nat} {x : Int32} : upd f k x k = x := by simp [upd]
theorem upd_n {f : Nat → Int32} {k j : Nat} {x : Int32} (h : j ≠ k) : upd f k x j = f j := by simp [upd, h]
theorem mx_put {x : Int64} {ρ : yS} (h1 : ∀ c, c ≠ 97 → ρ c = σ c) (h2 : ∀ j, j ≠ 37 → j ≠ 1037 → ρ 97 j = σ 97 j) : MX σ x (sgA ρ 97 (upd (upd (ρ 97) 37 (lgHi x)) 1037 (lgLo x))) := by
  refine ⟨fun c hc => (sgA_ne _ _ hc).trans (h1 c hc), fun j a b => ?_, ?_⟩
  · rw [sgA_same, upd_n b, upd_n a]; exact h2 j a b
  · rw [sgA_same, upd_s, upd_n (by decide), upd_s]; exact lg_hl x
theorem sm_mix {h : Int64} {v : Int32} (hm : MX σ h τ) (hk : ∀ τ', MX σ (31 * h + v.toInt64) τ' → KV τ') : yR d 145 0 [some (.ref 97), some (.int v)] [] τ (qV KV) := by
  refine w_145_0 (hk _ ?_)
  rw [hm.2.2]
  exact mx_put hm.1 hm.2.1
theorem MX.inv {h : Int64} (hm : MX σ h τ) (hI : Inv σ) : Inv τ := hI.fr (fun c hc => hm.1 c (by omega)) (fun k hk => hm.2.1 k (by omega) (by omega))
theorem sp_all {n i : Nat} (hn : n ≤ 8) (hl : σ 2 10 = nI n) (hi : i < 7) (h : K (allC n σ i) σ) : yR (d + 1) 70 0 [some (.ref 0), some (.int (nI i))] [] σ (qI K) := by
  match i, hi with
  | 0, _ => exact w_70_0 ⟨fun _ => h, fun q => absurd rfl q⟩
  | 1, _ => exact w_70_0 ⟨fun q => absurd q (by decide), fun _ => ⟨fun _ => h, fun q => absurd rfl q⟩⟩
  | 2, _ => exact w_70_0 ⟨fun q => absurd q (by decide), fun _ => ⟨fun q => absurd q (by decide), fun _ => ⟨fun _ => h, fun q => absurd rfl q⟩⟩⟩
  | 3, _ => exact w_70_0 ⟨fun q => absurd q (by decide), fun _ => ⟨fun q => absurd q (by decide), fun _ => ⟨fun q => absurd q (by decide), fun _ => ⟨fun _ => h, fun q => absurd rfl q⟩⟩⟩⟩
  | 4, _ => exact w_70_0 ⟨fun q => absurd q (by decide), fun _ => ⟨fun q => absurd q (by decide), fun _ => ⟨fun q => absurd q (by decide), fun _ => ⟨fun q => absurd q (by decide), fun _ => ⟨fun _ => h, fun q => absurd rfl q⟩⟩⟩⟩⟩
  | 5, _ => exact w_70_0 ⟨fun q => absurd q (by decide), fun _ => ⟨fun q => absurd q (by decide), fun _ => ⟨fun q => absurd q (by decide), fun _ => ⟨fun q => absurd q (by decide), fun _ => ⟨fun q => absurd q (by decide), fun _ => ⟨fun _ => sp_sum9 hn hl h, fun q => absurd rfl q⟩⟩⟩⟩⟩⟩
  | 6, _ => exact w_70_0 ⟨fun q => absurd q (by decide), fun _ => ⟨fun q => absurd q (by decide), fun _ => ⟨fun q => absurd q (by decide), fun _ => ⟨fun q => absurd q (by decide), fun _ => ⟨fun q => absurd q (by decide), fun _ => ⟨fun q => absurd q (by decide), fun _ => h⟩⟩⟩⟩⟩⟩
theorem sm_told {n i : Nat} {cb sz tp : Nat → Nat} (hI : Inv τ) (hP : PRc τ 2 (τ 98) n cb sz tp) (hi : i < 7) (h : K (allC n τ i) τ) : yR (d + 2) 143 0 [some (.ref 97), some (.int (nI i))] [] τ (qI K) := by
  obtain ⟨⟨a1, a2, a3⟩, ⟨t, t1, t2, t3, t4⟩, -, ⟨c, o, c1, c2, c3, c4, c5, c6⟩, -⟩ := hI
  have hn := hP.1
  match i, hi with
  | 0, _ => exact w_143_0 ⟨fun q => absurd q (by decide), fun _ => ⟨inN_t.mp (by decide), a1 ▸ h⟩⟩
  | 1, _ => exact w_143_0 ⟨fun q => absurd q (by decide), fun _ => ⟨inN_t.mp (by decide), a2 ▸ h⟩⟩
  | 2, _ => exact w_143_0 ⟨fun q => absurd q (by decide), fun _ => ⟨inN_t.mp (by decide), a3 ▸ h⟩⟩
  | 3, _ => exact w_143_0 ⟨fun _ => ⟨fun q => absurd rfl q, fun _ => (t2.trans t3.symm) ▸ h⟩, fun q => absurd (by decide) q⟩
  | 4, _ => exact w_143_0 ⟨fun _ => ⟨fun _ => ⟨fun q => absurd rfl q, fun _ => ⟨inN_t.mp (by decide), (hP.2.1.trans hP.2.2.1.symm) ▸ h⟩⟩, fun q => absurd q (by decide)⟩, fun q => absurd (by decide) q⟩
  | 5, _ =>
    refine w_143_0 ⟨fun _ => ⟨fun _ => ⟨fun _ => ⟨fun q => absurd rfl q, fun _ => w_92_0 ⟨inN_t.mp (by decide), ?_⟩⟩, fun q => absurd q (by decide)⟩, fun q => absurd q (by decide)⟩, fun q => absurd (by decide) q⟩
    rw [hP.2.2.1]
    refine sm_begin hn (fun j hj => (hP.2.2.2.2.1 j hj).2.2.2.1) ?_
    have s1 : sumI (τ 9) n 0 0 = sumI (fun j => nI (sz j)) n 0 0 := sumI_congr n 0 0 (fun j _ hj => ((hP.2.2.2.2.1 j (by omega)).2.2.1).trans (hP.2.2.2.2.1 j (by omega)).2.2.2.1)
    have s2 := sumI_nI (cnt := sz) n 0
    have s3 : nI (sumN sz 0) = 0 := nI_0
    rw [s3, Nat.zero_add] at s2
    have e : sumI (τ 9) n 0 0 = nI (25 + sumN sz n) - 25 := by
      rw [s1, s2, Nat.add_comm]
      have : nI (sumN sz n + 25) - nI 25 = nI (sumN sz n + 25 - 25) := pk_sub (by omega)
      rw [Nat.add_sub_cancel] at this
      exact this.symm
    rw [← e]
    exact h
  | 6, _ => exact w_143_0 ⟨fun _ => ⟨fun _ => ⟨fun _ => ⟨fun _ => (c3.trans c5.symm) ▸ h, fun q => absurd q (by decide)⟩, fun q => absurd q (by decide)⟩, fun q => absurd q (by decide)⟩, fun q => absurd (by decide) q⟩
theorem sp_runC {n i : Nat} (hn : n ≤ 8) (hl : σ 2 10 = nI n) (hi : i < 4) (h : K (runC n σ i) σ) : yR (d + 1) 68 0 [some (.ref 0), some (.int (nI i))] [] σ (qI K) := by
  match i, hi with
  | 0, _ => exact w_68_0 ⟨fun _ => h, fun q => absurd rfl q⟩
  | 1, _ => exact w_68_0 ⟨fun q => absurd q (by decide), fun _ => ⟨fun _ => by rw [hl]; exact sp_silent hn h, fun q => absurd rfl q⟩⟩
  | 2, _ => exact w_68_0 ⟨fun q => absurd q (by decide), fun _ => ⟨fun q => absurd q (by decide), fun _ => ⟨fun _ => sp_sum94 hn hl h, fun q => absurd rfl q⟩⟩⟩
  | 3, _ => exact w_68_0 ⟨fun q => absurd q (by decide), fun _ => ⟨fun q => absurd q (by decide), fun _ => ⟨fun q => absurd q (by decide), fun _ => sp_sum93 hn hl h⟩⟩⟩
theorem run_eq {n i : Nat} (hO : OE n τ) (hi : i < 4) : sumI (ranF τ (nI i)) n 0 0 = runC n τ i := by
  obtain ⟨cnt, o1, o2, o3, o4, o5, o6⟩ := hO
  unfold ranF
  match i, hi with
  | 0, _ =>
    rw [if_pos (by decide)]
    have s1 : sumI (τ 115) n 0 0 = sumI (fun j => nI (cnt j)) n 0 0 := sumI_congr n 0 0 (fun j _ hj => (o5 j (by omega)).2.1)
    have s2 := sumI_nI (cnt := cnt) n 0
    have s3 : nI (sumN cnt 0) = 0 := nI_0
    rw [s3, Nat.zero_add] at s2
    rw [s1, s2]; exact o2.symm
  | 1, _ =>
    rw [if_neg (by decide), if_pos (by decide)]
    refine sumI_congr n 0 0 (fun j _ hj => ?_)
    unfold slt
    rw [(o5 j (by omega)).1, (o5 j (by omega)).2.1]
  | 2, _ =>
    rw [if_neg (by decide), if_neg (by decide), if_pos (by decide)]
    refine sumI_congr n 0 0 (fun j _ hj => ?_)
    obtain ⟨b1, b2, b3, b4, b5, b6⟩ := o5 j (by omega)
    unfold cut1
    rw [← b4]
    rcases b5 with e | e
    · rw [e, if_pos rfl]
    · rw [e, if_neg one_ne]
  | 3, _ =>
    rw [if_neg (by decide), if_neg (by decide), if_neg (by decide)]
    exact sumI_congr n 0 0 (fun j _ hj => (o5 j (by omega)).2.2.1.symm)
theorem d4 {i : Nat} (h : i < 4) : nI i = 0 ∨ nI i = 1 ∨ nI i = 2 ∨ nI i = 3 := by
  match i, h with
  | 0, _ => exact Or.inl rfl
  | 1, _ => exact Or.inr (Or.inl rfl)
  | 2, _ => exact Or.inr (Or.inr (Or.inl rfl))
  | 3, _ => exact Or.inr (Or.inr (Or.inr rfl))
/-- the class's digest, of a state whose run is made -/
def digC (n s : Nat) (σ : yS) : Int64 := dg (σ 96) 4 0 (dg (σ 91) s 0 (dg (runC n σ) 4 0 (dgL σ n 0 (dg (σ 12) 4 0 (dg (allC n σ) 7 0 2467)))))
theorem sp_digest {n s : Nat} (hn : n ≤ 8) (hl : σ 2 10 = nI n) (hs : σ 90 2 = nI s) (hs2 : s ≤ 240) (hK : KL (digC n s σ) σ) : yR (d + 3) 65 21 [some (.ref 0), some (.long 2467), none, some (.int 0)] [] σ (qL KL) := by
  have l6 : ∀ m i : Nat, i + m = 4 → ∀ w : Int64, KL (dg (σ 96) m i w) σ → yR (d + 3) 65 165 [some (.ref 0), some (.long w), none, some (.int (nI i))] [] σ (qL KL) := by
    intro m
    induction m with
    | zero =>
      intro i hi w h
      have e : i = 4 := by omega
      subst e
      exact w_65_165 ⟨fun _ => h, fun q => absurd (by decide) q⟩
    | succ m ih =>
      intro i hi w h
      refine w_65_165 ⟨fun q => absurd q (nI_ge (a := i) (b := 4) (by omega) (by omega)), fun _ => ⟨vp_in_nI (by omega) (by decide), ?_⟩⟩
      rw [nI_clamp (by omega), nI_1]
      exact ih (i + 1) (by omega) _ h
  have l5 : ∀ m i : Nat, i + m = s → ∀ w : Int64, KL (dg (σ 96) 4 0 (dg (σ 91) m i w)) σ → yR (d + 3) 65 130 [some (.ref 0), some (.long w), none, some (.int (nI i))] [] σ (qL KL) := by
    intro m
    induction m with
    | zero =>
      intro i hi w h
      have e : i = s := by omega
      subst e
      have := l6 4 0 (by omega) w h
      rw [nI_0] at this
      exact w_65_130 ⟨fun _ => this, fun q => absurd (by rw [hs]; exact Int32.le_refl _) q⟩
    | succ m ih =>
      intro i hi w h
      refine w_65_130 ⟨fun q => absurd (by rw [hs] at q; exact q) (nI_ge (by omega) (by omega)), fun _ => w_23_0 (sp_below (fun _ _ => br_t2 ⟨fun q => absurd q (nI_ge (a := i) (b := 240) (by omega) (by omega)), fun _ => ⟨vp_in_nI (by omega) (by decide), ?_⟩⟩) (fun q => ?_))⟩
      · rw [nI_clamp (by omega), nI_1]
        exact ih (i + 1) (by omega) _ h
      · rcases q with q | q
        · exact absurd q (nI_pos (by omega))
        · rw [hs] at q; exact absurd q (nI_ge (by omega) (by omega))
  have l4 : ∀ m i : Nat, i + m = 4 → ∀ w : Int64, KL (dg (σ 96) 4 0 (dg (σ 91) s 0 (dg (runC n σ) m i w))) σ → yR (d + 3) 65 104 [some (.ref 0), some (.long w), none, some (.int (nI i))] [] σ (qL KL) := by
    intro m
    induction m with
    | zero =>
      intro i hi w h
      have e : i = 4 := by omega
      subst e
      have := l5 s 0 (by omega) w h
      rw [nI_0] at this
      exact w_65_104 ⟨fun _ => this, fun q => absurd (by decide) q⟩
    | succ m ih =>
      intro i hi w h
      refine w_65_104 ⟨fun q => absurd q (nI_ge (a := i) (b := 4) (by omega) (by omega)), fun _ => sp_runC hn hl (by omega) ?_⟩
      rw [nI_1]
      exact ih (i + 1) (by omega) _ h
  have wl : ∀ (k : Nat) (KX : Int64 → yS → Prop), k < 8 → ∀ w0 : Int64, KX (dg (fun i => didC σ k (nI i)) 4 0 (dg (fun i => lineC σ k (nI i)) 4 0 w0)) σ → yR (d + 2) 66 0 [some (.ref 0), some (.long w0), none, some (.int (nI k)), none, none, none] [] σ (qL KX) := by
    intro k KX hk w0 h0
    have a2 : ∀ m i : Nat, i + m = 4 → ∀ w : Int64, KX (dg (fun i => didC σ k (nI i)) m i w) σ → yR (d + 2) 66 38 [some (.ref 0), some (.long w0), none, some (.int (nI k)), some (.long w), none, some (.int (nI i))] [] σ (qL KX) := by
      intro m
      induction m with
      | zero =>
        intro i hi w h
        have e : i = 4 := by omega
        subst e
        exact w_66_38 ⟨fun _ => h, fun q => absurd (by decide) q⟩
      | succ m ih =>
        intro i hi w h
        refine w_66_38 ⟨fun q => absurd q (nI_ge (a := i) (b := 4) (by omega) (by omega)), fun _ => sp_did hk ?_⟩
        rw [nI_1]
        exact ih (i + 1) (by omega) _ h
    have a1 : ∀ m i : Nat, i + m = 4 → ∀ w : Int64, KX (dg (fun i => didC σ k (nI i)) 4 0 (dg (fun i => lineC σ k (nI i)) m i w)) σ → yR (d + 2) 66 6 [some (.ref 0), some (.long w0), none, some (.int (nI k)), some (.long w), none, some (.int (nI i))] [] σ (qL KX) := by
      intro m
      induction m with
      | zero =>
        intro i hi w h
        have e : i = 4 := by omega
        subst e
        have := a2 4 0 (by omega) w h
        rw [nI_0] at this
        exact w_66_6 ⟨fun _ => this, fun q => absurd (by decide) q⟩
      | succ m ih =>
        intro i hi w h
        refine w_66_6 ⟨fun q => absurd q (nI_ge (a := i) (b := 4) (by omega) (by omega)), fun _ => sp_line hk ?_⟩
        rw [nI_1]
        exact ih (i + 1) (by omega) _ h
    have := a1 4 0 (by omega) w0 h0
    rw [nI_0] at this
    exact w_66_0 this
  have l3 : ∀ m i : Nat, i + m = n → ∀ w : Int64, KL (dg (σ 96) 4 0 (dg (σ 91) s 0 (dg (runC n σ) 4 0 (dgL σ m i w)))) σ → yR (d + 3) 65 78 [some (.ref 0), some (.long w), none, some (.int (nI i))] [] σ (qL KL) := by
    intro m
    induction m with
    | zero =>
      intro i hi w h
      have e : i = n := by omega
      subst e
      have := l4 4 0 (by omega) w h
      rw [nI_0] at this
      exact w_65_78 ⟨fun _ => this, fun q => absurd (by rw [hl]; exact Int32.le_refl _) q⟩
    | succ m ih =>
      intro i hi w h
      refine w_65_78 ⟨fun q => absurd (by rw [hl] at q; exact q) (nI_ge (by omega) (by omega)), fun _ => wl i _ (by omega) w ?_⟩
      rw [nI_1]
      exact ih (i + 1) (by omega) _ h
  have l2 : ∀ m i : Nat, i + m = 4 → ∀ w : Int64, KL (dg (σ 96) 4 0 (dg (σ 91) s 0 (dg (runC n σ) 4 0 (dgL σ n 0 (dg (σ 12) m i w))))) σ → yR (d + 3) 65 48 [some (.ref 0), some (.long w), none, some (.int (nI i))] [] σ (qL KL) := by
    intro m
    induction m with
    | zero =>
      intro i hi w h
      have e : i = 4 := by omega
      subst e
      have := l3 n 0 (by omega) w h
      rw [nI_0] at this
      exact w_65_48 ⟨fun _ => this, fun q => absurd (by decide) q⟩
    | succ m ih =>
      intro i hi w h
      refine w_65_48 ⟨fun q => absurd q (nI_ge (a := i) (b := 4) (by omega) (by omega)), fun _ => ⟨vp_in_nI (by omega) (by decide), ?_⟩⟩
      rw [nI_clamp (by omega), nI_1]
      exact ih (i + 1) (by omega) _ h
  have l1 : ∀ m i : Nat, i + m = 7 → ∀ w : Int64, KL (dg (σ 96) 4 0 (dg (σ 91) s 0 (dg (runC n σ) 4 0 (dgL σ n 0 (dg (σ 12) 4 0 (dg (allC n σ) m i w)))))) σ → yR (d + 3) 65 21 [some (.ref 0), some (.long w), none, some (.int (nI i))] [] σ (qL KL) := by
    intro m
    induction m with
    | zero =>
      intro i hi w h
      have e : i = 7 := by omega
      subst e
      have := l2 4 0 (by omega) w h
      rw [nI_0] at this
      exact w_65_21 ⟨fun _ => this, fun q => absurd (by decide) q⟩
    | succ m ih =>
      intro i hi w h
      refine w_65_21 ⟨fun q => absurd q (nI_ge (a := i) (b := 7) (by omega) (by omega)), fun _ => sp_all hn hl (by omega) ?_⟩
      rw [nI_1]
      exact ih (i + 1) (by omega) _ h
  have := l1 7 0 (by omega) 2467 hK
  rw [nI_0] at this
  exact this
theorem all_cl {n i : Nat} (h : ∀ c, c < 97 → τ c = σ c) : allC n τ i = allC n σ i := by
  unfold allC
  rw [h 0 (by omega), h 2 (by omega), h 9 (by omega), h 27 (by omega)]
theorem run_cl {n i : Nat} (h : ∀ c, c < 97 → τ c = σ c) : runC n τ i = runC n σ i := by
  unfold runC
  rw [h 90 (by omega), h 92 (by omega), h 94 (by omega), h 93 (by omega)]
theorem line_cl {k : Nat} {w : Int32} (h : ∀ c, c < 97 → τ c = σ c) : lineC τ k w = lineC σ k w := by
  unfold lineC
  rw [h 8 (by omega), h 9 (by omega), h 10 (by omega), h 11 (by omega)]
theorem did_cl {k : Nat} {w : Int32} (h : ∀ c, c < 97 → τ c = σ c) : didC τ k w = didC σ k w := by
  unfold didC
  rw [h 92 (by omega), h 93 (by omega), h 94 (by omega), h 95 (by omega)]
theorem MX.cl {h : Int64} (hm : MX σ h τ) : ∀ c, c < 97 → τ c = σ c := fun c hc => hm.1 c (by omega)
theorem OE.mx {n : Nat} {h : Int64} (hm : MX σ h τ) (hO : OE n σ) : OE n τ := by
  unfold OE
  rw [hm.1 90 (by decide), hm.1 91 (by decide), hm.1 92 (by decide), hm.1 93 (by decide), hm.1 94 (by decide), hm.1 95 (by decide), hm.1 96 (by decide), hm.1 112 (by decide), hm.1 114 (by decide), hm.1 115 (by decide), hm.1 116 (by decide), hm.1 117 (by decide), hm.2.1 33 (by decide) (by decide)]
  exact hO
/-- the reference's second half, from a run state σ -/
theorem sm_dig2 {n s : Nat} {cb sz tp : Nat → Nat} {w0 : Int64} (hI : Inv σ) (hP : PRc σ 2 (σ 98) n cb sz tp) (hO : OE n σ) (hs : σ 90 2 = nI s) (hs2 : s ≤ 240)
    (hK : ∀ τ', Inv τ' → KL (dg (σ 96) 4 0 (dg (σ 91) s 0 (dg (runC n σ) 4 0 (dgL σ n 0 w0)))) τ') (hm : MX σ w0 τ) : yR (d + 3) 146 62 [some (.ref 97), some (.int 0), none] [] τ (qL KL) := by
  have hn := hP.1
  have hPx : ∀ {w : Int64} {ρ : yS}, MX σ w ρ → PRc ρ 2 (ρ 98) n cb sz tp := fun hm => hP.fr (fun c a b => hm.1 c (by omega)) (hm.1 98 (by decide))
  obtain ⟨cnt, o1, o2, o3, o4, o5, o6⟩ := id hO
  have hs3 : sumN cnt n = s := by
    have := sumN_30 o1
    exact (nI_eq (by omega) (by omega)).mp (o2.symm.trans hs)
  have l6 : ∀ m i : Nat, i + m = 4 → ∀ (w : Int64) (ρ : yS), MX σ w ρ → (∀ τ', Inv τ' → KL (dg (σ 96) m i w) τ') → yR (d + 3) 146 168 [some (.ref 97), some (.int (nI i)), none] [] ρ (qL KL) := by
    intro m
    induction m with
    | zero =>
      intro i hi w ρ hm h
      have e : i = 4 := by omega
      subst e
      refine w_146_168 ⟨fun _ => ?_, fun q => absurd (by decide) q⟩
      rw [hm.2.2]
      exact h ρ (hm.inv hI)
    | succ m ih =>
      intro i hi w ρ hm h
      refine w_146_168 ⟨fun q => absurd q (nI_ge (a := i) (b := 4) (by omega) (by omega)), fun _ => ⟨vp_in_nI (by omega) (by decide), sm_mix hm (fun τ' hm' => ?_)⟩⟩
      rw [nI_clamp (by omega), hm.1 112 (by decide), ← o6 i (by omega)] at hm'
      rw [nI_1]
      exact ih (i + 1) (by omega) _ _ hm' h
  have l5 : ∀ m i : Nat, i + m = s → ∀ (w : Int64) (ρ : yS), MX σ w ρ → (∀ τ', Inv τ' → KL (dg (σ 96) 4 0 (dg (σ 91) m i w)) τ') → yR (d + 3) 146 142 [some (.ref 97), some (.int (nI i)), none] [] ρ (qL KL) := by
    intro m
    induction m with
    | zero =>
      intro i hi w ρ hm h
      have e : i = s := by omega
      subst e
      have := l6 4 0 (by omega) w ρ hm h
      rw [nI_0] at this
      exact w_146_142 ⟨fun _ => this, fun q => absurd (by rw [hm.2.1 33 (by decide) (by decide), o3, hs3]; exact Int32.le_refl _) q⟩
    | succ m ih =>
      intro i hi w ρ hm h
      refine w_146_142 ⟨fun q => absurd (by rw [hm.2.1 33 (by decide) (by decide), o3, hs3] at q; exact q) (nI_ge (by omega) (by omega)), fun _ => ⟨vp_in_nI (by omega) (by decide), sm_mix hm (fun τ' hm' => ?_)⟩⟩
      rw [nI_clamp (by omega), hm.1 114 (by decide), ← o4 i (by omega)] at hm'
      rw [nI_1]
      exact ih (i + 1) (by omega) _ _ hm' h
  have l4 : ∀ m i : Nat, i + m = 4 → ∀ (w : Int64) (ρ : yS), MX σ w ρ → (∀ τ', Inv τ' → KL (dg (σ 96) 4 0 (dg (σ 91) s 0 (dg (runC n σ) m i w))) τ') → yR (d + 3) 146 120 [some (.ref 97), some (.int (nI i)), none] [] ρ (qL KL) := by
    intro m
    induction m with
    | zero =>
      intro i hi w ρ hm h
      have e : i = 4 := by omega
      subst e
      have := l5 s 0 (by omega) w ρ hm h
      rw [nI_0] at this
      exact w_146_120 ⟨fun _ => this, fun q => absurd (by decide) q⟩
    | succ m ih =>
      intro i hi w ρ hm h
      refine w_146_120 ⟨fun q => absurd q (nI_ge (a := i) (b := 4) (by omega) (by omega)), fun _ => sm_ran hn (by rw [hm.1 98 (by decide)]; exact hP.2.2.1) (sm_mix hm (fun τ' hm' => ?_))⟩
      rw [run_eq (hO.mx hm) (by omega), run_cl hm.cl] at hm'
      rw [nI_1]
      exact ih (i + 1) (by omega) _ _ hm' h
  have lw : ∀ k : Nat, k < n → ∀ (KN : ∀ (w : Int64) (ρ : yS), Prop), (∀ w ρ, MX σ w ρ → KN w ρ → yR (d + 3) 146 62 [some (.ref 97), some (.int (nI (k + 1))), none] [] ρ (qL KL)) → ∀ (w : Int64) (ρ : yS), MX σ w ρ → (∀ ρ', KN (dg (fun i => didC σ k (nI i)) 4 0 (dg (fun i => lineC σ k (nI i)) 4 0 w)) ρ') → yR (d + 3) 146 74 [some (.ref 97), some (.int (nI k)), some (.int 0)] [] ρ (qL KL) := by
    intro k hk KN hN
    have a2 : ∀ m i : Nat, i + m = 4 → ∀ (w : Int64) (ρ : yS), MX σ w ρ → (∀ ρ', KN (dg (fun i => didC σ k (nI i)) m i w) ρ') → yR (d + 3) 146 74 [some (.ref 97), some (.int (nI k)), some (.int (nI (4 + i)))] [] ρ (qL KL) := by
      intro m
      induction m with
      | zero =>
        intro i hi w ρ hm h
        have e : i = 4 := by omega
        subst e
        refine w_146_74 ⟨fun _ => ?_, fun q => absurd (by decide) q⟩
        rw [nI_1]
        exact hN w ρ hm (h ρ)
      | succ m ih =>
        intro i hi w ρ hm h
        have e4 : nI (4 + i) - 4 = nI i := by
          have : nI (4 + i) - nI 4 = nI (4 + i - 4) := pk_sub (by omega)
          rw [show 4 + i - 4 = i by omega] at this
          exact this
        refine w_146_74 ⟨fun q => absurd q (nI_ge (a := 4 + i) (b := 8) (by omega) (by omega)), fun _ => ⟨fun _ => ?_, fun q => absurd ((nI_leI (a := 4) (b := 4 + i) (by omega) (by omega)).mpr (by omega)) q⟩⟩
        rw [e4]
        refine sm_did hn (hO.mx hm) hk (d4 (by omega)) (sm_mix hm (fun τ' hm' => ?_))
        rw [did_cl hm.cl] at hm'
        rw [nI_1]
        exact ih (i + 1) (by omega) _ _ hm' h
    have a1 : ∀ m i : Nat, i + m = 4 → ∀ (w : Int64) (ρ : yS), MX σ w ρ → (∀ ρ', KN (dg (fun i => didC σ k (nI i)) 4 0 (dg (fun i => lineC σ k (nI i)) m i w)) ρ') → yR (d + 3) 146 74 [some (.ref 97), some (.int (nI k)), some (.int (nI i))] [] ρ (qL KL) := by
      intro m
      induction m with
      | zero =>
        intro i hi w ρ hm h
        have e : i = 4 := by omega
        subst e
        exact a2 4 0 (by omega) w ρ hm h
      | succ m ih =>
        intro i hi w ρ hm h
        refine w_146_74 ⟨fun q => absurd q (nI_ge (a := i) (b := 8) (by omega) (by omega)), fun _ => ⟨fun q => absurd q (nI_ge (a := i) (b := 4) (by omega) (by omega)), fun _ => ?_⟩⟩
        refine sm_ofLine (hPx hm) hk (d4 (by omega)) (sm_mix hm (fun τ' hm' => ?_))
        rw [line_cl hm.cl] at hm'
        rw [nI_1]
        exact ih (i + 1) (by omega) _ _ hm' h
    intro w ρ hm h
    have := a1 4 0 (by omega) w ρ hm h
    rw [nI_0] at this
    exact this
  have l3 : ∀ m i : Nat, i + m = n → ∀ (w : Int64) (ρ : yS), MX σ w ρ → (∀ τ', Inv τ' → KL (dg (σ 96) 4 0 (dg (σ 91) s 0 (dg (runC n σ) 4 0 (dgL σ m i w)))) τ') → yR (d + 3) 146 62 [some (.ref 97), some (.int (nI i)), none] [] ρ (qL KL) := by
    intro m
    induction m with
    | zero =>
      intro i hi w ρ hm h
      have e : i = n := by omega
      subst e
      have := l4 4 0 (by omega) w ρ hm h
      rw [nI_0] at this
      exact w_146_62 ⟨inN_t.mp (by decide), fun _ => this, fun q => absurd (by rw [hm.1 98 (by decide), hP.2.2.1]; exact Int32.le_refl _) q⟩
    | succ m ih =>
      intro i hi w ρ hm h
      refine w_146_62 ⟨inN_t.mp (by decide), fun q => absurd (by rw [hm.1 98 (by decide), hP.2.2.1] at q; exact q) (nI_ge (by omega) (by omega)), fun _ => ?_⟩
      exact lw i (by omega) (fun w' _ => w' = dg (fun j => didC σ i (nI j)) 4 0 (dg (fun j => lineC σ i (nI j)) 4 0 w)) (fun w' ρ' hm' e => ih (i + 1) (by omega) w' ρ' hm' (by rw [e]; exact h)) w ρ hm (fun _ => rfl)
  have := l3 n 0 (by omega) w0 τ hm hK
  rw [nI_0] at this
  exact this
theorem dg_congr {f g : Nat → Int32} : ∀ (m i : Nat) (h : Int64), (∀ j, i ≤ j → j < i + m → f j = g j) → dg f m i h = dg g m i h := by
  intro m
  induction m with
  | zero => intro i h _; rfl
  | succ m ih =>
    intro i h hh
    show dg f m (i + 1) (31 * h + (f i).toInt64) = dg g m (i + 1) (31 * h + (g i).toInt64)
    rw [hh i (Nat.le_refl _) (by omega)]
    exact ih (i + 1) _ (fun j a b => hh j (by omega) (by omega))
theorem dgL_cl (h : ∀ c, c < 97 → τ c = σ c) : ∀ (m i : Nat) (w : Int64), dgL τ m i w = dgL σ m i w := by
  intro m
  induction m with
  | zero => intro i w; rfl
  | succ m ih =>
    intro i w
    unfold dgL
    rw [ih, dg_congr (g := fun j => didC σ i (nI j)) 4 0 _ (fun j _ _ => did_cl h), dg_congr (g := fun j => lineC σ i (nI j)) 4 0 _ (fun j _ _ => line_cl h)]
theorem op_digest (h : Inv σ) : yR (d + 200) 65 0 [some (.ref 0), none, none, none] [] σ (qL (fun r σ1 => yR (d + 200) 146 0 [some (.ref 97), none, none] [] σ1 (qL (fun r' σ2 => r = r' ∧ Inv σ2)))) := by
  obtain ⟨n, cb, sz, tp, hP⟩ := h.2.2.1
  have hn := hP.1
  refine w_65_0 (sp_make hn hP.2.1 ?_)
  obtain ⟨j1, j2, j3⟩ := make_inv h hP
  generalize makeC n σ = σ1 at *
  have hP1 : PRc σ1 2 (σ1 98) n cb sz tp := hP.fr (fun c a b => j3 c (by omega)) (j3 98 (by omega))
  -- the number said: as the made run has it
  have hsx : ∃ s : Nat, s ≤ 240 ∧ σ1 90 2 = nI s := by
    rcases j1.2.2.2.2 with z | ⟨-, γ, m, g0, g1, g2, g3, g4⟩
    · exact absurd (j2.symm.trans z) one_ne
    · have em : m = n := (nI_eq (by omega) (by omega)).mp (g1.symm.trans hP1.2.1)
      subst em
      rw [g4 90 (by omega) (by omega)]
      exact make_said g3
  obtain ⟨s, hs2, hs⟩ := hsx
  refine sp_digest (d := d + 197) hn hP1.2.1 hs hs2 ?_
  have hPx : ∀ {w : Int64} {ρ : yS}, MX σ1 w ρ → PRc ρ 2 (ρ 98) n cb sz tp := fun hm => hP1.fr (fun c a b => hm.1 c (by omega)) (hm.1 98 (by decide))
  have l2 : ∀ m i : Nat, i + m = 4 → ∀ (w : Int64) (ρ : yS), MX σ1 w ρ → dg (σ1 12) m i w = dg (σ1 12) 4 0 (dg (allC n σ1) 7 0 2467) → yR (d + 200) 146 32 [some (.ref 97), some (.int (nI i)), none] [] ρ (qL (fun r' σ2 => digC n s σ1 = r' ∧ Inv σ2)) := by
    intro m
    induction m with
    | zero =>
      intro i hi w ρ hm h9
      have e : i = 4 := by omega
      subst e
      refine w_146_32 ⟨fun _ => ?_, fun q => absurd (by decide) q⟩
      refine sm_run (hm.inv j1) (by rw [hm.1 90 (by decide)]; exact j2) (hPx hm) (fun τ i1 i2 i3 => ?_)
      have cl : ∀ c, c < 97 → τ c = σ1 c := fun c hc => (i3.1 c (by omega)).trans (hm.1 c (by omega))
      have e98 : τ 98 = ρ 98 := i3.1 98 (by omega)
      have hPt : PRc τ 2 (τ 98) n cb sz tp := (hPx hm).fr (fun c a b => i3.1 c (by omega)) e98
      refine sm_dig2 (d := d + 197) (σ := τ) (w0 := w) i1 hPt i2 (by rw [cl 90 (by omega)]; exact hs) hs2 (fun τ' i' => ⟨?_, i'⟩) ⟨fun _ _ => rfl, fun _ _ _ => rfl, ?_⟩
      · unfold digC
        rw [cl 96 (by omega), cl 91 (by omega), dgL_cl cl, dg_congr (f := runC n τ) (g := runC n σ1) 4 0 _ (fun j _ _ => run_cl cl)]
        have h9' : w = dg (σ1 12) 4 0 (dg (allC n σ1) 7 0 2467) := h9
        rw [← h9']
      · rw [i3.2 37 (by omega), i3.2 1037 (by omega)]; exact hm.2.2
    | succ m ih =>
      intro i hi w ρ hm h9
      have e85 : (85 : Int32) + nI i = nI (85 + i) := nI_add 85 i
      refine w_146_32 ⟨fun q => absurd q (nI_ge (a := i) (b := 4) (by omega) (by omega)), fun _ => ⟨by rw [e85]; exact vp_in_nI (by omega) (by decide), sm_mix hm (fun τ' hm' => ?_)⟩⟩
      rw [e85, nI_clamp (by omega), hm.1 98 (by decide), ← (hP1.2.2.2.2.2 i (by omega)).1] at hm'
      rw [nI_1]
      exact ih (i + 1) (by omega) _ _ hm' h9
  have l1 : ∀ m i : Nat, i + m = 7 → ∀ (w : Int64) (ρ : yS), MX σ1 w ρ → dg (allC n σ1) m i w = dg (allC n σ1) 7 0 2467 → yR (d + 200) 146 9 [some (.ref 97), some (.int (nI i)), none] [] ρ (qL (fun r' σ2 => digC n s σ1 = r' ∧ Inv σ2)) := by
    intro m
    induction m with
    | zero =>
      intro i hi w ρ hm h9
      have e : i = 7 := by omega
      subst e
      have h9' : w = dg (allC n σ1) 7 0 2467 := h9
      have := l2 4 0 (by omega) w ρ hm (by rw [h9'])
      rw [nI_0] at this
      exact w_146_9 ⟨fun _ => this, fun q => absurd (by decide) q⟩
    | succ m ih =>
      intro i hi w ρ hm h9
      refine w_146_9 ⟨fun q => absurd q (nI_ge (a := i) (b := 7) (by omega) (by omega)), fun _ => sm_told (d := d + 197) (hm.inv j1) (hPx hm) (by omega) (sm_mix hm (fun τ' hm' => ?_))⟩
      rw [all_cl hm.cl] at hm'
      rw [nI_1]
      exact ih (i + 1) (by omega) _ _ hm' h9
  have := l1 7 0 (by omega) 2467 _ (mx_put (σ := σ1) (ρ := σ1) (fun _ _ => rfl) (fun _ _ _ => rfl)) rfl
  rw [nI_0] at this
  exact w_146_0 this
end DIGEST
