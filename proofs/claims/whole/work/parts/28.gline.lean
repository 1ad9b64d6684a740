/-! THE REFERENCE'S goLine against a run of the class's asking (a ghost γ) -/
section GL
variable (kd lf rt nb w ak : Nat → Int32) (mb cb sz tp : Nat)
/-- both machines stand before the line's next result -/
def BR (q : Nat) (γ τ : yS) : Prop := PC kd lf rt nb γ ∧ PM mb w ak τ ∧ TS kd lf rt nb w (akp ak) cb γ τ 60 0 (sz - 1) tp ∧ VR γ τ ∧ γ 84 8 = 0 ∧ τ 97 26 = 0 ∧ WR q γ τ
/-- the line is at its end -/
def ER (γ τ : yS) : Prop := PC kd lf rt nb γ ∧ VR γ τ ∧ (∃ q, WR q γ τ) ∧ ((γ 84 8 = 0 ∧ τ 97 26 = 0) ∨ (γ 84 8 = 1 ∧ τ 97 26 = 1))
end GL
section GL2
variable {kd lf rt nb w ak : Nat → Int32} {mb cb sz tp d : Nat} {γ τ : yS} {K : Int32 → yS → Prop}
theorem BR.er {q : Nat} (h : BR kd lf rt nb w ak mb cb sz tp q γ τ) : ER kd lf rt nb γ τ := ⟨h.1, h.2.2.2.1, ⟨q, h.2.2.2.2.2.2⟩, Or.inl ⟨h.2.2.2.2.1, h.2.2.2.2.2.1⟩⟩
theorem sm_isNext {q : Nat} (h1 : 1 ≤ sz) (h60 : sz ≤ 60) (hcb : cb + sz ≤ 60) (hmb : mb + sz ≤ 85) (hak : ak tp = -1999999) (B : BR kd lf rt nb w ak mb cb sz tp q γ τ)
    (hT : ∀ τ' q', (askC 61 (nI (cb + tp)) γ).1 = true → BR kd lf rt nb w ak mb cb sz tp q' (askC 61 (nI (cb + tp)) γ).2 τ' → τ' 97 30 = (askC 61 (nI (cb + tp)) γ).2 84 6 → FM 0 (sz - 1) τ τ' → K 1 τ')
    (hE : ∀ τ', (askC 61 (nI (cb + tp)) γ).1 = false → ER kd lf rt nb (askC 61 (nI (cb + tp)) γ).2 τ' → FM 0 (sz - 1) τ τ' → K 0 τ') :
    yR (d + 5) 132 0 [some (.ref 97), some (.int (nI tp))] [] τ (qI K) := by
  obtain ⟨B1, B2, B3, B4, B5, B6, B7⟩ := B
  have hb := B3.bd
  have hG0 : FM 0 (sz - 1) τ (sg (sg τ 97 27 (nI tp)) 97 28 1) := (FM.rf.s7 (by omega) (by omega)).s7 (by omega) (by omega)
  refine w_132_0 ?_
  refine sim_all kd lf rt nb w ak mb cb 60 61 (by omega) 0 (sz - 1) tp q γ (sg (sg τ 97 27 (nI tp)) 97 28 1) (by omega) (by omega) (by omega) B1 (B2.fr hG0) (B3.fr (fun _ _ _ => ⟨rfl, rfl, rfl, rfl⟩) (fun _ _ _ => ⟨rfl, rfl, rfl, rfl⟩)) ⟨fun y hy => B4 y hy, B5, B6, B7, rfl, rfl⟩ d (nI tp) K (fun τ' ho => ?_)
  obtain ⟨o1, o2, o3, o4⟩ := ho
  have hG : FM 0 (sz - 1) τ τ' := hG0.tr o3 (Nat.le_refl _) (Nat.le_refl _)
  have hP := B1.fr o2
  rcases o4 with ⟨b1, b2, b3, b4⟩ | ⟨b1, b2, b3⟩ | ⟨b1, b2⟩
  · obtain ⟨c1, c2, c3, ⟨q', c4, c5⟩, c6, c7, c8, c9⟩ := b2
    exact w_132_10 ⟨fun _ => ⟨fun q => absurd c3 q, fun _ => ⟨fun q => absurd (c7.symm.trans q) one_ne, fun _ => hT τ' q' b1 ⟨hP, o1, b4, c1, c2, c3, c5⟩ c8 hG⟩⟩, fun q => absurd (b3.trans hak) q⟩
  · obtain ⟨c1, c2, c3, ⟨q', c4, c5⟩, c6, c7⟩ := b2
    exact w_132_10 ⟨fun _ => ⟨fun q => absurd c3 q, fun _ => ⟨fun _ => hE τ' b1 ⟨hP, c1, ⟨q', c5⟩, Or.inl ⟨c2, c3⟩⟩ hG, fun q => absurd c7 q⟩⟩, fun q => absurd (b3.trans hak) q⟩
  · have fin : K 0 τ' := hE τ' b1 ⟨hP, b2.1, ⟨1000, b2.2.2.2⟩, Or.inr ⟨b2.2.1, b2.2.2.1⟩⟩ hG
    have hne : ¬ τ' 97 26 = 0 := by rw [b2.2.2.1]; exact one_ne
    exact w_132_10 ⟨fun _ => ⟨fun _ => fin, fun q => absurd q hne⟩, fun _ => ⟨fun _ => fin, fun q => absurd q hne⟩⟩
/-- a run of askings, with what is done to the ghost behind each result -/
def glC (U : Nat → yS → yS) (root : Int32) : Nat → Nat → yS → Nat × yS
  | 0, n, γ => (n, γ)
  | m + 1, n, γ => if (askC 61 root γ).1 = true then glC U root m (n + 1) (U n (askC 61 root γ).2) else (n, (askC 61 root γ).2)
/-- which cells of the reference a line may change -/
def FX (τ τ' : yS) : Prop := (∀ c, c < 97 ∨ (97 < c ∧ c < 108) ∨ 114 < c → τ' c = τ c) ∧ ∀ j, j < 24 ∨ 33 < j → τ' 97 j = τ 97 j
theorem FX.rf {τ : yS} : FX τ τ := ⟨fun _ _ => rfl, fun _ _ => rfl⟩
theorem FX.tr {a b c : yS} (h : FX a b) (g : FX b c) : FX a c := ⟨fun q hq => (g.1 q hq).trans (h.1 q hq), fun j hj => (g.2 j hj).trans (h.2 j hj)⟩
theorem FM.fx {lo hi : Nat} {a b : yS} (h : FM lo hi a b) : FX a b := ⟨fun c hc => h.1 c (by omega) (by omega) (by omega) (by omega) (by omega) (by omega), fun j hj => h.2.2 j (by omega)⟩
/-- what the reference does at a result -/
def stM (τ : yS) : yS := sg (sg τ 114 (τ 97 33).toNatClampNeg (τ 97 30)) 97 33 (τ 97 33 + 1)
theorem gl_loop {k every : Int32} {kn : Nat} (U : Nat → yS → yS) (T E : Nat → yS → yS → Prop) (hk : k = nI kn) (hk8 : kn < 8) (h1 : 1 ≤ sz) (h60 : sz ≤ 60) (hcb : cb + sz ≤ 60) (hmb : mb + sz ≤ 85) (hak : ak tp = -1999999)
    (hU : ∀ n γ c, c < 90 → (U n γ) c = γ c) (most : Nat) (h30 : most ≤ 30)
    (hfr : ∀ n γ τ r τ', n < most → T n γ τ → r = askC 61 (nI (cb + tp)) γ → r.1 = false → (∀ c, 89 < c → r.2 c = γ c) → τ' 114 = τ 114 → τ' 97 33 = τ 97 33 → (∀ c, 114 < c → τ' c = τ c) → E n r.2 τ') (hend : ∀ γ τ, T most γ τ → E most γ τ)
    (hsz : ∀ n γ τ, n ≤ most → T n γ τ → ∃ s : Nat, τ 97 33 = nI s ∧ s ≤ 240 + n - most)
    (hst : ∀ n γ τ r τ1, n < most → T n γ τ → r = askC 61 (nI (cb + tp)) γ → r.1 = true → τ1 114 = τ 114 → τ1 97 33 = τ 97 33 → (∀ c, 114 < c → τ1 c = τ c) → τ1 97 30 = r.2 84 6 → (∀ c, 89 < c → r.2 c = γ c) → T (n + 1) (U n r.2) (stM τ1)) :
    ∀ (m n : Nat), n + m = most → ∀ (γ τ : yS) (q : Nat) (KV : yS → Prop), τ 98 (17 + kn) = nI tp → BR kd lf rt nb w ak mb cb sz tp q γ τ → T n γ τ →
      (∀ τ', ER kd lf rt nb (glC U (nI (cb + tp)) m n γ).2 τ' → E (glC U (nI (cb + tp)) m n γ).1 (glC U (nI (cb + tp)) m n γ).2 τ' → FX τ τ' → KV (sg (sg (sg τ' 115 kn (nI (glC U (nI (cb + tp)) m n γ).1)) 116 kn (τ' 97 25)) 117 kn (τ' 97 26))) →
      yR (d + 6) 133 19 [some (.ref 97), some (.int k), some (.int every), some (.int (nI most)), some (.int (nI n))] [] τ (qV KV) := by
  subst hk
  have ek : (nI kn).toNatClampNeg = kn := nI_clamp (by omega)
  have hv : vp_in (nI kn) 8 := vp_in_nI hk8 (by decide)
  have e17 : (17 : Int32) + nI kn = nI (17 + kn) := nI_add 17 kn
  have bo : ∀ γ τ : yS, ER kd lf rt nb γ τ → yBo (τ 97 26) := fun γ τ h => by
    rcases h.2.2.2 with h | h
    · exact Or.inl h.2
    · exact Or.inr h.2
  intro m
  induction m with
  | zero =>
    intro n hn γ τ q KV ht B hT hK
    have e : n = most := by omega
    subst e
    refine w_133_19 ⟨fun _ => ⟨hv, bo _ _ B.er, ?_⟩, fun z => absurd (Int32.le_refl _) z⟩
    rw [ek]
    exact hK τ B.er (hend _ _ hT) FX.rf
  | succ m ih =>
    intro n hn γ τ q KV ht B hT hK
    refine w_133_19 ⟨fun z => absurd z (nI_ge (by omega) (by omega)), fun _ => ⟨by rw [e17]; exact vp_in_nI (by omega) (by decide), ?_⟩⟩
    rw [e17, nI_clamp (by omega), ht]
    refine sm_isNext h1 h60 hcb hmb hak B (fun τ' q' b1 b2 b3 b4 => br_t2 ?_) (fun τ' b1 b2 b3 => br_f2 ⟨hv, bo _ _ b2, ?_⟩)
    · have x14 : τ' 114 = τ 114 := b4.1 114 (by decide) (by decide) (by decide) (by decide) (by decide) (by decide)
      have x33 : τ' 97 33 = τ 97 33 := b4.2.2 33 (by omega)
      have x15 : ∀ c, 114 < c → τ' c = τ c := fun c hc => b4.1 c (by omega) (by omega) (by omega) (by omega) (by omega) (by omega)
      obtain ⟨s, hs1, hs2⟩ := hsz n γ τ (by omega) hT
      refine ⟨by rw [x33, hs1]; exact vp_in_nI (by omega) (by decide), ?_⟩
      rw [nI_1]
      have hT2 := hst n γ τ _ τ' (by omega) hT rfl b1 x14 x33 x15 b3 (fun c hc => ask_kp (by omega) _ _ _)
      have hFS : FX τ' (stM τ') := by
        refine ⟨fun c hc => ?_, fun j hj => ?_⟩
        · unfold stM; rw [kp_sg (by omega), kp_sg (by omega)]
        · unfold stM; rw [sg_ne _ _ _ (by omega), kp_sg (by omega)]
      refine ih (n + 1) (by omega) (U n (askC 61 (nI (cb + tp)) γ).2) (stM τ') q' KV ?_ ?_ hT2 ?_
      · rw [hFS.1 98 (by omega), b4.fx.1 98 (by omega)]; exact ht
      · obtain ⟨B1, B2, B3, B4, B5, B6, B7⟩ := b2
        have u : ∀ c, c < 90 → (U n (askC 61 (nI (cb + tp)) γ).2) c = (askC 61 (nI (cb + tp)) γ).2 c := fun c hc => hU n _ c hc
        refine ⟨⟨(u 3 (by omega)).trans B1.1, (u 4 (by omega)).trans B1.2.1, (u 5 (by omega)).trans B1.2.2.1, (u 6 (by omega)).trans B1.2.2.2⟩, B2, ?_, ?_, ?_, B6, ?_⟩
        · exact B3.fr (fun j _ _ => by rw [u 86 (by omega), u 87 (by omega), u 88 (by omega), u 89 (by omega)]; exact ⟨rfl, rfl, rfl, rfl⟩) (fun j _ _ => ⟨rfl, rfl, rfl, rfl⟩)
        · intro y hy
          rw [u 85 (by omega)]
          exact B4 y hy
        · rw [u 84 (by omega)]; exact B5
        · refine ⟨?_, B7.2.1, B7.2.2⟩
          rw [u 84 (by omega)]; exact B7.1
      · intro τ'' e1 e2 e3
        have eq : glC U (nI (cb + tp)) (m + 1) n γ = glC U (nI (cb + tp)) m (n + 1) (U n (askC 61 (nI (cb + tp)) γ).2) := by
          conv => lhs; unfold glC
          rw [b1, if_pos rfl]
        rw [eq] at hK
        exact hK τ'' e1 e2 (b4.fx.tr (hFS.tr e3))
    · rw [ek]
      have eq : glC U (nI (cb + tp)) (m + 1) n γ = (n, (askC 61 (nI (cb + tp)) γ).2) := by
        conv => lhs; unfold glC
        rw [b1, if_neg (by decide)]
      rw [eq] at hK
      refine hK τ' b2 (hfr n γ τ _ _ (by omega) hT rfl b1 (fun c hc => ask_kp (by omega) _ _ _) (b3.1 114 (by decide) (by decide) (by decide) (by decide) (by decide) (by decide)) (b3.2.2 33 (by omega)) (fun c hc => b3.1 c (by omega) (by omega) (by omega) (by omega) (by omega) (by omega))) b3.fx
end GL2
