/-! THE SIMULATION: asking a node of the class's machine, and the reference's walk from that node until it is back at its asker -/
def PC (kd lf rt nb : Nat → Int32) (σ : yS) : Prop := σ 3 = kd ∧ σ 4 = lf ∧ σ 5 = rt ∧ σ 6 = nb
def PM (mb : Nat) (w ak : Nat → Int32) (τ : yS) : Prop := τ 97 24 = nI mb ∧ (∀ j, τ 98 (mb + j) = w j) ∧ τ 108 = ak
def VR (σ τ : yS) : Prop := ∀ x, x < 4 → σ 85 x = τ 112 x ∧ Num (σ 85 x)
def WR (q : Nat) (σ τ : yS) : Prop := σ 84 7 = nI q ∧ τ 97 25 = nI q ∧ q ≤ 1000
def akp (ak : Nat → Int32) (c i : Nat) : Prop := ak c = nI i
/-- a result came; none came; the line was cut -/
def OT (q : Nat) (σ τ : yS) : Prop := VR σ τ ∧ σ 84 8 = 0 ∧ τ 97 26 = 0 ∧ (∃ q', q < q' ∧ WR q' σ τ) ∧ τ 97 28 = 0 ∧ τ 97 29 = 1 ∧ τ 97 30 = σ 84 6 ∧ Num (σ 84 6)
def ON (q : Nat) (σ τ : yS) : Prop := VR σ τ ∧ σ 84 8 = 0 ∧ τ 97 26 = 0 ∧ (∃ q', q ≤ q' ∧ WR q' σ τ) ∧ τ 97 28 = 0 ∧ τ 97 29 = 0
def OC (σ τ : yS) : Prop := VR σ τ ∧ σ 84 8 = 1 ∧ τ 97 26 = 1 ∧ WR 1000 σ τ
def IN (q i : Nat) (σ τ : yS) : Prop := VR σ τ ∧ σ 84 8 = 0 ∧ τ 97 26 = 0 ∧ WR q σ τ ∧ τ 97 27 = nI i ∧ τ 97 28 = 1
section SIMV
variable (kd lf rt nb w ak : Nat → Int32) (mb cb : Nat)
def oAll (f lo hi i q : Nat) (σ τ : yS) (r : Bool × yS) (τ' : yS) : Prop :=
  PM mb w ak τ' ∧ FC (cb + lo) (cb + hi) σ r.2 ∧ FM lo hi τ τ' ∧
  ((r.1 = true ∧ OT q r.2 τ' ∧ τ' 97 27 = ak i ∧ TS kd lf rt nb w (akp ak) cb r.2 τ' f lo hi i) ∨ (r.1 = false ∧ ON q r.2 τ' ∧ τ' 97 27 = ak i) ∨ (r.1 = false ∧ OC r.2 τ'))
def SIM (f F : Nat) : Prop := ∀ (lo hi i q : Nat) (σ τ : yS), hi < 60 → cb + hi < 60 → mb + hi < 89 → PC kd lf rt nb σ → PM mb w ak τ → TS kd lf rt nb w (akp ak) cb σ τ f lo hi i → IN q i σ τ →
  ∀ (d : Nat) (v : Int32) (K : Int32 → yS → Prop), (∀ τ', oAll kd lf rt nb w ak mb cb f lo hi i q σ τ (askC F (nI (cb + i)) σ) τ' → mLP d v K τ') → mLP d v K τ
end SIMV
section SIM1
variable {kd lf rt nb w ak : Nat → Int32} {mb cb d : Nat} {v : Int32} {K : Int32 → yS → Prop} {σ τ : yS}
theorem PC.fr {lo hi : Nat} {σ' : yS} (h : PC kd lf rt nb σ) (g : FC lo hi σ σ') : PC kd lf rt nb σ' :=
  ⟨(g.1 3 (by omega)).trans h.1, (g.1 4 (by omega)).trans h.2.1, (g.1 5 (by omega)).trans h.2.2.1, (g.1 6 (by omega)).trans h.2.2.2⟩
theorem PM.fr {lo hi : Nat} {τ' : yS} (h : PM mb w ak τ) (g : FM lo hi τ τ') : PM mb w ak τ' :=
  ⟨(g.2.2 24 (by omega)).trans h.1, fun j => by rw [g.1 98 (by decide) (by decide) (by decide) (by decide) (by decide) (by decide)]; exact h.2.1 j, (g.1 108 (by decide) (by decide) (by decide) (by decide) (by decide) (by decide)).trans h.2.2⟩
theorem PM.at {i : Nat} (h : PM mb w ak τ) (h1 : τ 97 27 = nI i) (hi : i < 60) (hc : τ 97 26 = 0) (hm : mb + i < 89) : mAt τ mb i (w i) := ⟨h1, hi, hc, h.1, hm, h.2.1 i⟩
theorem WR.lt {q : Nat} (h : WR q σ τ) : σ 84 7 < 1000 ↔ q < 1000 := by
  rw [h.1]
  have := h.2.2
  exact nI_ltI (a := q) (b := 1000) (by omega) (by decide)
theorem WR.eq {q : Nat} (h : WR q σ τ) : τ 97 25 = 1000 ↔ q = 1000 := by
  rw [h.2.1]
  have := h.2.2
  exact nI_eq (a := q) (b := 1000) (by omega) (by decide)
/-- the end of an asking by a result -/
theorem yl_end {q i : Nat} {x : Int32} (hV : VR σ τ) (hc : σ 84 8 = 0) (ht : τ 97 26 = 0) (hW : WR q σ τ) (hh : τ 97 27 = nI i) (ha : τ 108 = ak) (hi : i < 60) (hx : Num x)
    (hT : ∀ σ' τ', yieldsC x σ = (true, σ') → (∀ q0, q0 ≤ q → OT q0 σ' τ') → τ' 97 27 = ak i → (∀ c, c ≠ 84 → σ' c = σ c) → (∀ c, c ≠ 97 → τ' c = τ c) → (∀ k, k < 25 ∨ 30 < k → τ' 97 k = τ 97 k) → mLP d v K τ')
    (hC : ∀ σ' τ', yieldsC x σ = (false, σ') → OC σ' τ' → (∀ c, c ≠ 84 → σ' c = σ c) → (∀ c, c ≠ 97 → τ' c = τ c) → (∀ k, k < 25 ∨ 30 < k → τ' 97 k = τ 97 k) → mLP d v K τ') : mYl d v K x τ := by
  have hq := hW.2.2
  refine ⟨fun e => ?_, fun e => ?_⟩
  · have e1 := hW.eq.mp e
    refine hC (sg σ 84 8 1) _ ?_ ⟨fun y hy => hV y hy, rfl, rfl, hW.1.trans (by rw [e1]), hW.2.1.trans (by rw [e1]), Nat.le_refl _⟩ (fun c h => sg_cell _ _ _ h) (fun c h => sg_cell _ _ _ h) (fun k h => sg_ne _ _ _ (by omega))
    unfold yieldsC
    rw [if_neg (fun z => by have := hW.lt.mp z; omega)]
  · have e0 : ¬ q = 1000 := fun z => e (hW.eq.mpr z)
    have e1 : q < 1000 := by omega
    refine hT (sg (sg σ 84 7 (σ 84 7 + 1)) 84 6 x) _ ?_ (fun q0 h0 => ⟨fun y hy => hV y hy, hc, ht, ⟨q + 1, by omega, ?_, ?_, e1⟩, rfl, rfl, rfl, hx⟩) ?_ (fun c h => ?_) (fun c h => ?_) (fun k h => ?_)
    · unfold yieldsC
      rw [if_pos (hW.lt.mpr e1)]
    · show σ 84 7 + 1 = _
      rw [hW.1, nI_1]
    · show τ 97 25 + 1 = _
      rw [hW.2.1, nI_1]
    · show τ 108 (τ 97 27).toNatClampNeg = _
      rw [hh, nI_clamp (by omega), ha]
    · rw [sg_cell _ _ _ h, sg_cell _ _ _ h]
    · unfold mYield
      rw [sg_cell _ _ _ h, sg_cell _ _ _ h, sg_cell _ _ _ h, sg_cell _ _ _ h, sg_cell _ _ _ h]
    · unfold mYield
      rw [sg_ne _ _ _ (by omega), sg_ne _ _ _ (by omega), sg_ne _ _ _ (by omega), sg_ne _ _ _ (by omega), sg_ne _ _ _ (by omega)]
theorem FC.yd {lo hi : Nat} {a b c : yS} (h : FC lo hi a b) (g : ∀ q, q ≠ 84 → c q = b q) : FC lo hi a c :=
  ⟨fun q hq => (g q (by omega)).trans (h.1 q hq), fun q j hq hj => by rw [g q (by omega)]; exact h.2 q j hq hj⟩
theorem FM.yd {lo hi : Nat} {a b c : yS} (h : FM lo hi a b) (g : ∀ q, q ≠ 97 → c q = b q) (g2 : ∀ k, k < 25 ∨ 30 < k → c 97 k = b 97 k) : FM lo hi a c :=
  ⟨fun q h1 h2 h3 h4 h5 h6 => (g q h1).trans (h.1 q h1 h2 h3 h4 h5 h6), fun q j hq hn hj => by rw [g q (by omega)]; exact h.2.1 q j hq hn hj, fun k hk => (g2 k hk).trans (h.2.2 k hk)⟩
theorem TS.yd {f lo hi i : Nat} {σ' τ' : yS} {AK : Nat → Nat → Prop} (h : TS kd lf rt nb w AK cb σ τ f lo hi i) (g1 : ∀ c, c ≠ 84 → σ' c = σ c) (g2 : ∀ c, c ≠ 97 → τ' c = τ c) : TS kd lf rt nb w AK cb σ' τ' f lo hi i :=
  h.fr (fun j _ _ => by rw [g1 86 (by decide), g1 87 (by decide), g1 88 (by decide), g1 89 (by decide)]; exact ⟨rfl, rfl, rfl, rfl⟩) (fun j _ _ => by rw [g2 109 (by decide), g2 110 (by decide), g2 111 (by decide), g2 113 (by decide)]; exact ⟨rfl, rfl, rfl, rfl⟩)
/-- the whole end of an asking by a result, in the words of SIM -/
theorem yl_all {f lo hi i q q1 : Nat} {x : Int32} {σ1 τ1 : yS} {r : Bool × yS} (hr : r = yieldsC x σ1) (hV : VR σ1 τ1) (hc : σ1 84 8 = 0) (ht : τ1 97 26 = 0) (hW : WR q1 σ1 τ1) (hq : q ≤ q1) (hh : τ1 97 27 = nI i) (hi6 : i < 60) (hx : Num x)
    (hP : PM mb w ak τ1) (hF : FC (cb + lo) (cb + hi) σ σ1) (hG : FM lo hi τ τ1) (hTS : TS kd lf rt nb w (akp ak) cb σ1 τ1 f lo hi i)
    (hK : ∀ τ', oAll kd lf rt nb w ak mb cb f lo hi i q σ τ r τ' → mLP d v K τ') : mYl d v K x τ1 := by
  refine yl_end hV hc ht hW hh hP.2.2 hi6 hx (fun σ' τ' e1 e2 e3 g1 g2 g3 => hK τ' ?_) (fun σ' τ' e1 e2 g1 g2 g3 => hK τ' ?_)
  · rw [hr, e1]
    exact ⟨hP.fr ((FM.rf (lo := lo) (hi := hi)).yd g2 g3), hF.yd g1, hG.yd g2 g3, Or.inl ⟨rfl, e2 q hq, e3, hTS.yd g1 g2⟩⟩
  · rw [hr, e1]
    exact ⟨hP.fr ((FM.rf (lo := lo) (hi := hi)).yd g2 g3), hF.yd g1, hG.yd g2 g3, Or.inr (Or.inr ⟨rfl, e2⟩)⟩
/-- the whole end of an asking by none -/
theorem no_all {f lo hi i q q1 : Nat} {σ1 τ1 : yS} {r : Bool × yS} (hr : r = (false, σ1)) (hV : VR σ1 τ1) (hc : σ1 84 8 = 0) (ht : τ1 97 26 = 0) (hW : WR q1 σ1 τ1) (hq : q ≤ q1) (hh : τ1 97 27 = nI i) (hi6 : i < 60)
    (hP : PM mb w ak τ1) (hF : FC (cb + lo) (cb + hi) σ σ1) (hG : FM lo hi τ τ1)
    (hK : ∀ τ', oAll kd lf rt nb w ak mb cb f lo hi i q σ τ r τ' → mLP d v K τ') : mLP d v K (mNone τ1) := by
  refine hK _ ?_
  rw [hr]
  refine ⟨hP.fr ((FM.rf (lo := lo) (hi := hi)).none), hF, hG.none, Or.inr (Or.inl ⟨rfl, ⟨fun y hy => hV y hy, hc, ht, ⟨q1, hq, hW.1, hW.2.1, hW.2.2⟩, rfl, rfl⟩, ?_⟩)⟩
  show τ1 108 (τ1 97 27).toNatClampNeg = _
  rw [hh, nI_clamp (by omega), hP.2.2]
/-- unfolding ask at a node -/
theorem ask_at {F n : Nat} (hn : n < 60) (hc : σ 84 8 = 0) : askC (F + 1) (nI n) σ =
      (if σ 3 n = 33 then noneC (askC F) n σ else if σ 3 n = 48 then leafC n σ else if σ 3 n = 58 then targC (askC F) n σ else if σ 3 n = 92 then frstC (askC F) n σ else if σ 3 n = 94 then targC (askC F) n σ else if σ 3 n = 97 then leafC n σ else if σ 3 n = 124 then eithC (askC F) n σ else pairC (askC F) n σ) := by
  have e : inN (nI n) 60 = true := inN_t.mpr (vp_in_nI hn (by decide))
  have e2 : (nI n).toNatClampNeg = n := nI_clamp (by omega)
  rw [askC, if_pos hc, if_pos e, e2]
theorem ask_cut {F : Nat} {n : Int32} (hc : ¬ σ 84 8 = 0) : askC F n σ = (false, σ) := by
  cases F with
  | zero => rfl
  | succ F => rw [askC, if_neg hc]
theorem sim_leaf {F f lo hi i q : Nat} (h60 : hi < 60) (hcb : cb + hi < 60) (hmb : mb + hi < 89) (hPC : PC kd lf rt nb σ) (hPM : PM mb w ak τ) (hlo : lo = i) (hhi : hi = i) (hnd : ndNum kd nb w cb i ∨ ndName kd nb w cb i)
    (hst : (σ 86 (cb + i) = 0 ∧ τ 109 i = 0) ∨ (σ 86 (cb + i) = 4 ∧ τ 109 i = 1)) (hIN : IN q i σ τ)
    (hK : ∀ τ', oAll kd lf rt nb w ak mb cb (f + 1) lo hi i q σ τ (askC (F + 1) (nI (cb + i)) σ) τ' → mLP d v K τ') : mLP d v K τ := by
  obtain ⟨hV, hc, ht, hW, hh, has⟩ := hIN
  have hi60 : i < 60 := by omega
  have hat := hPM.at hh hi60 ht (by omega)
  have hk : σ 3 (cb + i) = kd (cb + i) := by rw [hPC.1]
  have hn : σ 6 (cb + i) = nb (cb + i) := by rw [hPC.2.2.2]
  have hask : askC (F + 1) (nI (cb + i)) σ = leafC (cb + i) σ := by
    rw [ask_at (by omega) hc, hk]
    rcases hnd with ⟨h1, -⟩ | ⟨h1, -⟩ <;> rw [h1] <;> rfl
  rw [hask] at hK
  rcases hst with ⟨s1, s2⟩ | ⟨s1, s2⟩
  · have hTS : TS kd lf rt nb w (akp ak) cb (sg σ 86 (cb + i) 4) (sg τ 109 i 1) (f + 1) lo hi i := Or.inr (Or.inl ⟨sg_same _ _ _ _, sg_same _ _ _ _, hlo, hhi, hnd⟩)
    have hF : FC (cb + lo) (cb + hi) σ (sg σ 86 (cb + i) 4) := FC.rf.st (by omega) (by omega) (by omega) (by omega)
    have hG : FM lo hi τ (sg τ 109 i 1) := FM.rf.st (Or.inl rfl) (by omega) (by omega)
    rcases hnd with ⟨h1, h2, h3, h4⟩ | ⟨h1, h2, h3, h4⟩
    · refine ta_num hat has h2 s2 (yl_all (σ1 := sg σ 86 (cb + i) 4) (r := leafC (cb + i) σ) ?_ hV hc ht hW (Nat.le_refl q) hh hi60 h4 (hPM.fr hG) hF hG hTS hK)
      unfold leafC
      rw [if_pos s1, if_pos (by rw [hk]; exact h1), hn, h3]
    · obtain ⟨x, hx, ex⟩ := vp_in_of h4 (by decide)
      have exc : (nmb (w i)).toNatClampNeg = x := by rw [ex]; exact nI_clamp (by omega)
      refine ta_name hat has h2 s2 h4 (yl_all (σ1 := sg σ 86 (cb + i) 4) (r := leafC (cb + i) σ) ?_ hV hc ht hW (Nat.le_refl q) hh hi60 ?_ (hPM.fr hG) hF hG hTS hK)
      · unfold leafC
        rw [if_pos s1, if_neg (by rw [hk, h1]; decide), hn, h3, if_pos (inN_t.mpr h4), exc, (hV x hx).1]
      · rw [exc, ← (hV x hx).1]; exact (hV x hx).2
  · have hr : leafC (cb + i) σ = (false, σ) := by
      unfold leafC
      rw [if_neg (by rw [s1]; decide)]
    have hp : ¬ τ 109 i = 0 := by rw [s2]; decide
    have e9 : sg τ 109 i 1 = τ := sg_fix s2
    have fin : mLP d v K (mNone (sg τ 109 i 1)) := by
      rw [e9]
      exact no_all hr hV hc ht hW (Nat.le_refl q) hh hi60 hPM FC.rf FM.rf hK
    rcases hnd with ⟨h1, h2, h3, h4⟩ | ⟨h1, h2, h3, h4⟩
    · exact ta_leaf1_0 hat has h2 hp fin
    · exact ta_leaf1_1 hat has h2 hp fin
end SIM1
