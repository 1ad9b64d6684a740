section PAIR
variable {d : Nat} {σ : yS} {K : Int32 → yS → Prop} {A : Int32 → yS → Bool × yS} {n v2 : Int32}
def pairR (A : Int32 → yS → Bool × yS) (i : Nat) (G : yS → Bool × yS) (σ : yS) : Bool × yS :=
  if (A (σ 5 i) σ).1 = true then (if hasC ((A (σ 5 i) σ).2 3 i) ((A (σ 5 i) σ).2 87 i) ((A (σ 5 i) σ).2 84 6) = true then pairY i ((A (σ 5 i) σ).2 87 i) ((A (σ 5 i) σ).2 84 6) (A (σ 5 i) σ).2 else G (A (σ 5 i) σ).2) else G (sg (A (σ 5 i) σ).2 86 i 1)
def pairL (A : Int32 → yS → Bool × yS) (i : Nat) : Nat → yS → Bool × yS
  | 0, σ => (false, σ)
  | m + 1, σ => if σ 86 i = 1 then (if (A (σ 4 i) σ).1 = true then pairR A i (pairL A i m) (renewC ((A (σ 4 i) σ).2 5 i) (sg (sg (A (σ 4 i) σ).2 87 i ((A (σ 4 i) σ).2 84 6)) 86 i 2)) else (false, (A (σ 4 i) σ).2)) else pairR A i (pairL A i m) σ
def pairE (A : Int32 → yS → Bool × yS) (i : Nat) (σ : yS) : Bool × yS := if σ 86 i = 3 then (if σ 88 i ≤ σ 89 i then pairL A i 2002 (sg σ 86 i 2) else yieldsC ((sg σ 89 i (σ 89 i + 1)) 89 i) (sg σ 89 i (σ 89 i + 1))) else pairL A i 2002 σ
def pairC (A : Int32 → yS → Bool × yS) (i : Nat) (σ : yS) : Bool × yS := if σ 86 i = 0 then pairE A i (renewC (σ 4 i) (sg σ 86 i 1)) else pairE A i σ
theorem sp_pairL (hA : okA (d + 1) A (v2 + 1)) (hn : vp_in n 60) : ∀ (m j : Nat), j + m = 2002 → ∀ (σ : yS), K (b2 (pairL A n.toNatClampNeg m σ).1) (pairL A n.toNatClampNeg m σ).2 → yR (d + 1 + 1) 15 84 [some (.ref 84), some (.int n), some (.int v2), some (.int (nI j))] [] σ (qI K) := by
  intro m
  induction m with
  | zero =>
    intro j hj σ h
    have e : j = 2002 := by omega
    subst e
    exact w_15_84 ⟨fun _ => h, fun q => absurd (by decide +kernel) q⟩
  | succ m ih =>
    intro j hj σ h
    have hlt : ¬ (2002 : Int32) ≤ nI j := nI_ge (a := j) (b := 2002) (by omega) (by decide)
    have hnx : ∀ τ : yS, K (b2 (pairL A n.toNatClampNeg m τ).1) (pairL A n.toNatClampNeg m τ).2 → yR (d + 1 + 1) 15 84 [some (.ref 84), some (.int n), some (.int v2), some (.int (nI j + 1))] [] τ (qI K) := by
      intro τ hτ
      rw [nI_1]
      exact ih (j + 1) (by omega) τ hτ
    have right : ∀ τ : yS, K (b2 (pairR A n.toNatClampNeg (pairL A n.toNatClampNeg m) τ).1) (pairR A n.toNatClampNeg (pairL A n.toNatClampNeg m) τ).2 → yR (d + 1) 7 0 [some (.ref 84), some (.int (τ 5 n.toNatClampNeg)), some (.int (v2 + 1))] [] τ (qI (fun x1 σ1 => ((¬ (x1 = 0) → yR (d + 1) 16 0 [some (.ref 84), some (.int n), some (.int (σ1 87 n.toNatClampNeg)), some (.int (σ1 84 6))] [] σ1 (qI (fun x2 σ2 => (((x2 = 0) → yR (d + 1 + 1) 15 84 [some (.ref 84), some (.int n), some (.int v2), some (.int (nI j + 1))] [] σ2 (qI K)) ∧ (¬ (x2 = 0) → yR (d + 1) 17 0 [some (.ref 84), some (.int n), some (.int (σ2 87 n.toNatClampNeg)), some (.int (σ2 84 6))] [] σ2 (qI (fun x3 σ3 => (yBo x3 ∧ K x3 σ3)))))))) ∧ ((x1 = 0) → yR (d + 1 + 1) 15 84 [some (.ref 84), some (.int n), some (.int v2), some (.int (nI j + 1))] [] (sg σ1 86 n.toNatClampNeg 1) (qI K))))) := by
      intro τ h
      refine hA _ _ _ ?_
      unfold pairR at h
      cases hb : (A (τ 5 n.toNatClampNeg) τ).1 with
      | true =>
        rw [hb, if_pos rfl] at h
        refine br_t1 (sp_has hn ?_)
        cases hc : hasC ((A (τ 5 n.toNatClampNeg) τ).2 3 n.toNatClampNeg) ((A (τ 5 n.toNatClampNeg) τ).2 87 n.toNatClampNeg) ((A (τ 5 n.toNatClampNeg) τ).2 84 6) with
        | true => rw [hc, if_pos rfl] at h; exact br_t2 (sp_pairY hn ⟨b2_bo _, h⟩)
        | false => rw [hc, if_neg (by decide)] at h; exact br_f2 (hnx _ h)
      | false => rw [hb, if_neg (by decide)] at h; exact br_f1 (hnx _ h)
    unfold pairL at h
    refine w_15_84 ⟨fun q => absurd q hlt, fun _ => ⟨hn, fun q => ?_, fun q => hA _ _ _ ?_⟩⟩
    · rw [if_neg q] at h; exact right σ h
    · rw [if_pos q] at h
      cases hb : (A (σ 4 n.toNatClampNeg) σ).1 with
      | true => rw [hb, if_pos rfl] at h; exact br_t1 (sp_renew (right _ h))
      | false => rw [hb, if_neg (by decide)] at h; exact br_f1 h
theorem sp_pair (hA : okA (d + 1) A (v2 + 1)) (hn : vp_in n 60) (h : K (b2 (pairC A n.toNatClampNeg σ).1) (pairC A n.toNatClampNeg σ).2) : yR (d + 1 + 1) 15 0 [some (.ref 84), some (.int n), some (.int v2), none] [] σ (qI K) := by
  have go : ∀ τ : yS, K (b2 (pairE A n.toNatClampNeg τ).1) (pairE A n.toNatClampNeg τ).2 → ((¬ ((τ 86 n.toNatClampNeg) = 3) → yR (d + 1 + 1) 15 84 [some (.ref 84), some (.int n), some (.int v2), some (.int 0)] [] τ (qI K)) ∧ (((τ 86 n.toNatClampNeg) = 3) → ((((τ 88 n.toNatClampNeg) ≤ (τ 89 n.toNatClampNeg)) → yR (d + 1 + 1) 15 84 [some (.ref 84), some (.int n), some (.int v2), some (.int 0)] [] (sg τ 86 n.toNatClampNeg 2) (qI K)) ∧ (¬ ((τ 88 n.toNatClampNeg) ≤ (τ 89 n.toNatClampNeg)) → yR (d + 1) 8 0 [some (.ref 84), some (.int ((sg τ 89 n.toNatClampNeg ((τ 89 n.toNatClampNeg) + 1)) 89 n.toNatClampNeg))] [] (sg τ 89 n.toNatClampNeg ((τ 89 n.toNatClampNeg) + 1)) (qI (fun x1 σ1 => (yBo x1 ∧ K x1 σ1))))))) := by
    intro τ h
    unfold pairE at h
    refine ⟨fun q => ?_, fun q => ⟨fun q2 => ?_, fun q2 => ?_⟩⟩
    · rw [if_neg q] at h; exact sp_pairL hA hn 2002 0 rfl τ h
    · rw [if_pos q, if_pos q2] at h; exact sp_pairL hA hn 2002 0 rfl _ h
    · rw [if_pos q, if_neg q2] at h; exact sp_yields ⟨b2_bo _, h⟩
  unfold pairC at h
  refine w_15_0 ⟨hn, fun q => ?_, fun q => sp_renew ?_⟩
  · rw [if_neg q] at h; exact go σ h
  · rw [if_pos q] at h; exact go _ h
/-- ask: f levels may still be opened -/
def askC : Nat → Int32 → yS → Bool × yS
  | 0, _, σ => (false, σ)
  | f + 1, n, σ => if σ 84 8 = 0 then (if inN n 60 = true then
      (if σ 3 n.toNatClampNeg = 33 then noneC (askC f) n.toNatClampNeg σ
       else if σ 3 n.toNatClampNeg = 48 then leafC n.toNatClampNeg σ
       else if σ 3 n.toNatClampNeg = 58 then targC (askC f) n.toNatClampNeg σ
       else if σ 3 n.toNatClampNeg = 92 then frstC (askC f) n.toNatClampNeg σ
       else if σ 3 n.toNatClampNeg = 94 then targC (askC f) n.toNatClampNeg σ
       else if σ 3 n.toNatClampNeg = 97 then leafC n.toNatClampNeg σ
       else if σ 3 n.toNatClampNeg = 124 then eithC (askC f) n.toNatClampNeg σ
       else pairC (askC f) n.toNatClampNeg σ) else (false, σ)) else (false, σ)
theorem sp_ask : ∀ (f j d : Nat), j + f = 61 → okA (d + 2 * f + 3) (askC f) (nI j) := by
  intro f
  induction f with
  | zero =>
    intro j d hj n σ K h
    have e : j = 61 := by omega
    subst e
    refine w_7_0 ⟨fun _ => h, fun _ => ⟨fun _ => h, fun q => absurd (by decide +kernel) q⟩⟩
  | succ f ih =>
    intro j d hj n σ K h
    have hA : okA (d + 2 * f + 3) (askC f) (nI j + 1) := by rw [nI_1]; exact ih (j + 1) d (by omega)
    have hj60 : ¬ (60 : Int32) < nI j := nI_nlt (a := 60) (b := j) (by omega) (by decide)
    show yR (d + 2 * f + 2 + 1 + 1 + 1) 7 0 _ _ _ _
    have hA' : okA (d + 2 * f + 2 + 1) (askC f) (nI j + 1) := hA
    unfold askC at h
    refine w_7_0 ⟨fun q => ?_, fun q => ⟨fun q2 => absurd q2 hj60, fun _ => sp_isNode (fun hn => br_t1 ⟨hn, ?_⟩) (fun hn => br_f1 ?_)⟩⟩
    · rw [if_neg q] at h; exact h
    · rw [if_pos q, if_pos (inN_t.mpr hn)] at h
      refine ⟨fun q1 => ?_, fun q1 => ⟨fun q2 => ?_, fun q2 => ⟨fun q3 => ?_, fun q3 => ⟨fun q4 => ?_, fun q4 => ⟨fun q5 => ?_, fun q5 => ⟨fun q6 => ?_, fun q6 => ⟨fun q7 => ?_, fun q7 => ?_⟩⟩⟩⟩⟩⟩⟩
      · rw [if_pos q1] at h; exact sp_none hA' hn ⟨b2_bo _, h⟩
      · rw [if_neg q1, if_pos q2] at h; exact sp_leaf hn ⟨b2_bo _, h⟩
      · rw [if_neg q1, if_neg q2, if_pos q3] at h; exact sp_targ hA' hn ⟨b2_bo _, h⟩
      · rw [if_neg q1, if_neg q2, if_neg q3, if_pos q4] at h; exact sp_first hA' hn ⟨b2_bo _, h⟩
      · rw [if_neg q1, if_neg q2, if_neg q3, if_neg q4, if_pos q5] at h; exact sp_targ hA' hn ⟨b2_bo _, h⟩
      · rw [if_neg q1, if_neg q2, if_neg q3, if_neg q4, if_neg q5, if_pos q6] at h; exact sp_leaf hn ⟨b2_bo _, h⟩
      · rw [if_neg q1, if_neg q2, if_neg q3, if_neg q4, if_neg q5, if_neg q6, if_pos q7] at h; exact sp_either hA' hn ⟨b2_bo _, h⟩
      · rw [if_neg q1, if_neg q2, if_neg q3, if_neg q4, if_neg q5, if_neg q6, if_neg q7] at h; exact sp_pair hA' hn ⟨b2_bo _, h⟩
    · rw [if_pos q, if_neg (by rw [inN_f.mpr hn]; decide)] at h; exact h
end PAIR
