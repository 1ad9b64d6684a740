section ASK
variable {d : Nat} {σ : yS} {K : Int32 → yS → Prop} {A : Int32 → yS → Bool × yS} {n v2 : Int32}
def eithR (A : Int32 → yS → Bool × yS) (i : Nat) (σ : yS) : Bool × yS := if (A (σ 5 i) σ).1 = true then yieldsC ((A (σ 5 i) σ).2 84 6) (A (σ 5 i) σ).2 else (false, (A (σ 5 i) σ).2)
def eithL (A : Int32 → yS → Bool × yS) (i : Nat) (σ : yS) : Bool × yS := if (A (σ 4 i) σ).1 = true then yieldsC ((A (σ 4 i) σ).2 84 6) (A (σ 4 i) σ).2 else eithR A i (renewC ((A (σ 4 i) σ).2 5 i) (sg (A (σ 4 i) σ).2 86 i 2))
def eith2 (A : Int32 → yS → Bool × yS) (i : Nat) (σ : yS) : Bool × yS := if σ 86 i = 1 then eithL A i σ else eithR A i σ
def eithC (A : Int32 → yS → Bool × yS) (i : Nat) (σ : yS) : Bool × yS := if σ 86 i = 0 then eith2 A i (renewC (σ 4 i) (sg σ 86 i 1)) else eith2 A i σ
/-- the asking one deeper -/
def okA (d : Nat) (A : Int32 → yS → Bool × yS) (v : Int32) : Prop := ∀ (n : Int32) (σ : yS) (K : Int32 → yS → Prop), K (b2 (A n σ).1) (A n σ).2 → yR d 7 0 [some (.ref 84), some (.int n), some (.int v)] [] σ (qI K)
theorem br_t1 {P Q : Prop} (h : P) : (¬ ((1 : Int32) = 0) → P) ∧ ((1 : Int32) = 0 → Q) := ⟨fun _ => h, fun z => absurd z one_ne⟩
theorem br_f1 {P Q : Prop} (h : Q) : (¬ ((0 : Int32) = 0) → P) ∧ ((0 : Int32) = 0 → Q) := ⟨fun z => absurd rfl z, fun _ => h⟩
theorem br_t2 {P Q : Prop} (h : Q) : ((1 : Int32) = 0 → P) ∧ (¬ (1 : Int32) = 0 → Q) := ⟨fun z => absurd z one_ne, fun _ => h⟩
theorem br_f2 {P Q : Prop} (h : P) : ((0 : Int32) = 0 → P) ∧ (¬ (0 : Int32) = 0 → Q) := ⟨fun _ => h, fun z => absurd rfl z⟩
theorem sp_yBr {v : Int32} (h : K (b2 (yieldsC v σ).1) (yieldsC v σ).2) : yR d 8 0 [some (.ref 84), some (.int v)] [] σ (qI (fun x τ => ((x = 0) → K 0 τ) ∧ (¬ (x = 0) → K 1 τ))) := by
  refine sp_yields ?_
  cases hb : (yieldsC v σ).1 with
  | true => rw [hb] at h; exact br_t2 h
  | false => rw [hb] at h; exact br_f2 h
theorem sp_eithR (hA : okA d A (v2 + 1)) (h : K (b2 (eithR A n.toNatClampNeg σ).1) (eithR A n.toNatClampNeg σ).2) : yR d 7 0 [some (.ref 84), some (.int (σ 5 n.toNatClampNeg)), some (.int (v2 + 1))] [] σ (qI (fun x1 σ1 => (((x1 = 0) → K 0 σ1) ∧ (¬ (x1 = 0) → yR d 8 0 [some (.ref 84), some (.int (σ1 84 6))] [] σ1 (qI (fun x2 σ2 => (((x2 = 0) → K 0 σ2) ∧ (¬ (x2 = 0) → K 1 σ2)))))))) := by
  refine hA _ _ _ ?_
  unfold eithR at h
  cases hb : (A (σ 5 n.toNatClampNeg) σ).1 with
  | true => rw [hb, if_pos rfl] at h; exact br_t2 (sp_yBr h)
  | false => rw [hb, if_neg (by decide)] at h; exact br_f2 h
theorem sp_either (hA : okA (d + 1) A (v2 + 1)) (hn : vp_in n 60) (h : K (b2 (eithC A n.toNatClampNeg σ).1) (eithC A n.toNatClampNeg σ).2) : yR (d + 1 + 1) 11 0 [some (.ref 84), some (.int n), some (.int v2)] [] σ (qI K) := by
  have left : ∀ τ : yS, K (b2 (eithL A n.toNatClampNeg τ).1) (eithL A n.toNatClampNeg τ).2 → yR (d + 1) 7 0 [some (.ref 84), some (.int (τ 4 n.toNatClampNeg)), some (.int (v2 + 1))] [] τ (qI (fun x3 σ3 => (((x3 = 0) → yR (d + 1) 9 0 [some (.ref 84), some (.int (σ3 5 n.toNatClampNeg))] [] (sg σ3 86 n.toNatClampNeg 2) (qV (fun σ4 => yR (d + 1) 7 0 [some (.ref 84), some (.int (σ4 5 n.toNatClampNeg)), some (.int (v2 + 1))] [] σ4 (qI (fun x5 σ5 => (((x5 = 0) → K 0 σ5) ∧ (¬ (x5 = 0) → yR (d + 1) 8 0 [some (.ref 84), some (.int (σ5 84 6))] [] σ5 (qI (fun x6 σ6 => (((x6 = 0) → K 0 σ6) ∧ (¬ (x6 = 0) → K 1 σ6))))))))))) ∧ (¬ (x3 = 0) → yR (d + 1) 8 0 [some (.ref 84), some (.int (σ3 84 6))] [] σ3 (qI (fun x7 σ7 => (yBo x7 ∧ K x7 σ7))))))) := by
    intro τ h
    refine hA _ _ _ ?_
    unfold eithL at h
    cases hb : (A (τ 4 n.toNatClampNeg) τ).1 with
    | true => rw [hb, if_pos rfl] at h; exact br_t2 (sp_yields ⟨b2_bo _, h⟩)
    | false => rw [hb, if_neg (by decide)] at h; exact br_f2 (sp_renew (sp_eithR hA h))
  unfold eithC at h
  refine w_11_0 ⟨hn, fun q => ?_, fun q => sp_renew ?_⟩
  · rw [if_neg q] at h
    unfold eith2 at h
    refine ⟨fun q2 => ?_, fun q2 => ?_⟩
    · rw [if_neg q2] at h; exact sp_eithR hA h
    · rw [if_pos q2] at h; exact left σ h
  · rw [if_pos q] at h
    unfold eith2 at h
    refine ⟨fun q2 => ?_, fun q2 => ?_⟩
    · rw [if_neg q2] at h; exact sp_eithR hA h
    · rw [if_pos q2] at h; exact left _ h
def frst2 (A : Int32 → yS → Bool × yS) (i : Nat) (σ : yS) : Bool × yS := if σ 6 i ≤ σ 89 i then (false, σ) else if (A (σ 5 i) σ).1 = true then yieldsC ((A (σ 5 i) σ).2 84 6) (sg (A (σ 5 i) σ).2 89 i ((A (σ 5 i) σ).2 89 i + 1)) else (false, (A (σ 5 i) σ).2)
def frstC (A : Int32 → yS → Bool × yS) (i : Nat) (σ : yS) : Bool × yS := if σ 86 i = 0 then frst2 A i (renewC (σ 5 i) (sg (sg σ 86 i 2) 89 i 0)) else frst2 A i σ
theorem sp_first (hA : okA (d + 1) A (v2 + 1)) (hn : vp_in n 60) (h : K (b2 (frstC A n.toNatClampNeg σ).1) (frstC A n.toNatClampNeg σ).2) : yR (d + 1 + 1) 12 0 [some (.ref 84), some (.int n), some (.int v2)] [] σ (qI K) := by
  have go : ∀ τ : yS, K (b2 (frst2 A n.toNatClampNeg τ).1) (frst2 A n.toNatClampNeg τ).2 → ((((τ 6 n.toNatClampNeg) ≤ (τ 89 n.toNatClampNeg)) → K 0 τ) ∧ (¬ ((τ 6 n.toNatClampNeg) ≤ (τ 89 n.toNatClampNeg)) → yR (d + 1) 7 0 [some (.ref 84), some (.int (τ 5 n.toNatClampNeg)), some (.int (v2 + 1))] [] τ (qI (fun x1 σ1 => ((¬ (x1 = 0) → yR (d + 1) 8 0 [some (.ref 84), some (.int (σ1 84 6))] [] (sg σ1 89 n.toNatClampNeg ((σ1 89 n.toNatClampNeg) + 1)) (qI (fun x2 σ2 => (yBo x2 ∧ K x2 σ2)))) ∧ ((x1 = 0) → K 0 σ1)))))) := by
    intro τ h
    unfold frst2 at h
    refine ⟨fun q => ?_, fun q => hA _ _ _ ?_⟩
    · rw [if_pos q] at h; exact h
    · rw [if_neg q] at h
      cases hb : (A (τ 5 n.toNatClampNeg) τ).1 with
      | true => rw [hb, if_pos rfl] at h; exact br_t1 (sp_yields ⟨b2_bo _, h⟩)
      | false => rw [hb, if_neg (by decide)] at h; exact br_f1 h
  unfold frstC at h
  refine w_12_0 ⟨hn, fun q => ?_, fun q => sp_renew ?_⟩
  · rw [if_neg q] at h; exact go σ h
  · rw [if_pos q] at h; exact go _ h
def noneC (A : Int32 → yS → Bool × yS) (i : Nat) (σ : yS) : Bool × yS :=
  if σ 86 i = 0 then (if (A (renewC (σ 5 i) (sg σ 86 i 4) 5 i) (renewC (σ 5 i) (sg σ 86 i 4))).1 = true then (false, (A (renewC (σ 5 i) (sg σ 86 i 4) 5 i) (renewC (σ 5 i) (sg σ 86 i 4))).2) else yieldsC 0 (A (renewC (σ 5 i) (sg σ 86 i 4) 5 i) (renewC (σ 5 i) (sg σ 86 i 4))).2) else (false, σ)
theorem sp_none (hA : okA (d + 1) A (v2 + 1)) (hn : vp_in n 60) (h : K (b2 (noneC A n.toNatClampNeg σ).1) (noneC A n.toNatClampNeg σ).2) : yR (d + 1 + 1) 13 0 [some (.ref 84), some (.int n), some (.int v2)] [] σ (qI K) := by
  unfold noneC at h
  refine w_13_0 ⟨hn, fun q => sp_renew (hA _ _ _ ?_), fun q => ?_⟩
  · rw [if_pos q] at h
    generalize renewC (σ 5 n.toNatClampNeg) (sg σ 86 n.toNatClampNeg 4) = τ at h ⊢
    cases hb : (A (τ 5 n.toNatClampNeg) τ).1 with
    | true => rw [hb, if_pos rfl] at h; exact br_t1 h
    | false => rw [hb, if_neg (by decide)] at h; exact br_f1 (sp_yBr h)
  · rw [if_neg q] at h; exact h
def targ2 (A : Int32 → yS → Bool × yS) (i : Nat) (x : Int32) (σ : yS) : Bool × yS :=
  if (A (σ 5 i) (sg σ 86 i 2)).1 = true then yieldsC ((A (σ 5 i) (sg σ 86 i 2)).2 84 6) (sg (sg (A (σ 5 i) (sg σ 86 i 2)).2 89 i ((A (σ 5 i) (sg σ 86 i 2)).2 85 x.toNatClampNeg)) 85 x.toNatClampNeg ((A (σ 5 i) (sg σ 86 i 2)).2 84 6)) else (false, (A (σ 5 i) (sg σ 86 i 2)).2)
def targC (A : Int32 → yS → Bool × yS) (i : Nat) (σ : yS) : Bool × yS :=
  if inN (σ 6 i) 4 = true then (if σ 86 i = 0 then targ2 A i (σ 6 i) (renewC (σ 5 i) σ) else if σ 3 i = 94 then targ2 A i (σ 6 i) (sg σ 85 (σ 6 i).toNatClampNeg (σ 89 i)) else targ2 A i (σ 6 i) σ) else (false, σ)
theorem sp_targ (hA : okA (d + 1) A (v2 + 1)) (hn : vp_in n 60) (h : K (b2 (targC A n.toNatClampNeg σ).1) (targC A n.toNatClampNeg σ).2) : yR (d + 1 + 1) 14 0 [some (.ref 84), some (.int n), some (.int v2), none] [] σ (qI K) := by
  have go : ∀ (τ : yS) (x : Int32), vp_in x 4 → K (b2 (targ2 A n.toNatClampNeg x τ).1) (targ2 A n.toNatClampNeg x τ).2 → yR (d + 1) 7 0 [some (.ref 84), some (.int (τ 5 n.toNatClampNeg)), some (.int (v2 + 1))] [] (sg τ 86 n.toNatClampNeg 2) (qI (fun x2 σ2 => ((¬ (x2 = 0) → (vp_in x 4 ∧ yR (d + 1) 8 0 [some (.ref 84), some (.int (σ2 84 6))] [] (sg (sg σ2 89 n.toNatClampNeg (σ2 85 x.toNatClampNeg)) 85 x.toNatClampNeg (σ2 84 6)) (qI (fun x3 σ3 => (yBo x3 ∧ K x3 σ3))))) ∧ ((x2 = 0) → K 0 σ2)))) := by
    intro τ x hx h
    refine hA _ _ _ ?_
    unfold targ2 at h
    cases hb : (A (τ 5 n.toNatClampNeg) (sg τ 86 n.toNatClampNeg 2)).1 with
    | true => rw [hb, if_pos rfl] at h; exact br_t1 ⟨hx, sp_yields ⟨b2_bo _, h⟩⟩
    | false => rw [hb, if_neg (by decide)] at h; exact br_f1 h
  unfold targC at h
  refine w_14_0 ⟨hn, sp_isName (fun q => br_t1 ?_) (fun q => br_f1 ?_)⟩
  · rw [if_pos (inN_t.mpr q)] at h
    refine ⟨fun q2 => ⟨fun q3 => ?_, fun q3 => ⟨q, ?_⟩⟩, fun q2 => sp_renew ?_⟩
    · rw [if_neg q2, if_neg q3] at h; exact go σ _ q h
    · rw [if_neg q2, if_pos q3] at h
      refine (go (sg σ 85 (σ 6 n.toNatClampNeg).toNatClampNeg (σ 89 n.toNatClampNeg)) _ q h).mono (qI_mono fun x τ hx => ⟨fun z => (hx.1 z).2, hx.2⟩)
    · rw [if_pos q2] at h; exact go _ _ q h
  · rw [if_neg (by rw [inN_f.mpr q]; decide)] at h; exact h
end ASK
