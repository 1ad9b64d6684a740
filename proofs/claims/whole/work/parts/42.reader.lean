/-! THE CLASS'S READER, as functions of the state -/
def cl (x : Int32) : Nat := x.toNatClampNeg
def figC (c : Int32) : Bool := decide (¬ c < 48 ∧ ¬ 57 < c)
def nwC (kd nb : Int32) (γ : yS) : yS := if inN (γ 13 6) 60 = true then sg (sg (sg γ 15 (γ 13 6).toNatClampNeg kd) 18 (γ 13 6).toNatClampNeg nb) 13 6 (γ 13 6 + 1) else γ
def plC (e lv : Int32) (γ : yS) : Bool × yS := if inN (γ 13 3) 69 = true then (true, sg (sg (sg (sg γ 25 (γ 13 3).toNatClampNeg e) 26 (γ 13 3).toNatClampNeg lv) 13 3 (γ 13 3 + 1)) 13 5 1) else (false, γ)
def popC (γ : yS) : yS := if inN (γ 25 (γ 13 3 - 1).toNatClampNeg) 60 = true then sg (sg (sg γ 13 3 (γ 13 3 - 1)) 17 (γ 25 (γ 13 3 - 1).toNatClampNeg).toNatClampNeg ((sg γ 13 3 (γ 13 3 - 1)) 13 8)) 13 8 (γ 25 (γ 13 3 - 1).toNatClampNeg) else sg γ 13 3 (γ 13 3 - 1)
def jnC (lv : Int32) : Nat → yS → yS
  | 0, γ => sg γ 13 5 3
  | f + 1, γ => if γ 13 3 ≤ 0 ∨ 69 < γ 13 3 ∨ γ 26 (γ 13 3 - 1).toNatClampNeg < lv then sg γ 13 5 3 else jnC lv f (popC γ)
def joinC (part lv : Int32) (γ : yS) : yS := jnC lv 69 (sg γ 13 8 part)
def noteC (cell : Nat) (v : Int32) (γ : yS) : yS := if inN (γ 14 10) 8 = true then sg γ cell (γ 14 10).toNatClampNeg ((γ cell (γ 14 10).toNatClampNeg) ||| (1 <<< (v &&& 31))) else γ
def lefC (kd nb : Int32) (γ : yS) : Bool × yS := if inN (γ 13 6) 60 = true then (true, joinC (γ 13 6) 8 (if kd = 48 then sg (sg (nwC kd nb γ) 13 9 (γ 13 6)) 13 10 1 else noteC 22 nb (nwC kd nb γ))) else (false, γ)
def unitC (c : Int32) (γ : yS) : Bool × yS := if figC c = true then lefC 48 (c - 48) γ else if ¬ c < 97 ∧ inN (c - 97) 4 = true then lefC 97 (c - 97) γ else if c = 33 then (if inN (γ 13 6) 60 = true then plC (γ 13 6) 8 (nwC 33 0 γ) else (false, γ)) else if c = 40 then (if 9 ≤ γ 13 4 then (false, γ) else plC (-1) 0 (sg γ 13 4 (γ 13 4 + 1))) else (false, γ)
def figureC (c : Int32) (γ : yS) : Bool × yS := if figC c = true ∧ inN (γ 13 8) 60 = true then (true, sg (sg γ 18 (γ 13 8).toNatClampNeg (c - 48)) 13 5 3) else (false, γ)
def moreC (c : Int32) (γ : yS) : Bool × yS := if 3 ≤ γ 13 10 then (false, γ) else if inN (γ 13 9) 60 = true then (true, sg (sg γ 18 (γ 13 9).toNatClampNeg (10 * γ 18 (γ 13 9).toNatClampNeg + (c - 48))) 13 10 (γ 13 10 + 1)) else (false, γ)
def beginsC (e : Int32) (γ : yS) : Bool × yS := if inN (γ 14 10) 8 = true then (true, sg (sg (sg (sg (sg γ 13 7 (γ 13 6)) 20 (γ 14 10).toNatClampNeg e) 22 (γ 14 10).toNatClampNeg 0) 23 (γ 14 10).toNatClampNeg 0) 13 5 1) else (false, γ)
def closesC (γ : yS) : Bool × yS := if γ 13 4 = 0 then (false, γ) else (true, joinC ((joinC (γ 13 8) 1 γ) 13 8) 8 (sg (sg (joinC (γ 13 8) 1 γ) 13 3 (if 0 < (joinC (γ 13 8) 1 γ) 13 3 - 1 then (joinC (γ 13 8) 1 γ) 13 3 - 1 else 0)) 13 4 ((joinC (γ 13 8) 1 γ) 13 4 - 1)))
def rfstC (γ : yS) : Bool × yS := if inN (γ 13 6) 60 = true then (true, sg (sg (sg (nwC 92 0 γ) 17 (γ 13 6).toNatClampNeg ((nwC 92 0 γ) 13 8)) 13 8 (γ 13 6)) 13 5 2) else (false, γ)
def isFstC (γ : yS) : Bool := if inN (γ 13 3 - 1) 69 = true then decide (¬ 1 < γ 26 (γ 13 3 - 1).toNatClampNeg) else true
def targetC (c : Int32) (γ : yS) : Bool × yS := if inN (γ 13 8) 60 = true ∧ γ 15 (γ 13 8).toNatClampNeg = 97 ∧ isFstC γ = true then plC ((noteC 23 (γ 18 (γ 13 8).toNatClampNeg) (sg γ 15 (γ 13 8).toNatClampNeg c)) 13 8) 1 (noteC 23 (γ 18 (γ 13 8).toNatClampNeg) (sg γ 15 (γ 13 8).toNatClampNeg c)) else (false, γ)
def lvB (c : Int32) : Int32 := if c = 38 then 2 else if c = 42 then 7 else if c = 43 then 6 else if c = 45 then 6 else if c = 60 then 4 else if c = 61 then 4 else if c = 62 then 4 else if c = 124 then 3 else if c = 126 then 5 else 0
def betC (c : Int32) (γ : yS) : Bool × yS := if lvB c = 0 then (false, γ) else if inN (γ 13 6) 60 = true then plC (γ 13 6) (lvB c) (sg (joinC ((nwC c 0 γ) 13 8) (lvB c) (nwC c 0 γ)) 16 (γ 13 6).toNatClampNeg ((joinC ((nwC c 0 γ) 13 8) (lvB c) (nwC c 0 γ)) 13 8)) else (false, γ)
def endsC (γ : yS) : Bool × yS := if 0 < γ 13 4 then (false, γ) else if inN (γ 14 10) 8 = true then (true, sg (sg (sg (sg (joinC (γ 13 8) 1 γ) 19 (γ 14 10).toNatClampNeg ((joinC (γ 13 8) 1 γ) 13 8)) 21 (γ 14 10).toNatClampNeg ((joinC (γ 13 8) 1 γ) 13 6 - (joinC (γ 13 8) 1 γ) 13 7)) 14 10 ((joinC (γ 13 8) 1 γ) 14 10 + 1)) 13 5 0) else (false, γ)
def restC (c : Int32) (γ : yS) : Bool × yS := if c = 41 then closesC γ else if c = 58 then targetC c γ else if c = 59 then endsC γ else if c = 92 then rfstC γ else if c = 94 then targetC c γ else betC c γ
def mainC (c : Int32) (γ : yS) : Bool × yS := if γ 13 5 = 0 then (if c = 42 then beginsC 1 γ else if (beginsC 0 γ).1 = true then unitC c (beginsC 0 γ).2 else (false, (beginsC 0 γ).2)) else if γ 13 5 = 1 then unitC c γ else if γ 13 5 = 2 then figureC c γ else restC c γ
def takesC (c : Int32) (γ : yS) : Bool × yS := if ¬ γ 13 10 ≤ 0 ∧ figC c = true then moreC c γ else if c = 32 then (true, sg γ 13 10 0) else mainC c (sg γ 13 10 0)
def rnC (t : Nat → Int32) (len : Nat) : Nat → Nat → yS → Int32 × yS
  | 0, _, γ => (if γ 13 5 = 0 then -1 else nI len, γ)
  | m + 1, k, γ => if (takesC (t k) γ).1 = true then rnC t len m (k + 1) (takesC (t k) γ).2 else (nI k, (takesC (t k) γ).2)
section READER
variable {d : Nat} {γ : yS} {K : Int32 → yS → Prop} {KV : yS → Prop}
theorem ifT {α : Type} {p : Prop} [Decidable p] {a b : α} (h : p) : (if p then a else b) = a := if_pos h
theorem ifF {α : Type} {p : Prop} [Decidable p] {a b : α} (h : ¬ p) : (if p then a else b) = b := if_neg h
theorem inNt {x : Int32} {n : Nat} (h : vp_in x n) : inN x n = true := inN_t.mpr h
theorem inNf {x : Int32} {n : Nat} (h : ¬ vp_in x n) : ¬ inN x n = true := fun z => h (inN_t.mp z)
theorem sp_fig {c : Int32} (h : K (b2 (figC c)) γ) : yR d 46 0 [some (.int c)] [] γ (qI K) := by
  refine w_46_0 ⟨fun q => ?_, fun q => ⟨fun q2 => ?_, fun q2 => ?_⟩⟩
  · have : figC c = false := by unfold figC; simp [q]
    rw [this] at h; exact h
  · have : figC c = false := by unfold figC; simp [q2]
    rw [this] at h; exact h
  · have : figC c = true := by unfold figC; simp [q, q2]
    rw [this] at h; exact h
theorem sp_b8 {v : Int32} (h1 : vp_in v 8 → K 1 γ) (h0 : ¬ vp_in v 8 → K 0 γ) : yR d 76 0 [some (.int v), some (.int 8)] [] γ (qI K) := by
  have e : (¬ v < 0 ∧ ¬ (8 : Int32) ≤ v) ↔ vp_in v 8 := vp_lt (by decide)
  exact sp_below (fun q1 q2 => h1 (e.mp ⟨q1, Int32.not_le.mpr q2⟩)) (fun q => h0 (fun z => by
    have := e.mpr z
    rcases q with q | q
    · exact this.1 q
    · exact this.2 q))
theorem sp_b69 {v : Int32} (h1 : vp_in v 69 → K 1 γ) (h0 : ¬ vp_in v 69 → K 0 γ) : yR d 76 0 [some (.int v), some (.int 69)] [] γ (qI K) := by
  have e : (¬ v < 0 ∧ ¬ (69 : Int32) ≤ v) ↔ vp_in v 69 := vp_lt (by decide)
  exact sp_below (fun q1 q2 => h1 (e.mp ⟨q1, Int32.not_le.mpr q2⟩)) (fun q => h0 (fun z => by
    have := e.mpr z
    rcases q with q | q
    · exact this.1 q
    · exact this.2 q))
theorem sp_new {kd nb : Int32} (h : K (γ 13 6) (nwC kd nb γ)) : yR (d + 1) 44 0 [some (.ref 13), some (.int kd), some (.int nb), none] [] γ (qI K) := by
  unfold nwC at h
  refine w_44_0 (sp_isNode (fun q => br_t2 ⟨q, ?_⟩) (fun q => br_f2 ?_))
  · rw [ifT (inNt q)] at h; exact h
  · rw [ifF (inNf q)] at h; exact h
theorem sp_room (h1 : vp_in (γ 13 6) 60 → K 1 γ) (h0 : ¬ vp_in (γ 13 6) 60 → K 0 γ) : yR (d + 1) 43 0 [some (.ref 13)] [] γ (qI K) :=
  w_43_0 (sp_isNode (fun q => ⟨yB1, h1 q⟩) (fun q => ⟨yB0, h0 q⟩))
theorem sp_piles {e lv : Int32} (h : K (b2 (plC e lv γ).1) (plC e lv γ).2) : yR (d + 1) 42 0 [some (.ref 13), some (.int e), some (.int lv)] [] γ (qI K) := by
  unfold plC at h
  refine w_42_0 (sp_b69 (fun q => br_t1 ⟨q, ?_⟩) (fun q => br_f1 ?_))
  · rw [ifT (inNt q)] at h; exact h
  · rw [ifF (inNf q)] at h; exact h
theorem sp_jn {v1 lv : Int32} : ∀ (f : Nat) (γ : yS), ((γ 13 3).toInt ≤ f ∨ 69 < (γ 13 3).toInt) → KV (jnC lv f γ) → yR (d + 1) 41 5 [some (.ref 13), some (.int v1), some (.int lv), none] [] γ (qV KV) := by
  have z0 : (0 : Int32).toInt = 0 := by decide
  have z69 : (69 : Int32).toInt = 69 := by decide
  intro f
  induction f with
  | zero =>
    intro γ hf h
    refine w_41_5 ⟨fun _ => h, fun q => ⟨fun _ => h, fun q2 => ?_⟩⟩
    rw [Int32.le_iff_toInt_le, z0] at q
    rw [Int32.lt_iff_toInt_lt, z69] at q2
    omega
  | succ f ih =>
    intro γ hf h
    unfold jnC at h
    refine w_41_5 ⟨fun q => ?_, fun q => ⟨fun q2 => ?_, fun q2 => ?_⟩⟩
    · rw [ifT (Or.inl q)] at h; exact h
    · rw [ifT (Or.inr (Or.inl q2))] at h; exact h
    · have q' := q
      have q2' := q2
      rw [Int32.le_iff_toInt_le, z0] at q'
      rw [Int32.lt_iff_toInt_lt, z69] at q2'
      obtain ⟨j, hj, ej⟩ := nI_of (x := γ 13 3) (by rw [Int32.lt_iff_toInt_lt, z0]; omega)
      have ej' : (γ 13 3).toInt = j := by rw [ej]; exact nI_toInt hj
      have e1 : γ 13 3 - 1 = nI (j - 1) := by rw [ej]; exact pk_sub (a := j) (b := 1) (by omega)
      refine ⟨by rw [e1]; exact vp_in_nI (by omega) (by decide), fun q3 => ?_, fun q3 => ?_⟩
      · rw [ifT (Or.inr (Or.inr q3))] at h; exact h
      · rw [ifF (by rintro (z | z | z); exact q z; exact q2 z; exact q3 z)] at h
        unfold popC at h
        refine sp_isNode (fun q4 => br_t2 ⟨q4, ih _ (Or.inl ?_) ?_⟩) (fun q4 => br_f2 (ih _ (Or.inl ?_) ?_))
        · show (γ 13 3 - 1).toInt ≤ f
          rw [e1, nI_toInt (by omega)]; omega
        · rw [ifT (inNt q4)] at h; exact h
        · show (γ 13 3 - 1).toInt ≤ f
          rw [e1, nI_toInt (by omega)]; omega
        · rw [ifF (inNf q4)] at h; exact h
theorem sp_join {p lv : Int32} (h : KV (joinC p lv γ)) : yR (d + 1) 41 0 [some (.ref 13), some (.int p), some (.int lv), none] [] γ (qV KV) :=
  w_41_0 (sp_jn 69 _ (by omega) h)
theorem sp_note22 {v : Int32} (h : KV (noteC 22 v γ)) : yR (d + 1) 45 0 [some (.ref 13), some (.ref 22), some (.int v)] [] γ (qV KV) := by
  unfold noteC at h
  refine w_45_0_22 (sp_b8 (fun q => br_t2 ⟨q, ?_⟩) (fun q => br_f2 ?_))
  · rw [ifT (inNt q)] at h; exact h
  · rw [ifF (inNf q)] at h; exact h
theorem sp_note23 {v : Int32} (h : KV (noteC 23 v γ)) : yR (d + 1) 45 0 [some (.ref 13), some (.ref 23), some (.int v)] [] γ (qV KV) := by
  unfold noteC at h
  refine w_45_0_23 (sp_b8 (fun q => br_t2 ⟨q, ?_⟩) (fun q => br_f2 ?_))
  · rw [ifT (inNt q)] at h; exact h
  · rw [ifF (inNf q)] at h; exact h
theorem sp_lef {kd nb : Int32} (h : K (b2 (lefC kd nb γ).1) (lefC kd nb γ).2) : yR (d + 2) 31 0 [some (.ref 13), some (.int kd), some (.int nb), none] [] γ (qI K) := by
  unfold lefC at h
  refine w_31_0 (sp_room (fun q => br_t1 (sp_new ⟨fun e => sp_note22 (sp_join ?_), fun e => sp_join ?_⟩)) (fun q => br_f1 ?_))
  · rw [ifT (inNt q), ifF e] at h; exact h
  · rw [ifT (inNt q), ifT e] at h; exact h
  · rw [ifF (inNf q)] at h; exact h
theorem bB {b : Bool} {P : Prop} (h : P) : yBo (b2 b) ∧ P := ⟨b2_bo b, h⟩
theorem sp_unit {c : Int32} (h : K (b2 (unitC c γ).1) (unitC c γ).2) : yR (d + 3) 30 0 [some (.ref 13), some (.int c)] [] γ (qI K) := by
  unfold unitC at h
  refine w_30_0 (sp_fig ?_)
  cases hf : figC c with
  | true =>
    rw [ifT hf] at h
    exact br_t2 (sp_lef (bB h))
  | false =>
    rw [ifF (by rw [hf]; decide)] at h
    refine br_f2 ?_
    -- what stands behind the names
    have rest : (¬ (¬ c < 97 ∧ inN (c - 97) 4 = true)) → (¬ (c = 33) → ((¬ (c = 40) → K 0 γ) ∧ ((c = 40) → (((9 ≤ (γ 13 4)) → K 0 γ) ∧ (¬ (9 ≤ (γ 13 4)) → yR (d + 2) 42 0 [some (.ref 13), some (.int (-1)), some (.int 0)] [] (sg γ 13 4 ((γ 13 4) + 1)) (qI (fun x2 σ2 => (yBo x2 ∧ K x2 σ2)))))))) ∧ ((c = 33) → yR (d + 2) 43 0 [some (.ref 13)] [] γ (qI (fun x3 σ3 => (((x3 = 0) → K 0 σ3) ∧ (¬ (x3 = 0) → yR (d + 2) 44 0 [some (.ref 13), some (.int 33), some (.int 0), none] [] σ3 (qI (fun x4 σ4 => yR (d + 2) 42 0 [some (.ref 13), some (.int x4), some (.int 8)] [] σ4 (qI (fun x5 σ5 => (((x5 = 0) → K 0 σ5) ∧ (¬ (x5 = 0) → K 1 σ5))))))))))) := by
      intro hn
      rw [ifF hn] at h
      refine ⟨fun e => ⟨fun e2 => ?_, fun e2 => ⟨fun e3 => ?_, fun e3 => sp_piles (bB ?_)⟩⟩, fun e => sp_room (fun q => br_t2 (sp_new (sp_piles ?_))) (fun q => br_f2 ?_)⟩
      · rw [ifF e, ifF e2] at h; exact h
      · rw [ifF e, ifT e2, ifT e3] at h; exact h
      · rw [ifF e, ifT e2, ifF e3] at h; exact h
      · rw [ifT e, ifT (inNt q)] at h
        generalize plC (γ 13 6) 8 (nwC 33 0 γ) = r at h ⊢
        obtain ⟨b, r⟩ := r
        cases b with
        | true => exact br_t2 h
        | false => exact br_f2 h
      · rw [ifT e, ifF (inNf q)] at h; exact h
    refine ⟨fun q => rest (fun z => z.1 q), fun q => sp_isName (fun q2 => br_t2 (sp_lef (bB ?_))) (fun q2 => br_f2 (rest (fun z => inNf q2 z.2)))⟩
    rw [ifT ⟨q, inNt q2⟩] at h; exact h
theorem sp_figure {c : Int32} (h : K (b2 (figureC c γ).1) (figureC c γ).2) : yR (d + 1) 32 0 [some (.ref 13), some (.int c)] [] γ (qI K) := by
  unfold figureC at h
  refine w_32_0 (sp_fig ?_)
  cases hf : figC c with
  | true =>
    refine br_t2 (sp_isNode (fun q => br_t1 ⟨q, ?_⟩) (fun q => br_f1 ?_))
    · rw [ifT ⟨hf, inNt q⟩] at h; exact h
    · rw [ifF (fun z => inNf q z.2)] at h; exact h
  | false =>
    rw [ifF (by rw [hf]; intro z; exact absurd z.1 (by decide))] at h
    exact br_f2 h
theorem sp_more {c : Int32} (h : K (b2 (moreC c γ).1) (moreC c γ).2) : yR (d + 1) 28 0 [some (.ref 13), some (.int c)] [] γ (qI K) := by
  unfold moreC at h
  refine w_28_0 ⟨fun q => ?_, fun q => sp_isNode (fun q2 => br_t1 ⟨q2, ?_⟩) (fun q2 => br_f1 ?_)⟩
  · rw [ifT q] at h; exact h
  · rw [ifF q, ifT (inNt q2)] at h; exact h
  · rw [ifF q, ifF (inNf q2)] at h; exact h
theorem sp_begins0 (h : K (b2 (beginsC 0 γ).1) (beginsC 0 γ).2) : yR (d + 1) 29 0 [some (.ref 13), some (.int 0), none] [] γ (qI K) := by
  unfold beginsC at h
  refine w_29_0 (sp_b8 (fun q => br_t1 ⟨fun _ => ⟨q, ?_⟩, fun z => absurd rfl z⟩) (fun q => br_f1 ?_))
  · rw [ifT (inNt q)] at h; exact h
  · rw [ifF (inNf q)] at h; exact h
theorem sp_begins1 (h : K (b2 (beginsC 1 γ).1) (beginsC 1 γ).2) : yR (d + 1) 29 0 [some (.ref 13), some (.int 1), none] [] γ (qI K) := by
  unfold beginsC at h
  refine w_29_0 (sp_b8 (fun q => br_t1 ⟨fun z => absurd z one_ne, fun _ => ⟨q, ?_⟩⟩) (fun q => br_f1 ?_))
  · rw [ifT (inNt q)] at h; exact h
  · rw [ifF (inNf q)] at h; exact h
theorem sp_closes (h : K (b2 (closesC γ).1) (closesC γ).2) : yR (d + 2) 35 0 [some (.ref 13)] [] γ (qI K) := by
  unfold closesC at h
  refine w_35_0 ⟨fun q => ?_, fun q => ?_⟩
  · rw [ifF q] at h
    refine sp_join (w_148_0 ⟨fun e => sp_join ?_, fun e => sp_join ?_⟩)
    · rw [ifT e] at h; exact h
    · rw [ifF e] at h; exact h
  · rw [ifT q] at h; exact h
theorem sp_frst (h : K (b2 (rfstC γ).1) (rfstC γ).2) : yR (d + 2) 36 0 [some (.ref 13), none] [] γ (qI K) := by
  unfold rfstC at h
  refine w_36_0 (sp_room (fun q => br_t1 (sp_new ⟨q, ?_⟩)) (fun q => br_f1 ?_))
  · rw [ifT (inNt q)] at h; exact h
  · rw [ifF (inNf q)] at h; exact h
theorem sp_isFst (h : K (b2 (isFstC γ)) γ) : yR (d + 1) 38 0 [some (.ref 13), none] [] γ (qI K) := by
  unfold isFstC at h
  refine w_38_0 (sp_b69 (fun q => br_t2 ⟨q, fun z => ?_, fun z => ?_⟩) (fun q => br_f2 ?_))
  · rw [ifT (inNt q), decide_eq_false (by simp [z])] at h; exact h
  · rw [ifT (inNt q), decide_eq_true z] at h; exact h
  · rw [ifF (inNf q)] at h; exact h
theorem sp_target {c : Int32} (h : K (b2 (targetC c γ).1) (targetC c γ).2) : yR (d + 2) 37 0 [some (.ref 13), some (.int c)] [] γ (qI K) := by
  unfold targetC at h
  refine w_37_0 (sp_isNode (fun q => br_t2 ⟨q, fun e => ?_, fun e => sp_isFst ?_⟩) (fun q => br_f2 ?_))
  · rw [ifF (fun z => e z.2.1)] at h; exact h
  · cases hb : isFstC γ with
    | true =>
      rw [ifT ⟨inNt q, e, hb⟩] at h
      exact br_t1 ⟨q, sp_note23 (sp_piles (bB h))⟩
    | false =>
      rw [ifF (fun z => by rw [hb] at z; exact absurd z.2.2 (by decide))] at h
      exact br_f1 h
  · rw [ifF (fun z => inNf q z.1)] at h; exact h
theorem sp_lvB {c : Int32} (h : K (lvB c) γ) : yR d 40 0 [some (.int c)] [] γ (qI K) := by
  unfold lvB at h
  refine w_40_0 ⟨fun e => ?_, fun e1 => ⟨fun e => ?_, fun e2 => ⟨fun e => ?_, fun e3 => ⟨fun e => ?_, fun e4 => ⟨fun e => ?_, fun e5 => ⟨fun e => ?_, fun e6 => ⟨fun e => ?_, fun e7 => ⟨fun e => ?_, fun e8 => ⟨fun e => ?_, fun e9 => ?_⟩⟩⟩⟩⟩⟩⟩⟩⟩
  · rw [ifT e] at h; exact h
  · rw [ifF e1, ifT e] at h; exact h
  · rw [ifF e1, ifF e2, ifT e] at h; exact h
  · rw [ifF e1, ifF e2, ifF e3, ifT e] at h; exact h
  · rw [ifF e1, ifF e2, ifF e3, ifF e4, ifT e] at h; exact h
  · rw [ifF e1, ifF e2, ifF e3, ifF e4, ifF e5, ifT e] at h; exact h
  · rw [ifF e1, ifF e2, ifF e3, ifF e4, ifF e5, ifF e6, ifT e] at h; exact h
  · rw [ifF e1, ifF e2, ifF e3, ifF e4, ifF e5, ifF e6, ifF e7, ifT e] at h; exact h
  · rw [ifF e1, ifF e2, ifF e3, ifF e4, ifF e5, ifF e6, ifF e7, ifF e8, ifT e] at h; exact h
  · rw [ifF e1, ifF e2, ifF e3, ifF e4, ifF e5, ifF e6, ifF e7, ifF e8, ifF e9] at h; exact h
theorem sp_bet {c : Int32} (h : K (b2 (betC c γ).1) (betC c γ).2) : yR (d + 2) 39 0 [some (.ref 13), some (.int c), none, none] [] γ (qI K) := by
  unfold betC at h
  refine w_39_0 (sp_lvB ⟨fun e => ?_, fun e => sp_room (fun q => br_t1 (sp_new (sp_join ⟨q, sp_piles (bB ?_)⟩))) (fun q => br_f1 ?_)⟩)
  · rw [ifT e] at h; exact h
  · rw [ifF e, ifT (inNt q)] at h; exact h
  · rw [ifF e, ifF (inNf q)] at h; exact h
theorem sp_ends (h : K (b2 (endsC γ).1) (endsC γ).2) : yR (d + 2) 34 0 [some (.ref 13), none] [] γ (qI K) := by
  unfold endsC at h
  refine w_34_0 ⟨fun q => ?_, fun q => sp_b8 (fun q2 => br_t1 (sp_join ⟨q2, ?_⟩)) (fun q2 => br_f1 ?_)⟩
  · rw [ifT q] at h; exact h
  · rw [ifF q, ifT (inNt q2)] at h; exact h
  · rw [ifF q, ifF (inNf q2)] at h; exact h
theorem sp_rest {c : Int32} (h : K (b2 (restC c γ).1) (restC c γ).2) : yR (d + 3) 33 0 [some (.ref 13), some (.int c)] [] γ (qI K) := by
  unfold restC at h
  refine w_33_0 ⟨fun e => sp_closes (bB ?_), fun e1 => ⟨fun e => sp_target (bB ?_), fun e2 => ⟨fun e => sp_ends (bB ?_), fun e3 => ⟨fun e => sp_frst (bB ?_), fun e4 => ⟨fun e => sp_target (bB ?_), fun e5 => sp_bet (bB ?_)⟩⟩⟩⟩⟩
  · rw [ifT e] at h; exact h
  · rw [ifF e1, ifT e] at h; exact h
  · rw [ifF e1, ifF e2, ifT e] at h; exact h
  · rw [ifF e1, ifF e2, ifF e3, ifT e] at h; exact h
  · rw [ifF e1, ifF e2, ifF e3, ifF e4, ifT e] at h; exact h
  · rw [ifF e1, ifF e2, ifF e3, ifF e4, ifF e5] at h; exact h
theorem bTF {b : Bool} {ρ : yS} (h : K (b2 b) ρ) : ((b2 b = 0 → K 0 ρ) ∧ (¬ b2 b = 0 → K 1 ρ)) := by
  cases b with
  | true => exact br_t2 h
  | false => exact br_f2 h
theorem sp_takes {c : Int32} (h : K (b2 (takesC c γ).1) (takesC c γ).2) : yR (d + 4) 27 0 [some (.ref 13), some (.int c)] [] γ (qI K) := by
  unfold takesC at h
  have main : (¬ (¬ γ 13 10 ≤ 0 ∧ figC c = true)) → ((¬ (c = 32) → ((((γ 13 5) = 0) → ((¬ (c = 42) → yR (d + 3) 29 0 [some (.ref 13), some (.int 0), none] [] (sg γ 13 10 0) (qI (fun x1 σ1 => (((x1 = 0) → K 0 σ1) ∧ (¬ (x1 = 0) → yR (d + 3) 30 0 [some (.ref 13), some (.int c)] [] σ1 (qI (fun x2 σ2 => (((x2 = 0) → K 0 σ2) ∧ (¬ (x2 = 0) → K 1 σ2))))))))) ∧ ((c = 42) → yR (d + 3) 29 0 [some (.ref 13), some (.int 1), none] [] (sg γ 13 10 0) (qI (fun x3 σ3 => (((x3 = 0) → K 0 σ3) ∧ (¬ (x3 = 0) → K 1 σ3))))))) ∧ (¬ ((γ 13 5) = 0) → ((((γ 13 5) = 1) → yR (d + 3) 30 0 [some (.ref 13), some (.int c)] [] (sg γ 13 10 0) (qI (fun x5 σ5 => (yBo x5 ∧ K x5 σ5)))) ∧ (¬ ((γ 13 5) = 1) → ((((γ 13 5) = 2) → yR (d + 3) 32 0 [some (.ref 13), some (.int c)] [] (sg γ 13 10 0) (qI (fun x6 σ6 => (yBo x6 ∧ K x6 σ6)))) ∧ (¬ ((γ 13 5) = 2) → yR (d + 3) 33 0 [some (.ref 13), some (.int c)] [] (sg γ 13 10 0) (qI (fun x7 σ7 => (yBo x7 ∧ K x7 σ7)))))))))) ∧ ((c = 32) → K 1 (sg γ 13 10 0))) := by
    intro hn
    rw [ifF hn] at h
    refine ⟨fun e => ?_, fun e => by rw [ifT e] at h; exact h⟩
    rw [ifF e] at h
    unfold mainC at h
    have e5 : (sg γ 13 10 0) 13 5 = γ 13 5 := rfl
    rw [e5] at h
    refine ⟨fun z => ⟨fun z2 => sp_begins0 ?_, fun z2 => sp_begins1 ?_⟩, fun z => ⟨fun z2 => sp_unit (bB ?_), fun z2 => ⟨fun z3 => sp_figure (bB ?_), fun z3 => sp_rest (bB ?_)⟩⟩⟩
    · rw [ifT z, ifF z2] at h
      generalize beginsC 0 (sg γ 13 10 0) = r at h ⊢
      obtain ⟨b, r⟩ := r
      cases b with
      | true => exact br_t2 (sp_unit (bTF h))
      | false => exact br_f2 h
    · rw [ifT z, ifT z2] at h
      exact bTF h
    · rw [ifF z, ifT z2] at h; exact h
    · rw [ifF z, ifF z2, ifT z3] at h; exact h
    · rw [ifF z, ifF z2, ifF z3] at h; exact h
  refine w_27_0 ⟨fun q => main (fun z => z.1 q), fun q => sp_fig ?_⟩
  cases hf : figC c with
  | true =>
    rw [ifT ⟨q, hf⟩] at h
    exact br_t2 (sp_more (bB h))
  | false => exact br_f2 (main (fun z => by rw [hf] at z; exact absurd z.2 (by decide)))
end READER
