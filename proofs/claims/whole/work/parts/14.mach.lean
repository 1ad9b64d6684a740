/-! THE CLASS'S MACHINE AS FUNCTIONS of the state (cells 84 .. 89; the program in 3 .. 6) -/
def inN (n : Int32) (k : Nat) : Bool := decide (¬ (n < 0 ∨ k ≤ n.toNatClampNeg))
theorem inN_t {n : Int32} {k : Nat} : inN n k = true ↔ vp_in n k := by unfold inN vp_in; simp
theorem inN_f {n : Int32} {k : Nat} : inN n k = false ↔ ¬ vp_in n k := by unfold inN vp_in; simp
def b2 (b : Bool) : Int32 := if b then 1 else 0
theorem b2_bo (b : Bool) : yBo (b2 b) := by cases b <;> simp [b2, yBo]
theorem b2_t : b2 true = 1 := rfl
theorem b2_f : b2 false = 0 := rfl
theorem one_ne : ¬ (1 : Int32) = 0 := by decide
section SP0
variable {d : Nat} {σ : yS} {K : Int32 → yS → Prop} {KV : yS → Prop}
theorem sp_below {v b : Int32} (h1 : ¬ v < 0 → v < b → K 1 σ) (h0 : (v < 0 ∨ b ≤ v) → K 0 σ) : yR d 76 0 [some (.int v), some (.int b)] [] σ (qI K) := by
  refine w_76_0 ⟨fun q => h0 (Or.inl q), fun q => ⟨fun q2 => h0 (Or.inr q2), fun q2 => h1 q (Int32.not_le.mp q2)⟩⟩
theorem vp_lt {v : Int32} {n : Nat} {b : Int32} (hb : b.toInt = n) : (¬ v < 0 ∧ ¬ b ≤ v) ↔ vp_in v n := by
  rw [vp_in_iff, Int32.lt_iff_toInt_lt, Int32.le_iff_toInt_le, hb, Int32.toInt_zero]
  omega
theorem sp_isNode {v : Int32} (h1 : vp_in v 60 → K 1 σ) (h0 : ¬ vp_in v 60 → K 0 σ) : yR d 77 0 [some (.int v)] [] σ (qI K) := by
  have e : (¬ v < 0 ∧ ¬ (60 : Int32) ≤ v) ↔ vp_in v 60 := vp_lt (by decide)
  exact w_77_0 ⟨fun q => h0 (fun z => (e.mpr z).1 q), fun q => ⟨fun q2 => h0 (fun z => (e.mpr z).2 q2), fun q2 => h1 (e.mp ⟨q, q2⟩)⟩⟩
theorem sp_isName {v : Int32} (h1 : vp_in v 4 → K 1 σ) (h0 : ¬ vp_in v 4 → K 0 σ) : yR d 75 0 [some (.int v)] [] σ (qI K) := by
  have e : (¬ v < 0 ∧ ¬ (4 : Int32) ≤ v) ↔ vp_in v 4 := vp_lt (by decide)
  exact w_75_0 ⟨fun q => h0 (fun z => (e.mpr z).1 q), fun q => ⟨fun q2 => h0 (fun z => (e.mpr z).2 q2), fun q2 => h1 (e.mp ⟨q, q2⟩)⟩⟩
def yieldsC (v : Int32) (σ : yS) : Bool × yS := if σ 84 7 < 1000 then (true, sg (sg σ 84 7 (σ 84 7 + 1)) 84 6 v) else (false, sg σ 84 8 1)
theorem sp_yields {v : Int32} (h : K (b2 (yieldsC v σ).1) (yieldsC v σ).2) : yR d 8 0 [some (.ref 84), some (.int v)] [] σ (qI K) := by
  unfold yieldsC at h
  refine w_8_0 ⟨fun q => ?_, fun q => ?_⟩
  · rw [if_pos q] at h; exact h
  · rw [if_neg q] at h; exact h
def renewC (n : Int32) (σ : yS) : yS := if inN n 60 = true then sg σ 86 n.toNatClampNeg 0 else σ
theorem sp_renew {n : Int32} (h : KV (renewC n σ)) : yR (d + 1) 9 0 [some (.ref 84), some (.int n)] [] σ (qV KV) := by
  unfold renewC at h
  refine w_9_0 (sp_isNode (fun q => ⟨fun q2 => absurd q2 one_ne, fun _ => ⟨q, ?_⟩⟩) (fun q => ⟨fun _ => ?_, fun q2 => absurd rfl q2⟩))
  · rw [if_pos (inN_t.mpr q)] at h; exact h
  · rw [if_neg (by rw [inN_f.mpr q]; decide)] at h; exact h
/-- what a pair makes of both -/
def reckC (k : Int32) (x y : Int64) : Int64 := if k = 42 then x * y else if k = 43 then x + y else if k = 45 then x - y else y
theorem sp_reck {KL : Int64 → yS → Prop} {k : Int32} {x y : Int64} (h : KL (reckC k x y) σ) : yR d 18 0 [some (.int k), some (.long x), none, some (.long y), none] [] σ (qL KL) := by
  unfold reckC at h
  refine w_18_0 ⟨fun q => ?_, fun q => ⟨fun q2 => ?_, fun q2 => ⟨fun q3 => ?_, fun q3 => ⟨fun q4 => ?_, fun q4 => ?_⟩⟩⟩⟩
  · rw [if_pos q] at h; exact h
  · rw [if_neg q, if_pos q2] at h; exact h
  · rw [if_neg q, if_neg q2, if_neg (by rw [q3]; decide)] at h; exact h
  · rw [if_neg q, if_neg q2, if_pos q4] at h; exact h
  · rw [if_neg q, if_neg q2, if_neg q4] at h; exact h
def numC (x : Int64) : Bool := decide (¬ lg_cmp x (-999999) < 0 ∧ ¬ 0 < lg_cmp x 999999)
theorem sp_isNumber {x : Int64} (h : K (b2 (numC x)) σ) : yR d 78 0 [some (.long x), none] [] σ (qI K) := by
  unfold numC at h
  refine w_78_0 ⟨fun q => ?_, fun q => ⟨fun q2 => ?_, fun q2 => ?_⟩⟩
  · rw [decide_eq_false (fun z => z.1 q)] at h; exact h
  · rw [decide_eq_false (fun z => z.2 q2)] at h; exact h
  · rw [decide_eq_true ⟨q, q2⟩] at h; exact h
/-- whether a pair has a result -/
def hasC (k x y : Int32) : Bool := if k = 126 then decide (x ≤ y) else if k = 60 then decide (x < y) else if k = 62 then decide (y < x) else if k = 61 then decide (x = y) else numC (reckC k x.toInt64 y.toInt64)
theorem sp_has {n x y : Int32} (hn : vp_in n 60) (h : K (b2 (hasC (σ 3 n.toNatClampNeg) x y)) σ) : yR (d + 1) 16 0 [some (.ref 84), some (.int n), some (.int x), some (.int y)] [] σ (qI K) := by
  unfold hasC at h
  have e1 : ¬ (60 : Int32) = 126 := by decide
  have e2 : ¬ (61 : Int32) = 126 := by decide
  have e3 : ¬ (62 : Int32) = 126 := by decide
  have e4 : ¬ (61 : Int32) = 60 := by decide
  have e5 : ¬ (62 : Int32) = 60 := by decide
  have e6 : ¬ (61 : Int32) = 62 := by decide
  refine w_16_0 ⟨hn, fun q => ?_, fun q => ⟨fun q2 => ?_, fun q2 => ⟨fun q3 => ?_, fun q3 => ⟨fun q4 => ?_, fun q4 => sp_reck (sp_isNumber ?_)⟩⟩⟩⟩
  · rw [q, if_neg e1, if_pos rfl] at h
    refine ⟨fun z => ?_, fun z => ?_⟩
    · rw [decide_eq_false (Int32.not_lt.mpr z)] at h; exact h
    · rw [decide_eq_true (Int32.not_le.mp z)] at h; exact h
  · rw [q2, if_neg e2, if_neg e4, if_neg e6, if_pos rfl] at h
    refine ⟨fun z => ?_, fun z => ?_⟩
    · rw [decide_eq_false z] at h; exact h
    · rw [decide_eq_true z] at h; exact h
  · rw [q3, if_neg e3, if_neg e5, if_pos rfl] at h
    refine ⟨fun z => ?_, fun z => ?_⟩
    · rw [decide_eq_false (Int32.not_lt.mpr z)] at h; exact h
    · rw [decide_eq_true (Int32.not_le.mp z)] at h; exact h
  · rw [q4, if_pos rfl] at h
    refine ⟨fun z => ?_, fun z => ?_⟩
    · rw [decide_eq_false (Int32.not_le.mpr z)] at h; exact h
    · rw [decide_eq_true (Int32.not_lt.mp z)] at h; exact h
  · rw [if_neg q4, if_neg q, if_neg q3, if_neg q2] at h
    exact ⟨b2_bo _, h⟩
def pairY (n : Nat) (x y : Int32) (σ : yS) : Bool × yS := if σ 3 n = 126 then yieldsC x (sg (sg (sg σ 86 n 3) 89 n x) 88 n y) else yieldsC (reckC (σ 3 n) x.toInt64 y.toInt64).toInt32 σ
theorem sp_pairY {n x y : Int32} (hn : vp_in n 60) (h : K (b2 (pairY n.toNatClampNeg x y σ).1) (pairY n.toNatClampNeg x y σ).2) : yR (d + 1) 17 0 [some (.ref 84), some (.int n), some (.int x), some (.int y)] [] σ (qI K) := by
  unfold pairY at h
  refine w_17_0 ⟨hn, fun q => sp_reck (sp_yields ?_), fun q => sp_yields ?_⟩
  · rw [if_neg q] at h; exact ⟨b2_bo _, h⟩
  · rw [if_pos q] at h; exact ⟨b2_bo _, h⟩
def leafC (i : Nat) (σ : yS) : Bool × yS := if σ 86 i = 0 then (if σ 3 i = 48 then yieldsC (σ 6 i) (sg σ 86 i 4) else if inN (σ 6 i) 4 = true then yieldsC (σ 85 (σ 6 i).toNatClampNeg) (sg σ 86 i 4) else (false, sg σ 86 i 4)) else (false, σ)
theorem sp_leaf {n : Int32} (hn : vp_in n 60) (h : K (b2 (leafC n.toNatClampNeg σ).1) (leafC n.toNatClampNeg σ).2) : yR (d + 1) 10 0 [some (.ref 84), some (.int n), none] [] σ (qI K) := by
  unfold leafC at h
  refine w_10_0 ⟨hn, fun q => ⟨fun q2 => sp_isName (fun q3 => ⟨fun z => absurd z one_ne, fun _ => ⟨q3, sp_yields ?_⟩⟩) (fun q3 => ⟨fun _ => ?_, fun z => absurd rfl z⟩), fun q2 => sp_yields ?_⟩, fun q => ?_⟩
  · rw [if_pos q, if_neg q2, if_pos (inN_t.mpr q3)] at h
    have e : (sg σ 86 n.toNatClampNeg 4) 85 (σ 6 n.toNatClampNeg).toNatClampNeg = σ 85 (σ 6 n.toNatClampNeg).toNatClampNeg := rfl
    rw [e]
    cases hb : (yieldsC (σ 85 (σ 6 n.toNatClampNeg).toNatClampNeg) (sg σ 86 n.toNatClampNeg 4)).1 with
    | true => rw [hb] at h; exact ⟨fun z => absurd z one_ne, fun _ => h⟩
    | false => rw [hb] at h; exact ⟨fun _ => h, fun z => absurd rfl z⟩
  · rw [if_pos q, if_neg q2, if_neg (by rw [inN_f.mpr q3]; decide)] at h; exact h
  · rw [if_pos q, if_pos q2] at h; exact ⟨b2_bo _, h⟩
  · rw [if_neg q] at h; exact h
end SP0
