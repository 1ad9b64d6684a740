/-! THE TWO MACHINES: the relation between the class's machine (σ) and the reference's (τ), node by node of an interval tree -/
def Num (x : Int32) : Prop := -999999 ≤ x.toInt ∧ x.toInt ≤ 999999
/-- class kinds and reference sorts of the signs with two parts, but | and ~ -/
def twoN : List (Int32 × Int32) := [(38, 2), (60, 4), (62, 5), (61, 6), (43, 8), (45, 9), (42, 10)]
section TREE
variable (kd lf rt nb w : Nat → Int32) (AK : Nat → Nat → Prop) (cb : Nat)
/-- the part of node i that the class has in 'row' and the reference in 'wc' is c -/
def chl (row : Nat → Int32) (wc : Int32) (i c : Nat) : Prop := row (cb + i) = nI (cb + c) ∧ wc = nI c ∧ AK c i
def ndNum (i : Nat) : Prop := kd (cb + i) = 48 ∧ srt (w i) = 0 ∧ nb (cb + i) = nmb (w i) ∧ Num (nmb (w i))
def ndName (i : Nat) : Prop := kd (cb + i) = 97 ∧ srt (w i) = 1 ∧ nb (cb + i) = nmb (w i) ∧ vp_in (nmb (w i)) 4
def ndFst (i : Nat) : Prop := kd (cb + i) = 92 ∧ srt (w i) = 11 ∧ nb (cb + i) = nmb (w i) ∧ ∃ q : Nat, q ≤ 9 ∧ nmb (w i) = nI q
def ndNot (i : Nat) : Prop := kd (cb + i) = 33 ∧ srt (w i) = 12
def ndSet (i : Nat) : Prop := ((kd (cb + i) = 58 ∧ srt (w i) = 13) ∨ (kd (cb + i) = 94 ∧ srt (w i) = 14)) ∧ nb (cb + i) = nmb (w i) ∧ vp_in (nmb (w i)) 4
def ndAlt (i : Nat) : Prop := kd (cb + i) = 124 ∧ srt (w i) = 3
def ndRng (i : Nat) : Prop := kd (cb + i) = 126 ∧ srt (w i) = 7
def ndTwo (i : Nat) : Prop := (kd (cb + i), srt (w i)) ∈ twoN
/-- an expression's nodes: lo .. hi, its own at i -/
def Tr : Nat → Nat → Nat → Nat → Prop
  | 0, _, _, _ => False
  | f + 1, lo, hi, i =>
    (lo = i ∧ hi = i ∧ (ndNum kd nb w cb i ∨ ndName kd nb w cb i))
    ∨ (lo < i ∧ i < hi ∧ (ndAlt kd w cb i ∨ ndRng kd w cb i ∨ ndTwo kd w cb i) ∧ ∃ l r, chl AK cb lf (fst1 (w i)) i l ∧ chl AK cb rt (snd1 (w i)) i r ∧ Tr f lo (i - 1) l ∧ Tr f (i + 1) hi r)
    ∨ (lo < i ∧ i = hi ∧ ndFst kd nb w cb i ∧ ∃ c, chl AK cb rt (fst1 (w i)) i c ∧ Tr f lo (i - 1) c)
    ∨ (lo = i ∧ i < hi ∧ (ndNot kd w cb i ∨ ndSet kd nb w cb i) ∧ ∃ c, chl AK cb rt (fst1 (w i)) i c ∧ Tr f (i + 1) hi c)
variable (σ τ : yS)
/-- the same, with where each machine is to go on -/
def TS : Nat → Nat → Nat → Nat → Prop
  | 0, _, _, _ => False
  | f + 1, lo, hi, i =>
    (σ 86 (cb + i) = 0 ∧ τ 109 i = 0 ∧ Tr kd lf rt nb w AK cb (f + 1) lo hi i)
    ∨ (σ 86 (cb + i) = 4 ∧ τ 109 i = 1 ∧ lo = i ∧ hi = i ∧ (ndNum kd nb w cb i ∨ ndName kd nb w cb i))
    ∨ (σ 86 (cb + i) = 4 ∧ τ 109 i = 1 ∧ lo = i ∧ i < hi ∧ ndNot kd w cb i ∧ ∃ c, chl AK cb rt (fst1 (w i)) i c ∧ Tr kd lf rt nb w AK cb f (i + 1) hi c)
    ∨ (σ 86 (cb + i) = 1 ∧ τ 109 i = 1 ∧ lo < i ∧ i < hi ∧ ndAlt kd w cb i ∧ ∃ l r, chl AK cb lf (fst1 (w i)) i l ∧ chl AK cb rt (snd1 (w i)) i r ∧ TS f lo (i - 1) l ∧ Tr kd lf rt nb w AK cb f (i + 1) hi r)
    ∨ (σ 86 (cb + i) = 2 ∧ τ 109 i = 2 ∧ lo < i ∧ i < hi ∧ ndAlt kd w cb i ∧ ∃ l r, chl AK cb lf (fst1 (w i)) i l ∧ chl AK cb rt (snd1 (w i)) i r ∧ Tr kd lf rt nb w AK cb f lo (i - 1) l ∧ TS f (i + 1) hi r)
    ∨ (σ 86 (cb + i) = 2 ∧ τ 109 i = 2 ∧ σ 87 (cb + i) = τ 113 i ∧ lo < i ∧ i < hi ∧ ndTwo kd w cb i ∧ ∃ l r, chl AK cb lf (fst1 (w i)) i l ∧ chl AK cb rt (snd1 (w i)) i r ∧ TS f lo (i - 1) l ∧ TS f (i + 1) hi r)
    ∨ (σ 86 (cb + i) = 3 ∧ τ 109 i = 3 ∧ σ 87 (cb + i) = τ 113 i ∧ σ 89 (cb + i) = τ 110 i ∧ σ 88 (cb + i) = τ 111 i ∧ Num (σ 89 (cb + i)) ∧ Num (σ 88 (cb + i)) ∧ Num (σ 87 (cb + i)) ∧ lo < i ∧ i < hi ∧ ndRng kd w cb i ∧ ∃ l r, chl AK cb lf (fst1 (w i)) i l ∧ chl AK cb rt (snd1 (w i)) i r ∧ TS f lo (i - 1) l ∧ TS f (i + 1) hi r)
    ∨ (σ 86 (cb + i) = 2 ∧ τ 109 i = 1 ∧ σ 89 (cb + i) = τ 110 i ∧ lo < i ∧ i = hi ∧ ndFst kd nb w cb i ∧ (∃ q p : Nat, τ 110 i = nI q ∧ nmb (w i) = nI p ∧ q ≤ p ∧ p ≤ 9) ∧ ∃ c, chl AK cb rt (fst1 (w i)) i c ∧ TS f lo (i - 1) c)
    ∨ (σ 86 (cb + i) = 2 ∧ τ 109 i = 1 ∧ σ 89 (cb + i) = τ 110 i ∧ Num (σ 89 (cb + i)) ∧ lo = i ∧ i < hi ∧ ndSet kd nb w cb i ∧ ∃ c, chl AK cb rt (fst1 (w i)) i c ∧ TS f (i + 1) hi c)
end TREE
section TREE2
variable {kd lf rt nb w : Nat → Int32} {AK : Nat → Nat → Prop} {cb : Nat}
theorem Tr.bd : ∀ {f lo hi i : Nat}, Tr kd lf rt nb w AK cb f lo hi i → lo ≤ i ∧ i ≤ hi
  | 0, _, _, _, h => h.elim
  | f + 1, lo, hi, i, h => by
    rcases h with ⟨h1, h2, -⟩ | ⟨h1, h2, -⟩ | ⟨h1, h2, -⟩ | ⟨h1, h2, -⟩ <;> omega
theorem TS.bd {σ τ : yS} : ∀ {f lo hi i : Nat}, TS kd lf rt nb w AK cb σ τ f lo hi i → lo ≤ i ∧ i ≤ hi
  | 0, _, _, _, h => h.elim
  | f + 1, lo, hi, i, h => by
    rcases h with ⟨-, -, h⟩ | ⟨-, -, h1, h2, -⟩ | ⟨-, -, h1, h2, -⟩ | ⟨-, -, h1, h2, -⟩ | ⟨-, -, h1, h2, -⟩ | ⟨-, -, -, h1, h2, -⟩ | ⟨-, -, -, -, -, -, -, -, h1, h2, -⟩ | ⟨-, -, -, h1, h2, -⟩ | ⟨-, -, -, -, h1, h2, -⟩
    · exact h.bd
    all_goals omega
/-- a fresh expression -/
theorem Tr.ts {σ τ : yS} {f lo hi i : Nat} (h : Tr kd lf rt nb w AK cb f lo hi i) (h1 : σ 86 (cb + i) = 0) (h2 : τ 109 i = 0) : TS kd lf rt nb w AK cb σ τ f lo hi i := by
  cases f with
  | zero => exact h.elim
  | succ f => exact Or.inl ⟨h1, h2, h⟩
/-- an expression's tree stands under every state of its machine -/
theorem TS.tr {σ τ : yS} : ∀ {f lo hi i : Nat}, TS kd lf rt nb w AK cb σ τ f lo hi i → Tr kd lf rt nb w AK cb f lo hi i
  | 0, _, _, _, h => h.elim
  | f + 1, lo, hi, i, h => by
    rcases h with ⟨-, -, h⟩ | ⟨-, -, h1, h2, h3⟩ | ⟨-, -, h1, h2, h3, c, h4, h5⟩ | ⟨-, -, h1, h2, h3, l, r, h4, h5, h6, h7⟩ | ⟨-, -, h1, h2, h3, l, r, h4, h5, h6, h7⟩ | ⟨-, -, -, h1, h2, h3, l, r, h4, h5, h6, h7⟩ | ⟨-, -, -, -, -, -, -, -, h1, h2, h3, l, r, h4, h5, h6, h7⟩ | ⟨-, -, -, h1, h2, h3, -, c, h4, h5⟩ | ⟨-, -, -, -, h1, h2, h3, c, h4, h5⟩
    · exact h
    · exact Or.inl ⟨h1, h2, h3⟩
    · exact Or.inr (Or.inr (Or.inr ⟨h1, h2, Or.inl h3, c, h4, h5⟩))
    · exact Or.inr (Or.inl ⟨h1, h2, Or.inl h3, l, r, h4, h5, h6.tr, h7⟩)
    · exact Or.inr (Or.inl ⟨h1, h2, Or.inl h3, l, r, h4, h5, h6, h7.tr⟩)
    · exact Or.inr (Or.inl ⟨h1, h2, Or.inr (Or.inr h3), l, r, h4, h5, h6.tr, h7.tr⟩)
    · exact Or.inr (Or.inl ⟨h1, h2, Or.inr (Or.inl h3), l, r, h4, h5, h6.tr, h7.tr⟩)
    · exact Or.inr (Or.inr (Or.inl ⟨h1, h2, h3, c, h4, h5.tr⟩))
    · exact Or.inr (Or.inr (Or.inr ⟨h1, h2, Or.inr h3, c, h4, h5.tr⟩))
/-- what lies outside may change -/
theorem TS.fr {σ τ σ' τ' : yS} : ∀ {f lo hi i : Nat}, TS kd lf rt nb w AK cb σ τ f lo hi i → (∀ j, lo ≤ j → j ≤ hi → σ' 86 (cb + j) = σ 86 (cb + j) ∧ σ' 87 (cb + j) = σ 87 (cb + j) ∧ σ' 88 (cb + j) = σ 88 (cb + j) ∧ σ' 89 (cb + j) = σ 89 (cb + j)) →
    (∀ j, lo ≤ j → j ≤ hi → τ' 109 j = τ 109 j ∧ τ' 110 j = τ 110 j ∧ τ' 111 j = τ 111 j ∧ τ' 113 j = τ 113 j) → TS kd lf rt nb w AK cb σ' τ' f lo hi i
  | 0, _, _, _, h, _, _ => h.elim
  | f + 1, lo, hi, i, h, a, b => by
    have hb := h.bd
    obtain ⟨a1, a2, a3, a4⟩ := a i hb.1 hb.2
    obtain ⟨b1, b2, b3, b4⟩ := b i hb.1 hb.2
    unfold TS
    rw [a1, a2, a3, a4, b1, b2, b3, b4]
    rcases h with h | h | h | ⟨g1, g2, h1, h2, h3, l, r, h4, h5, h6, h7⟩ | ⟨g1, g2, h1, h2, h3, l, r, h4, h5, h6, h7⟩ | ⟨g1, g2, g3, h1, h2, h3, l, r, h4, h5, h6, h7⟩ | ⟨g1, g2, g3, g4, g5, g6, g7, g8, h1, h2, h3, l, r, h4, h5, h6, h7⟩ | ⟨g1, g2, g3, h1, h2, h3, h3', c, h4, h5⟩ | ⟨g1, g2, g3, g4, h1, h2, h3, c, h4, h5⟩
    · exact Or.inl h
    · exact Or.inr (Or.inl h)
    · exact Or.inr (Or.inr (Or.inl h))
    · exact Or.inr (Or.inr (Or.inr (Or.inl ⟨g1, g2, h1, h2, h3, l, r, h4, h5, h6.fr (fun j q1 q2 => a j q1 (by omega)) (fun j q1 q2 => b j q1 (by omega)), h7⟩)))
    · exact Or.inr (Or.inr (Or.inr (Or.inr (Or.inl ⟨g1, g2, h1, h2, h3, l, r, h4, h5, h6, h7.fr (fun j q1 q2 => a j (by omega) q2) (fun j q1 q2 => b j (by omega) q2)⟩))))
    · exact Or.inr (Or.inr (Or.inr (Or.inr (Or.inr (Or.inl ⟨g1, g2, g3, h1, h2, h3, l, r, h4, h5, h6.fr (fun j q1 q2 => a j q1 (by omega)) (fun j q1 q2 => b j q1 (by omega)), h7.fr (fun j q1 q2 => a j (by omega) q2) (fun j q1 q2 => b j (by omega) q2)⟩)))))
    · exact Or.inr (Or.inr (Or.inr (Or.inr (Or.inr (Or.inr (Or.inl ⟨g1, g2, g3, g4, g5, g6, g7, g8, h1, h2, h3, l, r, h4, h5, h6.fr (fun j q1 q2 => a j q1 (by omega)) (fun j q1 q2 => b j q1 (by omega)), h7.fr (fun j q1 q2 => a j (by omega) q2) (fun j q1 q2 => b j (by omega) q2)⟩))))))
    · exact Or.inr (Or.inr (Or.inr (Or.inr (Or.inr (Or.inr (Or.inr (Or.inl ⟨g1, g2, g3, h1, h2, h3, h3', c, h4, h5.fr (fun j q1 q2 => a j q1 (by omega)) (fun j q1 q2 => b j q1 (by omega))⟩)))))))
    · exact Or.inr (Or.inr (Or.inr (Or.inr (Or.inr (Or.inr (Or.inr (Or.inr ⟨g1, g2, g3, g4, h1, h2, h3, c, h4, h5.fr (fun j q1 q2 => a j (by omega) q2) (fun j q1 q2 => b j (by omega) q2)⟩)))))))
end TREE2
/-- frames: which places of the machines an asking of lo .. hi may change -/
def FC (lo hi : Nat) (σ σ' : yS) : Prop := (∀ c, c < 84 ∨ 89 < c → σ' c = σ c) ∧ ∀ c j, 86 ≤ c → (j < lo ∨ hi < j) → σ' c j = σ c j
def FM (lo hi : Nat) (τ τ' : yS) : Prop := (∀ c, c ≠ 97 → c ≠ 109 → c ≠ 110 → c ≠ 111 → c ≠ 112 → c ≠ 113 → τ' c = τ c) ∧ (∀ c j, 109 ≤ c → c ≠ 112 → (j < lo ∨ hi < j) → τ' c j = τ c j) ∧ ∀ k, k < 25 ∨ 30 < k → τ' 97 k = τ 97 k
theorem FC.rf {lo hi : Nat} {σ : yS} : FC lo hi σ σ := ⟨fun _ _ => rfl, fun _ _ _ _ => rfl⟩
theorem FM.rf {lo hi : Nat} {σ : yS} : FM lo hi σ σ := ⟨fun _ _ _ _ _ _ _ => rfl, fun _ _ _ _ _ => rfl, fun _ _ => rfl⟩
theorem FC.tr {lo hi lo' hi' : Nat} {a b c : yS} (h1 : FC lo hi a b) (h2 : FC lo' hi' b c) (hl : lo ≤ lo') (hh : hi' ≤ hi) : FC lo hi a c :=
  ⟨fun q h => (h2.1 q h).trans (h1.1 q h), fun q j h g => (h2.2 q j h (by omega)).trans (h1.2 q j h g)⟩
theorem FM.tr {lo hi lo' hi' : Nat} {a b c : yS} (h1 : FM lo hi a b) (h2 : FM lo' hi' b c) (hl : lo ≤ lo') (hh : hi' ≤ hi) : FM lo hi a c :=
  ⟨fun q g1 g2 g3 g4 g5 g6 => (h2.1 q g1 g2 g3 g4 g5 g6).trans (h1.1 q g1 g2 g3 g4 g5 g6), fun q j h g k => (h2.2.1 q j h g (by omega)).trans (h1.2.1 q j h g k), fun k g => (h2.2.2 k g).trans (h1.2.2 k g)⟩
theorem FC.st {lo hi c j : Nat} {a b : yS} {v : Int32} (h : FC lo hi a b) (h1 : 86 ≤ c) (h2 : c ≤ 89) (h3 : lo ≤ j) (h4 : j ≤ hi) : FC lo hi a (sg b c j v) := by
  refine ⟨fun q hq => ?_, fun q k hq hk => ?_⟩
  · rw [sg_cell _ _ _ (by omega)]; exact h.1 q hq
  · by_cases e : q = c
    · subst e; rw [sg_ne _ _ _ (by omega)]; exact h.2 q k hq hk
    · rw [sg_cell _ _ _ e]; exact h.2 q k hq hk
theorem FC.s4 {lo hi c j : Nat} {a b : yS} {v : Int32} (h : FC lo hi a b) (h1 : 84 ≤ c) (h2 : c ≤ 85) : FC lo hi a (sg b c j v) := by
  refine ⟨fun q hq => ?_, fun q k hq hk => ?_⟩
  · rw [sg_cell _ _ _ (by omega)]; exact h.1 q hq
  · rw [sg_cell _ _ _ (by omega)]; exact h.2 q k hq hk
theorem FM.st {lo hi c j : Nat} {a b : yS} {v : Int32} (h : FM lo hi a b) (h1 : c = 109 ∨ c = 110 ∨ c = 111 ∨ c = 113) (h3 : lo ≤ j) (h4 : j ≤ hi) : FM lo hi a (sg b c j v) := by
  refine ⟨fun q g1 g2 g3 g4 g5 g6 => ?_, fun q k hq hn hk => ?_, fun k hk => ?_⟩
  · rw [sg_cell _ _ _ (by omega)]; exact h.1 q g1 g2 g3 g4 g5 g6
  · by_cases e : q = c
    · subst e; rw [sg_ne _ _ _ (by omega)]; exact h.2.1 q k hq hn hk
    · rw [sg_cell _ _ _ e]; exact h.2.1 q k hq hn hk
  · rw [sg_cell _ _ _ (by omega)]; exact h.2.2 k hk
theorem FM.s7 {lo hi j : Nat} {a b : yS} {v : Int32} (h : FM lo hi a b) (h1 : 25 ≤ j) (h2 : j ≤ 30) : FM lo hi a (sg b 97 j v) := by
  refine ⟨fun q g1 g2 g3 g4 g5 g6 => ?_, fun q k hq hn hk => ?_, fun k hk => ?_⟩
  · rw [sg_cell _ _ _ g1]; exact h.1 q g1 g2 g3 g4 g5 g6
  · rw [sg_cell _ _ _ (by omega)]; exact h.2.1 q k hq hn hk
  · rw [sg_ne _ _ _ (by omega)]; exact h.2.2 k hk
theorem FM.s2 {lo hi j : Nat} {a b : yS} {v : Int32} (h : FM lo hi a b) : FM lo hi a (sg b 112 j v) := by
  refine ⟨fun q g1 g2 g3 g4 g5 g6 => ?_, fun q k hq hn hk => ?_, fun k hk => ?_⟩
  · rw [sg_cell _ _ _ g5]; exact h.1 q g1 g2 g3 g4 g5 g6
  · rw [sg_cell _ _ _ hn]; exact h.2.1 q k hq hn hk
  · rw [sg_cell _ _ _ (by omega)]; exact h.2.2 k hk
theorem FM.yield {lo hi : Nat} {a b : yS} {v : Int32} (h : FM lo hi a b) : FM lo hi a (mYield v b) := by
  unfold mYield
  exact ((((h.s7 (by omega) (by omega)).s7 (by omega) (by omega)).s7 (by omega) (by omega)).s7 (by omega) (by omega)).s7 (by omega) (by omega)
theorem FM.none {lo hi : Nat} {a b : yS} (h : FM lo hi a b) : FM lo hi a (mNone b) := by
  unfold mNone
  exact ((h.s7 (by omega) (by omega)).s7 (by omega) (by omega)).s7 (by omega) (by omega)
theorem FM.ask {lo hi : Nat} {a b : yS} {p : Int32} (h : FM lo hi a b) : FM lo hi a (mAsk p b) := by
  unfold mAsk
  exact (h.s7 (by omega) (by omega)).s7 (by omega) (by omega)
theorem FM.askN {lo hi : Nat} {a b : yS} {p : Nat} (h : FM lo hi a b) (h1 : lo ≤ p) (h2 : p ≤ hi) (h3 : p < 60) : FM lo hi a (mAskN (nI p) b) := by
  unfold mAskN
  rw [nI_clamp (by omega)]
  exact ((h.s7 (by omega) (by omega)).s7 (by omega) (by omega)).st (Or.inl rfl) h1 h2
