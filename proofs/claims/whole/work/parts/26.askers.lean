/-! THE REFERENCE'S beginLine: who asks whom -/
/-- a node's parts, by its word -/
def kids (w : Int32) : List Nat := if srt w ≤ 1 then [] else if srt w ≤ 10 then [(fst1 w).toNatClampNeg, (snd1 w).toNatClampNeg] else [(fst1 w).toNatClampNeg]
theorem nI_cl {n : Nat} (h : n < 60) : (nI n).toNatClampNeg = n := nI_clamp (by omega)
section AKS
variable {kd lf rt nb w : Nat → Int32} {AK : Nat → Nat → Prop} {cb : Nat}
/-- the sort of a node of each kind -/
theorem two_sort {i : Nat} (h : ndAlt kd w cb i ∨ ndRng kd w cb i ∨ ndTwo kd w cb i) : ¬ srt (w i) ≤ 1 ∧ srt (w i) ≤ 10 ∧ 2 ≤ srt (w i) := by
  rcases h with h | h | h
  · rw [h.2]; decide
  · rw [h.2]; decide
  · have h2 : (kd (cb + i), srt (w i)) ∈ twoN := h
    simp only [twoN, List.mem_cons, Prod.mk.injEq, List.not_mem_nil, or_false] at h2
    rcases h2 with ⟨-, e⟩ | ⟨-, e⟩ | ⟨-, e⟩ | ⟨-, e⟩ | ⟨-, e⟩ | ⟨-, e⟩ | ⟨-, e⟩ <;> rw [e] <;> decide
theorem leaf_sort {i : Nat} (h : ndNum kd nb w cb i ∨ ndName kd nb w cb i) : srt (w i) ≤ 1 := by
  rcases h with h | h
  · rw [h.2.1]; decide
  · rw [h.2.1]; decide
theorem un_sort {i : Nat} (h : ndFst kd nb w cb i ∨ ndNot kd w cb i ∨ ndSet kd nb w cb i) : ¬ srt (w i) ≤ 1 ∧ ¬ srt (w i) ≤ 10 := by
  rcases h with h | h | h
  · rw [h.2.1]; decide
  · rw [h.2]; decide
  · rcases h.1 with h | h
    · rw [h.2]; decide
    · rw [h.2]; decide
/-- what the parts of a tree's nodes are -/
def ndOk (w : Nat → Int32) (lo hi i n : Nat) : Prop := srt (w n) ≤ 1 ∨ (¬ srt (w n) ≤ 1 ∧ srt (w n) ≤ 10 ∧ 2 ≤ srt (w n) ∧ ∃ l r, fst1 (w n) = nI l ∧ snd1 (w n) = nI r ∧ lo ≤ l ∧ l ≤ hi ∧ l ≠ i ∧ lo ≤ r ∧ r ≤ hi ∧ r ≠ i) ∨ (¬ srt (w n) ≤ 1 ∧ ¬ srt (w n) ≤ 10 ∧ ∃ c, fst1 (w n) = nI c ∧ lo ≤ c ∧ c ≤ hi ∧ c ≠ i)
theorem ndOk.mono {lo hi i lo' hi' i' n : Nat} (h : ndOk w lo hi i n) (h1 : lo' ≤ lo) (h2 : hi ≤ hi') (h3 : i' < lo ∨ hi < i') : ndOk w lo' hi' i' n := by
  rcases h with h | ⟨a, b, b', l, r, e1, e2, g1, g2, g3, g4, g5, g6⟩ | ⟨a, b, c, e1, g1, g2, g3⟩
  · exact Or.inl h
  · exact Or.inr (Or.inl ⟨a, b, b', l, r, e1, e2, by omega, by omega, by omega, by omega, by omega, by omega⟩)
  · exact Or.inr (Or.inr ⟨a, b, c, e1, by omega, by omega, by omega⟩)
theorem Tr.nds : ∀ {f lo hi i : Nat}, hi < 60 → Tr kd lf rt nb w AK cb f lo hi i → ∀ n, lo ≤ n → n ≤ hi → ndOk w lo hi i n
  | 0, _, _, _, _, h => h.elim
  | f + 1, lo, hi, i, h60, h => by
    intro n hn1 hn2
    rcases h with ⟨h1, h2, h3⟩ | ⟨h1, h2, h3, l, r, h4, h5, h6, h7⟩ | ⟨h1, h2, h3, c, h4, h5⟩ | ⟨h1, h2, h3, c, h4, h5⟩
    · have e : n = i := by omega
      subst e
      exact Or.inl (leaf_sort h3)
    · have b1 := h6.bd
      have b2 := h7.bd
      rcases Nat.lt_trichotomy n i with q | q | q
      · exact (h6.nds (by omega) n hn1 (by omega)).mono (Nat.le_refl _) (by omega) (by omega)
      · subst q
        obtain ⟨s1, s2, s3⟩ := two_sort h3
        exact Or.inr (Or.inl ⟨s1, s2, s3, l, r, h4.2.1, h5.2.1, by omega, by omega, by omega, by omega, by omega, by omega⟩)
      · exact (h7.nds (by omega) n (by omega) hn2).mono (by omega) (by omega) (by omega)
    · have b1 := h5.bd
      rcases Nat.lt_or_ge n i with q | q
      · exact (h5.nds (by omega) n hn1 (by omega)).mono (Nat.le_refl _) (by omega) (by omega)
      · have e : n = i := by omega
        subst e
        obtain ⟨s1, s2⟩ := un_sort (Or.inl h3)
        exact Or.inr (Or.inr ⟨s1, s2, c, h4.2.1, by omega, by omega, by omega⟩)
    · have b1 := h5.bd
      rcases Nat.lt_or_ge i n with q | q
      · exact (h5.nds (by omega) n (by omega) hn2).mono (by omega) (by omega) (by omega)
      · have e : n = i := by omega
        subst e
        obtain ⟨s1, s2⟩ := un_sort (Or.inr h3)
        exact Or.inr (Or.inr ⟨s1, s2, c, h4.2.1, by omega, by omega, by omega⟩)
theorem ndOk.kid {lo hi i n c : Nat} (h : ndOk w lo hi i n) (h60 : hi < 60) (hc : c ∈ kids (w n)) : lo ≤ c ∧ c ≤ hi ∧ c ≠ i := by
  unfold kids at hc
  rcases h with h | ⟨a, b, -, l, r, e1, e2, g1, g2, g3, g4, g5, g6⟩ | ⟨a, b, c', e1, g1, g2, g3⟩
  · rw [if_pos h] at hc; cases hc
  · rw [if_neg a, if_pos b, e1, e2, nI_cl (by omega), nI_cl (by omega)] at hc
    simp only [List.mem_cons, List.not_mem_nil, or_false] at hc
    rcases hc with rfl | rfl <;> omega
  · rw [if_neg a, if_neg b, e1, nI_cl (by omega)] at hc
    simp only [List.mem_cons, List.not_mem_nil, or_false] at hc
    subst hc; omega
theorem Tr.uniq : ∀ {f lo hi i : Nat}, hi < 60 → Tr kd lf rt nb w AK cb f lo hi i → ∀ n n' c, lo ≤ n → n ≤ hi → lo ≤ n' → n' ≤ hi → c ∈ kids (w n) → c ∈ kids (w n') → n = n'
  | 0, _, _, _, _, h => h.elim
  | f + 1, lo, hi, i, h60, h => by
    intro n n' c a1 a2 a3 a4 k1 k2
    rcases h with ⟨h1, h2, h3⟩ | ⟨h1, h2, h3, l, r, h4, h5, h6, h7⟩ | ⟨h1, h2, h3, c', h4, h5⟩ | ⟨h1, h2, h3, c', h4, h5⟩
    · omega
    · have b1 := h6.bd
      have b2 := h7.bd
      obtain ⟨s1, s2, s3⟩ := two_sort h3
      have own : ∀ x, x ∈ kids (w i) → x = l ∨ x = r := by
        intro x hx
        unfold kids at hx
        rw [if_neg s1, if_pos s2, h4.2.1, h5.2.1, nI_cl (by omega), nI_cl (by omega)] at hx
        simpa using hx
      have L : ∀ m, lo ≤ m → m < i → ∀ x, x ∈ kids (w m) → x < i ∧ x ≠ l := fun m m1 m2 x hx => by
        have := (h6.nds (by omega) m m1 (by omega)).kid (by omega) hx
        omega
      have R : ∀ m, i < m → m ≤ hi → ∀ x, x ∈ kids (w m) → i < x ∧ x ≠ r := fun m m1 m2 x hx => by
        have := (h7.nds (by omega) m (by omega) m2).kid (by omega) hx
        omega
      rcases Nat.lt_trichotomy n i with q | q | q <;> rcases Nat.lt_trichotomy n' i with q' | q' | q'
      · exact h6.uniq (by omega) n n' c a1 (by omega) a3 (by omega) k1 k2
      · have x1 := L n a1 q c k1
        rw [q'] at k2
        have x2 := own c k2
        omega
      · have x1 := L n a1 q c k1
        have x2 := R n' q' a4 c k2
        omega
      · have x1 := L n' a3 q' c k2
        rw [q] at k1
        have x2 := own c k1
        omega
      · omega
      · have x1 := R n' q' a4 c k2
        rw [q] at k1
        have x2 := own c k1
        omega
      · have x1 := L n' a3 q' c k2
        have x2 := R n q a2 c k1
        omega
      · have x1 := R n q a2 c k1
        rw [q'] at k2
        have x2 := own c k2
        omega
      · exact h7.uniq (by omega) n n' c (by omega) a2 (by omega) a4 k1 k2
    · have b1 := h5.bd
      obtain ⟨s1, s2⟩ := un_sort (Or.inl h3)
      have own : ∀ x, x ∈ kids (w i) → x = c' := by
        intro x hx
        unfold kids at hx
        rw [if_neg s1, if_neg s2, h4.2.1, nI_cl (by omega)] at hx
        simpa using hx
      have L : ∀ m, lo ≤ m → m < i → ∀ x, x ∈ kids (w m) → x < i ∧ x ≠ c' := fun m m1 m2 x hx => by
        have := (h5.nds (by omega) m m1 (by omega)).kid (by omega) hx
        omega
      rcases Nat.lt_or_ge n i with q | q <;> rcases Nat.lt_or_ge n' i with q' | q'
      · exact h5.uniq (by omega) n n' c a1 (by omega) a3 (by omega) k1 k2
      · have e : n' = i := by omega
        have x1 := L n a1 q c k1
        rw [e] at k2
        have x2 := own c k2
        omega
      · have e : n = i := by omega
        have x1 := L n' a3 q' c k2
        rw [e] at k1
        have x2 := own c k1
        omega
      · omega
    · have b1 := h5.bd
      obtain ⟨s1, s2⟩ := un_sort (Or.inr h3)
      have own : ∀ x, x ∈ kids (w i) → x = c' := by
        intro x hx
        unfold kids at hx
        rw [if_neg s1, if_neg s2, h4.2.1, nI_cl (by omega)] at hx
        simpa using hx
      have R : ∀ m, i < m → m ≤ hi → ∀ x, x ∈ kids (w m) → i < x ∧ x ≠ c' := fun m m1 m2 x hx => by
        have := (h5.nds (by omega) m (by omega) m2).kid (by omega) hx
        omega
      rcases Nat.lt_or_ge i n with q | q <;> rcases Nat.lt_or_ge i n' with q' | q'
      · exact h5.uniq (by omega) n n' c (by omega) a2 (by omega) a4 k1 k2
      · have e : n' = i := by omega
        have x1 := R n q a2 c k1
        rw [e] at k2
        have x2 := own c k2
        omega
      · have e : n = i := by omega
        have x1 := R n' q' a4 c k2
        rw [e] at k1
        have x2 := own c k1
        omega
      · omega
/-- with the askers as they are -/
theorem Tr.ak {ak : Nat → Int32} : ∀ {f lo hi i : Nat}, hi < 60 → Tr kd lf rt nb w AK cb f lo hi i → (∀ n c, lo ≤ n → n ≤ hi → c ∈ kids (w n) → ak c = nI n) → Tr kd lf rt nb w (akp ak) cb f lo hi i
  | 0, _, _, _, _, h, _ => h.elim
  | f + 1, lo, hi, i, h60, h, g => by
    rcases h with ⟨h1, h2, h3⟩ | ⟨h1, h2, h3, l, r, h4, h5, h6, h7⟩ | ⟨h1, h2, h3, c', h4, h5⟩ | ⟨h1, h2, h3, c', h4, h5⟩
    · exact Or.inl ⟨h1, h2, h3⟩
    · have b1 := h6.bd
      have b2 := h7.bd
      obtain ⟨s1, s2, s3⟩ := two_sort h3
      have own : ∀ x, (x = l ∨ x = r) → x ∈ kids (w i) := by
        intro x hx
        unfold kids
        rw [if_neg s1, if_pos s2, h4.2.1, h5.2.1, nI_cl (by omega), nI_cl (by omega)]
        simpa using hx
      exact Or.inr (Or.inl ⟨h1, h2, h3, l, r, ⟨h4.1, h4.2.1, g i l (by omega) (by omega) (own l (Or.inl rfl))⟩, ⟨h5.1, h5.2.1, g i r (by omega) (by omega) (own r (Or.inr rfl))⟩, h6.ak (by omega) (fun n c q1 q2 => g n c q1 (by omega)), h7.ak (by omega) (fun n c q1 q2 => g n c (by omega) q2)⟩)
    · have b1 := h5.bd
      obtain ⟨s1, s2⟩ := un_sort (Or.inl h3)
      have own : c' ∈ kids (w i) := by
        unfold kids
        rw [if_neg s1, if_neg s2, h4.2.1, nI_cl (by omega)]
        simp
      exact Or.inr (Or.inr (Or.inl ⟨h1, h2, h3, c', ⟨h4.1, h4.2.1, g i c' (by omega) (by omega) own⟩, h5.ak (by omega) (fun n c q1 q2 => g n c q1 (by omega))⟩))
    · have b1 := h5.bd
      obtain ⟨s1, s2⟩ := un_sort (Or.inr h3)
      have own : c' ∈ kids (w i) := by
        unfold kids
        rw [if_neg s1, if_neg s2, h4.2.1, nI_cl (by omega)]
        simp
      exact Or.inr (Or.inr (Or.inr ⟨h1, h2, h3, c', ⟨h4.1, h4.2.1, g i c' (by omega) (by omega) own⟩, h5.ak (by omega) (fun n c q1 q2 => g n c (by omega) q2)⟩))
end AKS
/-- the row of askers, node by node -/
def akS (w : Int32) (n : Nat) (τ : yS) : yS := if srt w ≤ 1 then τ else if srt w ≤ 10 then sg (sg τ 108 (fst1 w).toNatClampNeg (nI n)) 108 (snd1 w).toNatClampNeg (nI n) else sg τ 108 (fst1 w).toNatClampNeg (nI n)
def akR (w : Nat → Int32) : Nat → Nat → yS → yS
  | 0, _, τ => τ
  | m + 1, n, τ => akR w m (n + 1) (akS (w n) n τ)
theorem akS_kp {w : Int32} {n c : Nat} {τ : yS} (h : c ≠ 108) : (akS w n τ) c = τ c := by
  unfold akS
  split
  · rfl
  · split
    · exact (kp_sg h).trans (kp_sg h)
    · exact kp_sg h
theorem akR_kp {w : Nat → Int32} {c : Nat} (h : c ≠ 108) : ∀ (m n : Nat) (τ : yS), (akR w m n τ) c = τ c := by
  intro m
  induction m with
  | zero => intro n τ; rfl
  | succ m ih => intro n τ; exact (ih _ _).trans (akS_kp h)
theorem akS_in {w : Int32} {n c : Nat} {τ : yS} (h : c ∈ kids w) : (akS w n τ) 108 c = nI n := by
  unfold kids at h
  unfold akS
  split
  · rename_i q; rw [if_pos q] at h; cases h
  · rename_i q
    rw [if_neg q] at h
    split
    · rename_i q2
      rw [if_pos q2] at h
      simp only [List.mem_cons, List.not_mem_nil, or_false] at h
      by_cases e : c = (snd1 w).toNatClampNeg
      · rw [e, sg_same]
      · rw [sg_ne _ _ _ e]
        rcases h with h | h
        · rw [h, sg_same]
        · exact absurd h e
    · rename_i q2
      rw [if_neg q2] at h
      simp only [List.mem_cons, List.not_mem_nil, or_false] at h
      rw [h, sg_same]
theorem akS_out {w : Int32} {n c : Nat} {τ : yS} (h : c ∉ kids w) : (akS w n τ) 108 c = τ 108 c := by
  unfold kids at h
  unfold akS
  split
  · rfl
  · rename_i q
    rw [if_neg q] at h
    split
    · rename_i q2
      rw [if_pos q2] at h
      simp only [List.mem_cons, List.not_mem_nil, or_false, not_or] at h
      rw [sg_ne _ _ _ h.2, sg_ne _ _ _ h.1]
    · rename_i q2
      rw [if_neg q2] at h
      simp only [List.mem_cons, List.not_mem_nil, or_false] at h
      rw [sg_ne _ _ _ h]
theorem akR_out {w : Nat → Int32} {c : Nat} : ∀ (m s : Nat) (τ : yS), (∀ n, s ≤ n → n < s + m → c ∉ kids (w n)) → (akR w m s τ) 108 c = τ 108 c := by
  intro m
  induction m with
  | zero => intro s τ _; rfl
  | succ m ih =>
    intro s τ h
    exact (ih (s + 1) _ (fun n h1 h2 => h n (by omega) (by omega))).trans (akS_out (h s (Nat.le_refl _) (by omega)))
theorem akR_in {w : Nat → Int32} {c n0 : Nat} (h0 : c ∈ kids (w n0)) : ∀ (m s : Nat) (τ : yS), s ≤ n0 → n0 < s + m → (∀ n, s ≤ n → n < s + m → c ∈ kids (w n) → n = n0) → (akR w m s τ) 108 c = nI n0 := by
  intro m
  induction m with
  | zero => intro s τ h1 h2; omega
  | succ m ih =>
    intro s τ h1 h2 h
    by_cases e : s = n0
    · subst e
      exact (akR_out m (s + 1) _ (fun n q1 q2 q3 => by have := h n (by omega) (by omega) q3; omega)).trans (akS_in h0)
    · exact ih (s + 1) _ (by omega) (by omega) (fun n q1 q2 q3 => h n (by omega) (by omega) q3)
