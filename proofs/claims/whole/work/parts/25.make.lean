/-! the class's RUN as a function: say, makeLine, make -/
theorem ask61 {d : Nat} {n : Int32} {σ : yS} {K : Int32 → yS → Prop} (h : K (b2 (askC 61 n σ).1) (askC 61 n σ).2) : yR (d + 125) 7 0 [some (.ref 84), some (.int n), some (.int 0)] [] σ (qI K) := by
  have := sp_ask 61 0 d rfl n σ K h
  rw [nI_0] at this
  exact this
def beginC (root : Int32) (σ : yS) : yS := renewC root (sg (sg σ 84 7 0) 84 8 0)
theorem sp_beginLine {d : Nat} {n : Int32} {σ : yS} {K : yS → Prop} (h : K (beginC n σ)) : yR (d + 2) 5 0 [some (.ref 84), some (.int n)] [] σ (qV K) := w_5_0 (sp_renew h)
def brunC (σ : yS) : yS := sgA σ 85 (va_cpy (σ 12) (σ 85) 0 0 4)
theorem sp_beginRun {d : Nat} {σ : yS} {K : yS → Prop} (h : K (brunC σ)) : yR (d + 1) 4 0 [some (.ref 84)] [] σ (qV K) := w_4_0 h
def sayC (v : Int32) (σ : yS) : yS := if inN (σ 90 2) 240 = true then sg (sg σ 91 (σ 90 2).toNatClampNeg v) 90 2 (σ 90 2 + 1) else σ
theorem sp_say {d : Nat} {v : Int32} {σ : yS} {K : yS → Prop} (h : K (sayC v σ)) : yR (d + 1) 22 0 [some (.ref 90), some (.int v)] [] σ (qV K) := by
  have e : (¬ σ 90 2 < 0 ∧ ¬ (240 : Int32) ≤ σ 90 2) ↔ vp_in (σ 90 2) 240 := vp_lt (by decide)
  unfold sayC at h
  refine w_22_0 (sp_below (fun q1 q2 => br_t2 ?_) (fun q => br_f2 ?_))
  · have hv := e.mp ⟨q1, Int32.not_le.mpr q2⟩
    rw [if_pos (inN_t.mpr hv)] at h
    exact ⟨hv, h⟩
  · have hv : ¬ vp_in (σ 90 2) 240 := fun z => by
      have := e.mpr z
      rcases q with q | q
      · exact this.1 q
      · exact this.2 q
    rw [if_neg (by rw [inN_f.mpr hv]; decide)] at h
    exact h
/-- the end of a line -/
def finC (k : Nat) (σ : yS) : yS := sg (sg σ 93 k (σ 84 7)) 94 k (if σ 84 8 = 0 then 0 else 1)
def upC (k n : Nat) (σ : yS) : yS := sg (sg (sayC (σ 84 6) σ) 92 k (nI n + 1)) 95 k ((sayC (σ 84 6) σ) 84 6)
def lnC (k : Nat) (root : Int32) : Nat → Nat → yS → yS
  | 0, _, σ => finC k σ
  | m + 1, n, σ => if (askC 61 root σ).1 = true then lnC k root m (n + 1) (upC k n (askC 61 root σ).2) else finC k (askC 61 root σ).2
def mostC (σ : yS) (k : Nat) : Nat := if σ 8 k = 1 then 30 else 1
def mlC (k : Nat) (σ : yS) : yS := lnC k (σ 7 k) (mostC σ k) 0 (beginC (σ 7 k) (sg (sg σ 92 k 0) 95 k (-1999999)))
theorem sp_lnLoop {d k : Nat} {root M : Int32} {K : yS → Prop} (hk : k < 8) (most : Nat) (hM : M = nI most) (h30 : most ≤ 30) : ∀ (m n : Nat), n + m = most → ∀ σ, K (lnC k root m n σ) → yR (d + 126) 21 50 [some (.ref 90), some (.int (nI k)), some (.ref 84), some (.ref 2), some (.int root), some (.int M), some (.int (nI n))] [] σ (qV K) := by
  have ek : (nI k).toNatClampNeg = k := nI_clamp (by omega)
  have hv : vp_in (nI k) 8 := vp_in_nI hk (by decide)
  have fin : ∀ σ : yS, K (finC k σ) → (vp_in (nI k) 8 ∧ ((((σ 84 8) = 0) → K (sg (sg σ 93 (nI k).toNatClampNeg (σ 84 7)) 94 (nI k).toNatClampNeg 0)) ∧ (¬ ((σ 84 8) = 0) → K (sg (sg σ 93 (nI k).toNatClampNeg (σ 84 7)) 94 (nI k).toNatClampNeg 1)))) := by
    intro σ h
    unfold finC at h
    rw [ek]
    refine ⟨hv, fun q => ?_, fun q => ?_⟩
    · rw [if_pos q] at h; exact h
    · rw [if_neg q] at h; exact h
  intro m
  induction m with
  | zero =>
    intro n hn σ h
    have e : n = most := by omega
    subst e
    rw [hM]
    exact w_21_50 ⟨fun _ => fin σ h, fun q => absurd (Int32.le_refl _) q⟩
  | succ m ih =>
    intro n hn σ h
    rw [hM] at ih ⊢
    unfold lnC at h
    refine w_21_50 ⟨fun q => absurd q (nI_ge (by omega) (by omega)), fun _ => ask61 ?_⟩
    cases hb : (askC 61 root σ).1 with
    | true =>
      rw [hb, if_pos rfl] at h
      refine br_t2 (sp_say ⟨hv, ?_⟩)
      rw [ek, nI_1]
      have := ih (n + 1) (by omega) _ h
      unfold upC at this
      rw [nI_1] at this
      exact this
    | false =>
      rw [hb, if_neg (by decide)] at h
      exact br_f2 (fin _ h)
theorem sp_makeLine {d k : Nat} {σ : yS} {K : yS → Prop} (hk : k < 8) (h : K (mlC k σ)) : yR (d + 126) 21 0 [some (.ref 90), some (.int (nI k)), some (.ref 84), some (.ref 2), none, none, none] [] σ (qV K) := by
  have ek : (nI k).toNatClampNeg = k := nI_clamp (by omega)
  have hv : vp_in (nI k) 8 := vp_in_nI hk (by decide)
  unfold mlC mostC at h
  refine w_21_0 ⟨hv, ?_⟩
  rw [ek]
  refine ⟨fun q => sp_beginLine ?_, fun q => sp_beginLine ?_⟩
  · rw [if_neg q] at h
    have := sp_lnLoop (d := d) (M := 1) hk 1 rfl (by omega) 1 0 rfl _ h
    rw [nI_0] at this
    exact this
  · rw [if_pos q] at h
    have := sp_lnLoop (d := d) (M := 30) hk 30 rfl (by omega) 30 0 rfl _ h
    rw [nI_0] at this
    exact this
/-- lines k .. on, n of them -/
def mksC : Nat → Nat → yS → yS
  | 0, _, σ => σ
  | n + 1, k, σ => mksC n (k + 1) (mlC k σ)
def endC (σ : yS) : yS := sg (sgA σ 96 (va_cpy (σ 85) (σ 96) 0 0 4)) 90 0 1
def makeC (n : Nat) (σ : yS) : yS := if σ 90 0 = 0 then endC (mksC n 0 (brunC (sg σ 90 2 0))) else σ
theorem sp_copyV {d : Nat} {σ : yS} {K : yS → Prop} (h : K (sgA σ 96 (va_cpy (σ 85) (σ 96) 0 0 4))) : yR (d + 1) 6 0 [some (.ref 84), some (.ref 96)] [] σ (qV K) := by
  refine w_6_0 (w_149_0 ⟨fun q => absurd q (by decide), fun _ => ⟨by unfold yCp; decide, ?_⟩⟩)
  have e : (4 : Int32).toNatClampNeg = 4 := by decide
  rw [e]; exact h
theorem sp_makeLoop {d N : Nat} {K : yS → Prop} (hN : N ≤ 8) : ∀ (n k : Nat), k + n = N → ∀ σ : yS, (∀ j i : Nat, i ≤ n → j + i = n → (mksC i k σ) 2 10 = nI N) → K (endC (mksC n k σ)) → yR (d + 127) 20 19 [some (.ref 90), some (.ref 84), some (.ref 2), some (.int (nI k))] [] σ (qV K) := by
  intro n
  induction n with
  | zero =>
    intro k hk σ h2 h
    have e := h2 0 0 (Nat.le_refl _) rfl
    have e2 : σ 2 10 = nI N := e
    have ek : k = N := by omega
    refine w_20_19 ⟨fun _ => sp_copyV h, fun q => absurd (by rw [e2, ek]; exact Int32.le_refl _) q⟩
  | succ n ih =>
    intro k hk σ h2 h
    have e2 : σ 2 10 = nI N := h2 (n + 1) 0 (by omega) (by omega)
    refine w_20_19 ⟨fun q => absurd (by rw [e2] at q; exact q) (nI_ge (by omega) (by omega)), fun _ => ⟨fun q => absurd q (nI_ge (a := k) (b := 8) (by omega) (by decide)), fun _ => sp_makeLine (by omega) ?_⟩⟩
    rw [nI_1]
    refine ih (k + 1) (by omega) _ (fun j i hi hj => ?_) h
    exact h2 (n - i) (i + 1) (by omega) (by omega)
section KEEP
variable {c : Nat} {σ : yS}
theorem kp_sg {a k : Nat} {v : Int32} (h : c ≠ a) : (sg σ a k v) c = σ c := sg_cell _ _ _ h
theorem kp_yields {v : Int32} (h : c < 84 ∨ 89 < c) : (yieldsC v σ).2 c = σ c := by
  unfold yieldsC
  split
  · exact (kp_sg (by omega)).trans (kp_sg (by omega))
  · exact kp_sg (by omega)
theorem kp_renew {n : Int32} (h : c < 84 ∨ 89 < c) : (renewC n σ) c = σ c := by
  unfold renewC
  split
  · exact kp_sg (by omega)
  · rfl
theorem kp_leaf {i : Nat} (h : c < 84 ∨ 89 < c) : (leafC i σ).2 c = σ c := by
  unfold leafC
  split
  · split
    · exact (kp_yields h).trans (kp_sg (by omega))
    · split
      · exact (kp_yields h).trans (kp_sg (by omega))
      · exact kp_sg (by omega)
  · rfl
variable {A : Int32 → yS → Bool × yS}
theorem kp_eithR {i : Nat} (hA : ∀ n τ, (A n τ).2 c = τ c) (h : c < 84 ∨ 89 < c) : (eithR A i σ).2 c = σ c := by
  unfold eithR
  split
  · exact (kp_yields h).trans (hA _ _)
  · exact hA _ _
theorem kp_either {i : Nat} (hA : ∀ n τ, (A n τ).2 c = τ c) (h : c < 84 ∨ 89 < c) : (eithC A i σ).2 c = σ c := by
  have e2 : ∀ τ : yS, (eith2 A i τ).2 c = τ c := by
    intro τ
    unfold eith2
    split
    · unfold eithL
      split
      · exact (kp_yields h).trans (hA _ _)
      · exact (kp_eithR hA h).trans ((kp_renew h).trans ((kp_sg (by omega)).trans (hA _ _)))
    · exact kp_eithR hA h
  unfold eithC
  split
  · exact (e2 _).trans ((kp_renew h).trans (kp_sg (by omega)))
  · exact e2 _
theorem kp_first {i : Nat} (hA : ∀ n τ, (A n τ).2 c = τ c) (h : c < 84 ∨ 89 < c) : (frstC A i σ).2 c = σ c := by
  have e2 : ∀ τ : yS, (frst2 A i τ).2 c = τ c := by
    intro τ
    unfold frst2
    split
    · rfl
    · split
      · exact (kp_yields h).trans ((kp_sg (by omega)).trans (hA _ _))
      · exact hA _ _
  unfold frstC
  split
  · exact (e2 _).trans ((kp_renew h).trans ((kp_sg (by omega)).trans (kp_sg (by omega))))
  · exact e2 _
theorem kp_none {i : Nat} (hA : ∀ n τ, (A n τ).2 c = τ c) (h : c < 84 ∨ 89 < c) : (noneC A i σ).2 c = σ c := by
  unfold noneC
  split
  · split
    · exact (hA _ _).trans ((kp_renew h).trans (kp_sg (by omega)))
    · exact (kp_yields h).trans ((hA _ _).trans ((kp_renew h).trans (kp_sg (by omega))))
  · rfl
theorem kp_targ {i : Nat} (hA : ∀ n τ, (A n τ).2 c = τ c) (h : c < 84 ∨ 89 < c) : (targC A i σ).2 c = σ c := by
  have e2 : ∀ (x : Int32) (τ : yS), (targ2 A i x τ).2 c = τ c := by
    intro x τ
    unfold targ2
    split
    · exact (kp_yields h).trans ((kp_sg (by omega)).trans ((kp_sg (by omega)).trans ((hA _ _).trans (kp_sg (by omega)))))
    · exact (hA _ _).trans (kp_sg (by omega))
  unfold targC
  split
  · split
    · exact (e2 _ _).trans (kp_renew h)
    · split
      · exact (e2 _ _).trans (kp_sg (by omega))
      · exact e2 _ _
  · rfl
theorem kp_pairR {i : Nat} {G : yS → Bool × yS} (hA : ∀ n τ, (A n τ).2 c = τ c) (hG : ∀ τ, (G τ).2 c = τ c) (h : c < 84 ∨ 89 < c) : (pairR A i G σ).2 c = σ c := by
  unfold pairR
  split
  · split
    · unfold pairY
      split
      · exact (kp_yields h).trans ((kp_sg (by omega)).trans ((kp_sg (by omega)).trans ((kp_sg (by omega)).trans (hA _ _))))
      · exact (kp_yields h).trans (hA _ _)
    · exact (hG _).trans (hA _ _)
  · exact (hG _).trans ((kp_sg (by omega)).trans (hA _ _))
theorem kp_pairL {i : Nat} (hA : ∀ n τ, (A n τ).2 c = τ c) (h : c < 84 ∨ 89 < c) : ∀ (m : Nat) (σ : yS), (pairL A i m σ).2 c = σ c := by
  intro m
  induction m with
  | zero => intro σ; rfl
  | succ m ih =>
    intro σ
    unfold pairL
    split
    · split
      · exact (kp_pairR hA ih h).trans ((kp_renew h).trans ((kp_sg (by omega)).trans ((kp_sg (by omega)).trans (hA _ _))))
      · exact hA _ _
    · exact kp_pairR hA ih h
theorem kp_pair {i : Nat} (hA : ∀ n τ, (A n τ).2 c = τ c) (h : c < 84 ∨ 89 < c) : (pairC A i σ).2 c = σ c := by
  have e2 : ∀ τ : yS, (pairE A i τ).2 c = τ c := by
    intro τ
    unfold pairE
    split
    · split
      · exact (kp_pairL hA h _ _).trans (kp_sg (by omega))
      · exact (kp_yields h).trans (kp_sg (by omega))
    · exact kp_pairL hA h _ _
  unfold pairC
  split
  · exact (e2 _).trans ((kp_renew h).trans (kp_sg (by omega)))
  · exact e2 _
end KEEP
/-- asking changes the machine's cells alone -/
theorem ask_kp {c : Nat} (h : c < 84 ∨ 89 < c) : ∀ (F : Nat) (n : Int32) (σ : yS), (askC F n σ).2 c = σ c := by
  intro F
  induction F with
  | zero => intro n σ; rfl
  | succ F ih =>
    intro n σ
    unfold askC
    split
    · split
      · split
        · exact kp_none ih h
        · split
          · exact kp_leaf h
          · split
            · exact kp_targ ih h
            · split
              · exact kp_first ih h
              · split
                · exact kp_targ ih h
                · split
                  · exact kp_leaf h
                  · split
                    · exact kp_either ih h
                    · exact kp_pair ih h
      · rfl
    · rfl
theorem say_kp {c : Nat} {v : Int32} {σ : yS} (h : c < 90 ∨ 91 < c) : (sayC v σ) c = σ c := by
  unfold sayC
  split
  · exact (kp_sg (by omega)).trans (kp_sg (by omega))
  · rfl
theorem up_kp {c k n : Nat} {σ : yS} (h : c < 90 ∨ 95 < c) : (upC k n σ) c = σ c := by
  unfold upC
  exact (kp_sg (by omega)).trans ((kp_sg (by omega)).trans (say_kp (by omega)))
theorem fin_kp {c k : Nat} {σ : yS} (h : c < 90 ∨ 95 < c) : (finC k σ) c = σ c := by
  unfold finC
  exact (kp_sg (by omega)).trans (kp_sg (by omega))
theorem ln_kp {c k : Nat} {root : Int32} (h : c < 84 ∨ 95 < c) : ∀ (m n : Nat) (σ : yS), (lnC k root m n σ) c = σ c := by
  intro m
  induction m with
  | zero => intro n σ; exact fin_kp (by omega)
  | succ m ih =>
    intro n σ
    unfold lnC
    split
    · exact (ih _ _).trans ((up_kp (by omega)).trans (ask_kp (by omega) _ _ _))
    · exact (fin_kp (by omega)).trans (ask_kp (by omega) _ _ _)
theorem ml_kp {c k : Nat} {σ : yS} (h : c < 84 ∨ 95 < c) : (mlC k σ) c = σ c := by
  unfold mlC beginC
  exact (ln_kp h _ _ _).trans ((kp_renew (by omega)).trans ((kp_sg (by omega)).trans ((kp_sg (by omega)).trans ((kp_sg (by omega)).trans (kp_sg (by omega))))))
theorem mks_kp {c : Nat} (h : c < 84 ∨ 95 < c) : ∀ (n k : Nat) (σ : yS), (mksC n k σ) c = σ c := by
  intro n
  induction n with
  | zero => intro k σ; rfl
  | succ n ih => intro k σ; exact (ih _ _).trans (ml_kp h)
theorem brun_kp {c : Nat} {σ : yS} (h : c ≠ 85) : (brunC σ) c = σ c := by unfold brunC sgA; rw [if_neg h]
theorem make_kp {c n : Nat} {σ : yS} (h : c < 84 ∨ 96 < c) : (makeC n σ) c = σ c := by
  unfold makeC
  split
  · unfold endC
    refine (kp_sg (by omega)).trans ?_
    unfold sgA
    rw [if_neg (by omega)]
    exact (mks_kp (by omega) _ _ _).trans ((brun_kp (by omega)).trans (kp_sg (by omega)))
  · rfl
theorem sp_make {d N : Nat} {σ : yS} {K : yS → Prop} (hN : N ≤ 8) (hl : σ 2 10 = nI N) (h : K (makeC N σ)) : yR (d + 127) 20 0 [some (.ref 90), some (.ref 84), some (.ref 2), none] [] σ (qV K) := by
  unfold makeC at h
  refine w_20_0 ⟨fun q => sp_beginRun ?_, fun q => ?_⟩
  · rw [if_pos q] at h
    have := sp_makeLoop (d := d) (K := K) hN N 0 (by omega) (brunC (sg σ 90 2 0)) (fun j i _ _ => by rw [mks_kp (by omega), brun_kp (by omega), kp_sg (by omega)]; exact hl) h
    rw [nI_0] at this
    exact this
  · rw [if_neg q] at h; exact h
