/-! THE REFERENCE'S go AGAINST THE CLASS'S make -/
/-- a line of the program, in both -/
def bitB (b : Bool) (w : Int32) : Int32 := if srt w = 13 ∨ srt w = 14 ∨ (b = true ∧ srt w = 1) then 1 <<< (nmb w &&& 31) else 0
def bitR (b : Bool) (w : Nat → Int32) : Nat → Nat → Int32 → Int32
  | 0, _, a => a
  | m + 1, n, a => bitR b w m (n + 1) (a ||| bitB b (w n))
def trT : Nat → Nat → Prop := fun _ _ => True
def PLn (kd lf rt nb root ev nd nm tg f : Nat → Int32) (cb sz tp : Nat → Nat) (k : Nat) : Prop :=
  ev k = f (1 + k) ∧ (ev k = 0 ∨ ev k = 1) ∧ nd k = f (9 + k) ∧ f (9 + k) = nI (sz k) ∧ root k = nI (cb k + tp k) ∧ f (17 + k) = nI (tp k) ∧ 1 ≤ sz k ∧ cb k + sz k ≤ 60 ∧
  Tr kd lf rt nb (fun j => f (25 + sumN sz k + j)) trT (cb k) 60 0 (sz k - 1) (tp k) ∧ nm k = bitR true (fun j => f (25 + sumN sz k + j)) (sz k) 0 0 ∧ tg k = bitR false (fun j => f (25 + sumN sz k + j)) (sz k) 0 0
def PRG (kd lf rt nb root ev nd nm tg vl : Nat → Int32) (ln : Int32) (f : Nat → Int32) (n : Nat) (cb sz tp : Nat → Nat) : Prop :=
  n ≤ 8 ∧ ln = nI n ∧ f 0 = nI n ∧ sumN sz n ≤ 60 ∧ (∀ k, k < n → PLn kd lf rt nb root ev nd nm tg f cb sz tp k) ∧ ∀ x, x < 4 → vl x = f (85 + x) ∧ Num (vl x)
/-- the class's STATE at cell b, and a record of the reference -/
def PRc (σ : yS) (b : Nat) (f : Nat → Int32) (n : Nat) (cb sz tp : Nat → Nat) : Prop := PRG (σ (b + 1)) (σ (b + 2)) (σ (b + 3)) (σ (b + 4)) (σ (b + 5)) (σ (b + 6)) (σ (b + 7)) (σ (b + 8)) (σ (b + 9)) (σ (b + 10)) (σ b 10) f n cb sz tp
theorem sumN_le {sz : Nat → Nat} {a b : Nat} (h : a ≤ b) : sumN sz a ≤ sumN sz b := by
  induction b with
  | zero => have : a = 0 := by omega
            subst this; exact Nat.le_refl _
  | succ b ih =>
    by_cases e : a = b + 1
    · subst e; exact Nat.le_refl _
    · have := ih (by omega)
      show sumN sz a ≤ sumN sz b + sz b
      omega
/-- what was said up to line k, in both -/
def ORk (k : Nat) (γ τ : yS) : Prop := ∃ cnt : Nat → Nat, (∀ j, j < k → cnt j ≤ 30) ∧ γ 90 2 = nI (sumN cnt k) ∧ τ 97 33 = nI (sumN cnt k) ∧ (∀ j, j < sumN cnt k → γ 91 j = τ 114 j) ∧
  ∀ j, j < k → γ 92 j = nI (cnt j) ∧ τ 115 j = nI (cnt j) ∧ γ 93 j = τ 116 j ∧ γ 94 j = τ 117 j ∧ (γ 94 j = 0 ∨ γ 94 j = 1) ∧ γ 95 j = if cnt j = 0 then -1999999 else τ 114 (sumN cnt (j + 1) - 1)
theorem sumN_30 {cnt : Nat → Nat} {k : Nat} (h : ∀ j, j < k → cnt j ≤ 30) : sumN cnt k ≤ 30 * k := by
  induction k with
  | zero => exact Nat.le_refl _
  | succ k ih =>
    have := ih (fun j hj => h j (by omega))
    have h2 := h k (by omega)
    show sumN cnt k + cnt k ≤ _
    omega
/-- which cells of the reference a RUN may change -/
def FY (τ τ' : yS) : Prop := (∀ c, c < 97 ∨ (97 < c ∧ c < 108) ∨ 117 < c → τ' c = τ c) ∧ ∀ j, j < 24 ∨ 33 < j → τ' 97 j = τ 97 j
theorem FY.rf {τ : yS} : FY τ τ := ⟨fun _ _ => rfl, fun _ _ => rfl⟩
theorem FY.tr {a b c : yS} (h : FY a b) (g : FY b c) : FY a c := ⟨fun q hq => (g.1 q hq).trans (h.1 q hq), fun j hj => (g.2 j hj).trans (h.2 j hj)⟩
theorem FX.fy {a b : yS} (h : FX a b) : FY a b := ⟨fun c hc => h.1 c (by omega), h.2⟩
theorem FY.sg {a b : yS} {c k : Nat} {v : Int32} (h : FY a b) (h1 : 108 ≤ c) (h2 : c ≤ 117) : FY a (sg b c k v) := ⟨fun q hq => (kp_sg (by omega)).trans (h.1 q hq), fun j hj => by rw [kp_sg (by omega)]; exact h.2 j hj⟩
theorem ln_gl {k : Nat} {root : Int32} : ∀ (m n : Nat) (σ : yS), lnC k root m n σ = finC k (glC (upC k) root m n σ).2 := by
  intro m
  induction m with
  | zero => intro n σ; rfl
  | succ m ih =>
    intro n σ
    unfold lnC glC
    split
    · exact ih _ _
    · rfl
theorem gl_le {U : Nat → yS → yS} {root : Int32} : ∀ (m n : Nat) (γ : yS), n ≤ (glC U root m n γ).1 ∧ (glC U root m n γ).1 ≤ n + m := by
  intro m
  induction m with
  | zero => intro n γ; exact ⟨Nat.le_refl _, Nat.le_refl _⟩
  | succ m ih =>
    intro n γ
    unfold glC
    split
    · have := ih (n + 1) (U n (askC 61 root γ).2)
      omega
    · exact ⟨Nat.le_refl _, by show n ≤ n + (m + 1); omega⟩
section GO
variable {d : Nat} {γ τ : yS} {KV : yS → Prop}
/-- the line's begin, in both machines -/
theorem bl_BR {kd lf rt nb w : Nat → Int32} {mb cb sz tp : Nat} (h1 : 1 ≤ sz) (h60 : sz ≤ 60) (hcb : cb + sz ≤ 60) (hPC : PC kd lf rt nb γ) (hw : ∀ j, τ 98 (mb + j) = w j) (hTr : Tr kd lf rt nb w trT cb 60 0 (sz - 1) tp) (hV : VR γ τ) :
    BR kd lf rt nb w ((blM mb sz tp w τ) 108) mb cb sz tp 0 (beginC (nI (cb + tp)) γ) (blM mb sz tp w τ) ∧ (blM mb sz tp w τ) 108 tp = -1999999 := by
  have hb := hTr.bd
  have eg : beginC (nI (cb + tp)) γ = sg (sg (sg γ 84 7 0) 84 8 0) 86 (cb + tp) 0 := renew_nI (by omega)
  have a1 : ∀ c, c ≠ 97 → c ≠ 108 → c ≠ 109 → (blM mb sz tp w τ) c = τ c := fun c h1 h2 h3 => by
    unfold blM
    rw [kp_sg h3, kp_sg h2, akR_kp h2, kp_sg h1, kp_sg h1, kp_sg h1]
  have a2 : ∀ k, (blM mb sz tp w τ) 97 k = (sg (sg (sg τ 97 24 (nI mb)) 97 25 0) 97 26 0) 97 k := fun k => by
    unfold blM
    rw [kp_sg (by decide), kp_sg (by decide), akR_kp (by decide)]
  have hak : (blM mb sz tp w τ) 108 tp = -1999999 := by
    unfold blM
    rw [kp_sg (by decide)]
    exact sg_same _ _ _ _
  have hk : ∀ n c, 0 ≤ n → n ≤ sz - 1 → c ∈ kids (w n) → (blM mb sz tp w τ) 108 c = nI n := by
    intro n c _ hn hc
    have hne := (hTr.nds (by omega) n (Nat.zero_le _) hn).kid (by omega) hc
    unfold blM
    rw [kp_sg (by decide), sg_ne _ _ _ hne.2.2]
    exact akR_in hc sz 0 _ (Nat.zero_le _) (by omega) (fun n' q1 q2 q3 => hTr.uniq (by omega) n' n c (Nat.zero_le _) (by omega) (Nat.zero_le _) hn q3 hc)
  refine ⟨?_, hak⟩
  rw [eg]
  refine ⟨hPC, ⟨?_, fun j => ?_, rfl⟩, ?_, fun y hy => ?_, rfl, ?_, ?_⟩
  · rw [a2]; rfl
  · rw [a1 98 (by decide) (by decide) (by decide)]; exact hw j
  · refine (hTr.ak (by omega) hk).ts (sg_same _ _ _ _) ?_
    unfold blM
    exact sg_same _ _ _ _
  · rw [a1 112 (by decide) (by decide) (by decide)]; exact hV y hy
  · rw [a2]; rfl
  · refine ⟨?_, ?_, by omega⟩
    · show (0 : Int32) = nI 0
      exact nI_0.symm
    · rw [a2]
      exact nI_0.symm
theorem bl_FX {mb sz tp : Nat} {w : Nat → Int32} : FX τ (blM mb sz tp w τ) := by
  refine ⟨fun c hc => ?_, fun j hj => ?_⟩
  · unfold blM
    rw [kp_sg (by omega), kp_sg (by omega), akR_kp (by omega), kp_sg (by omega), kp_sg (by omega), kp_sg (by omega)]
  · unfold blM
    rw [kp_sg (by decide), kp_sg (by decide), akR_kp (by decide), sg_ne _ _ _ (by omega), sg_ne _ _ _ (by omega), sg_ne _ _ _ (by omega)]
theorem bl_33 {mb sz tp : Nat} {w : Nat → Int32} : (blM mb sz tp w τ) 97 33 = τ 97 33 := by
  unfold blM
  rw [kp_sg (by decide), kp_sg (by decide), akR_kp (by decide), sg_ne _ _ _ (by omega), sg_ne _ _ _ (by omega), sg_ne _ _ _ (by omega)]
theorem bl_114 {mb sz tp c : Nat} {w : Nat → Int32} (h : 109 < c) : (blM mb sz tp w τ) c = τ c := by
  unfold blM
  rw [kp_sg (by omega), kp_sg (by omega), akR_kp (by omega), kp_sg (by omega), kp_sg (by omega), kp_sg (by omega)]
/-- goLine, with any ghost's doings -/
theorem sm_goLine {every : Int32} {n k : Nat} {cb sz tp : Nat → Nat} {U : Nat → yS → yS} {T E : Nat → yS → yS → Prop} {most : Nat}
    (hP : PRc γ 2 (τ 98) n cb sz tp) (hk : k < n) (hV : VR γ τ) (hm : (every = 0 ∧ most = 1) ∨ (every = 1 ∧ most = 30))
    (hU : ∀ n γ c, c < 90 → (U n γ) c = γ c)
    (hfr : ∀ n γ τ r τ', n < most → T n γ τ → r = askC 61 (nI (cb k + tp k)) γ → r.1 = false → (∀ c, 89 < c → r.2 c = γ c) → τ' 114 = τ 114 → τ' 97 33 = τ 97 33 → (∀ c, 114 < c → τ' c = τ c) → E n r.2 τ') (hend : ∀ γ τ, T most γ τ → E most γ τ)
    (hsz : ∀ n γ τ, n ≤ most → T n γ τ → ∃ s : Nat, τ 97 33 = nI s ∧ s ≤ 240 + n - most)
    (hst : ∀ n γ τ r τ1, n < most → T n γ τ → r = askC 61 (nI (cb k + tp k)) γ → r.1 = true → τ1 114 = τ 114 → τ1 97 33 = τ 97 33 → (∀ c, 114 < c → τ1 c = τ c) → τ1 97 30 = r.2 84 6 → (∀ c, 89 < c → r.2 c = γ c) → T (n + 1) (U n r.2) (stM τ1))
    (h0 : T 0 (beginC (nI (cb k + tp k)) γ) (blM (25 + sumN sz k) (sz k) (tp k) (fun j => τ 98 (25 + sumN sz k + j)) τ))
    (hK : ∀ τ', ER (γ 3) (γ 4) (γ 5) (γ 6) (glC U (nI (cb k + tp k)) most 0 (beginC (nI (cb k + tp k)) γ)).2 τ' → E (glC U (nI (cb k + tp k)) most 0 (beginC (nI (cb k + tp k)) γ)).1 (glC U (nI (cb k + tp k)) most 0 (beginC (nI (cb k + tp k)) γ)).2 τ' → FX τ τ' →
      KV (sg (sg (sg τ' 115 k (nI (glC U (nI (cb k + tp k)) most 0 (beginC (nI (cb k + tp k)) γ)).1)) 116 k (τ' 97 25)) 117 k (τ' 97 26))) :
    yR (d + 6) 133 0 [some (.ref 97), some (.int (nI k)), some (.int every), none, none] [] τ (qV KV) := by
  obtain ⟨hn8, hln, hf0, hsum, hL, hval⟩ := hP
  obtain ⟨l1, l2, l3, l4, l5, l6, l7, l8, l9, l10, l11⟩ := hL k hk
  have hs1 : sumN sz k + sz k ≤ 60 := by
    have : sumN sz (k + 1) ≤ sumN sz n := sumN_le (by omega)
    have e : sumN sz (k + 1) = sumN sz k + sz k := rfl
    omega
  have hb := l9.bd
  refine w_133_0 (sm_bl (d := d + 3) (sz := sz) (n := sz k) (tp := tp k) (w := fun j => τ 98 (25 + sumN sz k + j)) (by omega) (fun j hj => (hL j (by omega)).2.2.2.1) rfl l4 l6 (by omega) (by omega) (by omega) (fun j => rfl) (fun j hj => l9.nds (by omega) j (Nat.zero_le _) (by omega)) ?_)
  obtain ⟨hB, hak⟩ := bl_BR (γ := γ) (τ := τ) (mb := 25 + sumN sz k) (w := fun j => τ 98 (25 + sumN sz k + j)) l7 (by omega) (by omega) ⟨rfl, rfl, rfl, rfl⟩ (fun j => rfl) l9 hV
  have go := gl_loop (kd := γ 3) (lf := γ 4) (rt := γ 5) (nb := γ 6) (d := d) (every := every) (k := nI k) (kn := k) U T E rfl (by omega) l7 (by omega) (by omega) (by omega) hak hU most (by omega) hfr hend hsz hst most 0 (by omega) _ _ 0 KV (by rw [bl_FX.1 98 (by omega)]; exact l6) hB h0 (fun τ' e1 e2 e3 => hK τ' e1 e2 (bl_FX.tr e3))
  rw [nI_0] at go
  rcases hm with ⟨e1, e2⟩ | ⟨e1, e2⟩
  · subst e1; subst e2
    exact br_f2 go
  · subst e1; subst e2
    exact br_t2 go
end GO
