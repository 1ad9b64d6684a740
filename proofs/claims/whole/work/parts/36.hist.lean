/-! STATES: leave and takeInto of the class, hold, push and back of the reference -/
section CONG
variable {kd lf rt nb w kd' lf' rt' nb' w' : Nat → Int32} {AK : Nat → Nat → Prop} {cb : Nat}
theorem Tr.cong : ∀ {f lo hi i : Nat}, Tr kd lf rt nb w AK cb f lo hi i → (∀ j, lo ≤ j → j ≤ hi → kd' (cb + j) = kd (cb + j) ∧ lf' (cb + j) = lf (cb + j) ∧ rt' (cb + j) = rt (cb + j) ∧ nb' (cb + j) = nb (cb + j) ∧ w' j = w j) → Tr kd' lf' rt' nb' w' AK cb f lo hi i
  | 0, _, _, _, h, _ => h.elim
  | f + 1, lo, hi, i, h, e => by
    have hb := h.bd
    obtain ⟨e1, e2, e3, e4, e5⟩ := e i hb.1 hb.2
    unfold Tr ndNum ndName ndAlt ndRng ndTwo ndFst ndNot ndSet chl
    rw [e1, e2, e3, e4, e5]
    rcases h with ⟨h1, h2, h3⟩ | ⟨h1, h2, h3, l, r, h4, h5, h6, h7⟩ | ⟨h1, h2, h3, c, h4, h5⟩ | ⟨h1, h2, h3, c, h4, h5⟩
    · exact Or.inl ⟨h1, h2, h3⟩
    · exact Or.inr (Or.inl ⟨h1, h2, h3, l, r, h4, h5, h6.cong (fun j g1 g2 => e j g1 (by omega)), h7.cong (fun j g1 g2 => e j (by omega) g2)⟩)
    · exact Or.inr (Or.inr (Or.inl ⟨h1, h2, h3, c, h4, h5.cong (fun j g1 g2 => e j g1 (by omega))⟩))
    · exact Or.inr (Or.inr (Or.inr ⟨h1, h2, h3, c, h4, h5.cong (fun j g1 g2 => e j (by omega) g2)⟩))
end CONG
theorem bitR_cong {b : Bool} {w w' : Nat → Int32} : ∀ (m n : Nat) (a : Int32), (∀ j, n ≤ j → j < n + m → w' j = w j) → bitR b w' m n a = bitR b w m n a := by
  intro m
  induction m with
  | zero => intro n a _; rfl
  | succ m ih =>
    intro n a h
    show bitR b w' m (n + 1) (a ||| bitB b (w' n)) = bitR b w m (n + 1) (a ||| bitB b (w n))
    rw [h n (Nat.le_refl _) (by omega)]
    exact ih (n + 1) _ (fun j h1 h2 => h j (by omega) (by omega))
/-- two STATES of the class hold the same -/
def SE (σ : yS) (b : Nat) (σ' : yS) (b' : Nat) : Prop := (∀ k, 1 ≤ k → k ≤ 4 → ∀ j, j < 60 → σ' (b' + k) j = σ (b + k) j) ∧ (∀ k, 5 ≤ k → k ≤ 9 → ∀ j, j < 8 → σ' (b' + k) j = σ (b + k) j) ∧ (∀ j, j < 4 → σ' (b' + 10) j = σ (b + 10) j) ∧ σ' b' 10 = σ b 10
theorem PRc.cong {σ σ' : yS} {b b' n : Nat} {f f' : Nat → Int32} {cb sz tp : Nat → Nat} (h : PRc σ b f n cb sz tp) (hs : SE σ b σ' b') (hf : ∀ j, j < 89 → f' j = f j) : PRc σ' b' f' n cb sz tp := by
  obtain ⟨h1, h2, h3, h4, h5, h6⟩ := h
  obtain ⟨s1, s2, s3, s4⟩ := hs
  refine ⟨h1, s4.trans h2, (hf 0 (by omega)).trans h3, h4, fun k hk => ?_, fun x hx => ?_⟩
  · obtain ⟨l1, l2, l3, l4, l5, l6, l7, l8, l9, l10, l11⟩ := h5 k hk
    have hsz : sumN sz k + sz k ≤ 60 := by
      have : sumN sz (k + 1) ≤ sumN sz n := sumN_le (by omega)
      have e : sumN sz (k + 1) = sumN sz k + sz k := rfl
      omega
    unfold PLn
    rw [s2 6 (by omega) (by omega) k (by omega), s2 7 (by omega) (by omega) k (by omega), s2 5 (by omega) (by omega) k (by omega), s2 8 (by omega) (by omega) k (by omega), s2 9 (by omega) (by omega) k (by omega), hf (1 + k) (by omega), hf (9 + k) (by omega), hf (17 + k) (by omega)]
    refine ⟨l1, l2, l3, l4, l5, l6, l7, l8, l9.cong (fun j g1 g2 => ⟨s1 1 (by omega) (by omega) _ (by omega), s1 2 (by omega) (by omega) _ (by omega), s1 3 (by omega) (by omega) _ (by omega), s1 4 (by omega) (by omega) _ (by omega), hf _ (by omega)⟩), ?_, ?_⟩
    · rw [bitR_cong (sz k) 0 0 (fun j g1 g2 => hf (25 + sumN sz k + j) (by omega))]; exact l10
    · rw [bitR_cong (sz k) 0 0 (fun j g1 g2 => hf (25 + sumN sz k + j) (by omega))]; exact l11
  · rw [s3 x hx, hf (85 + x) (by omega)]; exact h6 x hx
/-- a copied row -/
theorem cpy_at {f g : Nat → Int32} {n j : Nat} (h : j < n) : va_cpy f g 0 0 n j = f j := by
  rw [pk_cpy_in (Nat.zero_le _) (by omega)]
  congr 1; omega
theorem sgA_same (σ : yS) (c : Nat) (f : Nat → Int32) : sgA σ c f c = f := by simp [sgA]
theorem sgA_ne (σ : yS) {c c' : Nat} (f : Nat → Int32) (h : c' ≠ c) : sgA σ c f c' = σ c' := by simp [sgA, h]
/-- takeProgram and takeAll, as functions -/
def tkP (b o : Nat) (σ : yS) : yS := sg (sgA (sgA (sgA (sgA (sgA (sgA (sgA (sgA (sgA σ (b + 1) (va_cpy (σ (o + 1)) (σ (b + 1)) 0 0 60)) (b + 2) (va_cpy (σ (o + 2)) (σ (b + 2)) 0 0 60)) (b + 3) (va_cpy (σ (o + 3)) (σ (b + 3)) 0 0 60)) (b + 4) (va_cpy (σ (o + 4)) (σ (b + 4)) 0 0 60)) (b + 5) (va_cpy (σ (o + 5)) (σ (b + 5)) 0 0 8)) (b + 6) (va_cpy (σ (o + 6)) (σ (b + 6)) 0 0 8)) (b + 7) (va_cpy (σ (o + 7)) (σ (b + 7)) 0 0 8)) (b + 8) (va_cpy (σ (o + 8)) (σ (b + 8)) 0 0 8)) (b + 9) (va_cpy (σ (o + 9)) (σ (b + 9)) 0 0 8)) b 10 (σ o 10)
def tkA (b o : Nat) (σ : yS) : yS := sgA (tkP b o σ) (b + 10) (va_cpy ((tkP b o σ) (o + 10)) ((tkP b o σ) (b + 10)) 0 0 4)
theorem tkP_kp {b o c : Nat} {σ : yS} (h : c < b ∨ b + 9 < c) : (tkP b o σ) c = σ c := by
  unfold tkP
  rw [kp_sg (by omega), sgA_ne _ _ (by omega), sgA_ne _ _ (by omega), sgA_ne _ _ (by omega), sgA_ne _ _ (by omega), sgA_ne _ _ (by omega), sgA_ne _ _ (by omega), sgA_ne _ _ (by omega), sgA_ne _ _ (by omega), sgA_ne _ _ (by omega)]
theorem tkA_kp {b o c : Nat} {σ : yS} (h : c < b ∨ b + 10 < c) : (tkA b o σ) c = σ c := by
  unfold tkA
  rw [sgA_ne _ _ (by omega)]
  exact tkP_kp (by omega)
theorem tkP_at {b o k j : Nat} {σ : yS} (hk : (1 ≤ k ∧ k ≤ 4 ∧ j < 60) ∨ (5 ≤ k ∧ k ≤ 9 ∧ j < 8)) : (tkP b o σ) (b + k) j = σ (o + k) j := by
  have hk9 : k = 1 ∨ k = 2 ∨ k = 3 ∨ k = 4 ∨ k = 5 ∨ k = 6 ∨ k = 7 ∨ k = 8 ∨ k = 9 := by omega
  unfold tkP
  rw [kp_sg (by omega)]
  rcases hk9 with rfl | rfl | rfl | rfl | rfl | rfl | rfl | rfl | rfl
  · rw [sgA_ne _ _ (by omega), sgA_ne _ _ (by omega), sgA_ne _ _ (by omega), sgA_ne _ _ (by omega), sgA_ne _ _ (by omega), sgA_ne _ _ (by omega), sgA_ne _ _ (by omega), sgA_ne _ _ (by omega), sgA_same]; exact cpy_at (by omega)
  · rw [sgA_ne _ _ (by omega), sgA_ne _ _ (by omega), sgA_ne _ _ (by omega), sgA_ne _ _ (by omega), sgA_ne _ _ (by omega), sgA_ne _ _ (by omega), sgA_ne _ _ (by omega), sgA_same]; exact cpy_at (by omega)
  · rw [sgA_ne _ _ (by omega), sgA_ne _ _ (by omega), sgA_ne _ _ (by omega), sgA_ne _ _ (by omega), sgA_ne _ _ (by omega), sgA_ne _ _ (by omega), sgA_same]; exact cpy_at (by omega)
  · rw [sgA_ne _ _ (by omega), sgA_ne _ _ (by omega), sgA_ne _ _ (by omega), sgA_ne _ _ (by omega), sgA_ne _ _ (by omega), sgA_same]; exact cpy_at (by omega)
  · rw [sgA_ne _ _ (by omega), sgA_ne _ _ (by omega), sgA_ne _ _ (by omega), sgA_ne _ _ (by omega), sgA_same]; exact cpy_at (by omega)
  · rw [sgA_ne _ _ (by omega), sgA_ne _ _ (by omega), sgA_ne _ _ (by omega), sgA_same]; exact cpy_at (by omega)
  · rw [sgA_ne _ _ (by omega), sgA_ne _ _ (by omega), sgA_same]; exact cpy_at (by omega)
  · rw [sgA_ne _ _ (by omega), sgA_same]; exact cpy_at (by omega)
  · rw [sgA_same]; exact cpy_at (by omega)
theorem tkP_10 {b o : Nat} {σ : yS} : (tkP b o σ) b 10 = σ o 10 := by unfold tkP; exact sg_same _ _ _ _
theorem tkA_SE {b o : Nat} {σ : yS} (hd : o + 10 < b ∨ b + 10 < o) : SE σ o (tkA b o σ) b := by
  refine ⟨fun k h1 h2 j hj => ?_, fun k h1 h2 j hj => ?_, fun j hj => ?_, ?_⟩
  · unfold tkA; rw [sgA_ne _ _ (by omega)]; exact tkP_at (Or.inl ⟨h1, h2, hj⟩)
  · unfold tkA; rw [sgA_ne _ _ (by omega)]; exact tkP_at (Or.inr ⟨h1, h2, hj⟩)
  · unfold tkA; rw [sgA_same, cpy_at hj, tkP_kp (by omega)]
  · unfold tkA; rw [sgA_ne _ _ (by omega)]; exact tkP_10
theorem tkA_SE0 {b o : Nat} {σ : yS} (hd : o + 10 < b ∨ b + 10 < o) : SE σ o (tkA b o σ) o := by
  refine ⟨fun k h1 h2 j hj => by rw [tkA_kp (by omega)], fun k h1 h2 j hj => by rw [tkA_kp (by omega)], fun j hj => by rw [tkA_kp (by omega)], by rw [tkA_kp (by omega)]⟩
section TAKE
variable {d : Nat} {σ : yS} {K : yS → Prop}
theorem sp_tk_29_2 (h : K (tkA 29 2 σ)) : yR (d + 2) 48 0 [some (.ref 29), some (.ref 2)] [] σ (qV K) := w_48_0_29_2 (w_49_0_29_2 h)
theorem sp_tk_2_29 (h : K (tkA 2 29 σ)) : yR (d + 2) 48 0 [some (.ref 2), some (.ref 29)] [] σ (qV K) := w_48_0_2_29 (w_49_0_2_29 h)
theorem sp_tk_40_2 (h : K (tkA 40 2 σ)) : yR (d + 2) 48 0 [some (.ref 40), some (.ref 2)] [] σ (qV K) := w_48_0_40_2 (w_49_0_40_2 h)
theorem sp_tk_2_40 (h : K (tkA 2 40 σ)) : yR (d + 2) 48 0 [some (.ref 2), some (.ref 40)] [] σ (qV K) := w_48_0_2_40 (w_49_0_2_40 h)
theorem sp_tk_51_2 (h : K (tkA 51 2 σ)) : yR (d + 2) 48 0 [some (.ref 51), some (.ref 2)] [] σ (qV K) := w_48_0_51_2 (w_49_0_51_2 h)
theorem sp_tk_2_51 (h : K (tkA 2 51 σ)) : yR (d + 2) 48 0 [some (.ref 2), some (.ref 51)] [] σ (qV K) := w_48_0_2_51 (w_49_0_2_51 h)
theorem sp_tk_62_2 (h : K (tkA 62 2 σ)) : yR (d + 2) 48 0 [some (.ref 62), some (.ref 2)] [] σ (qV K) := w_48_0_62_2 (w_49_0_62_2 h)
theorem sp_tk_2_62 (h : K (tkA 2 62 σ)) : yR (d + 2) 48 0 [some (.ref 2), some (.ref 62)] [] σ (qV K) := w_48_0_2_62 (w_49_0_2_62 h)
theorem sp_tk_73_2 (h : K (tkA 73 2 σ)) : yR (d + 2) 48 0 [some (.ref 73), some (.ref 2)] [] σ (qV K) := w_48_0_73_2 (w_49_0_73_2 h)
theorem sp_tk_2_73 (h : K (tkA 2 73 σ)) : yR (d + 2) 48 0 [some (.ref 2), some (.ref 73)] [] σ (qV K) := w_48_0_2_73 (w_49_0_2_73 h)
theorem sp_tkp (h : K (tkP 2 14 σ)) : yR (d + 1) 49 0 [some (.ref 2), some (.ref 14)] [] σ (qV K) := w_49_0_2_14 h
end TAKE
