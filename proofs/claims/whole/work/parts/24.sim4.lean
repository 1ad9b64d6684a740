section SIM5
variable {kd lf rt nb w ak : Nat → Int32} {mb cb d : Nat} {v : Int32} {K : Int32 → yS → Prop} {σ τ : yS}
theorem ask_pair {F i : Nat} (hnd : ndRng kd w cb i ∨ ndTwo kd w cb i) (hn : cb + i < 60) (hc : σ 84 8 = 0) (hPC : PC kd lf rt nb σ) : askC (F + 1) (nI (cb + i)) σ = pairC (askC F) (cb + i) σ := by
  rw [ask_at hn hc, hPC.1]
  rcases hnd with h | h
  · rw [h.1, if_neg (by decide), if_neg (by decide), if_neg (by decide), if_neg (by decide), if_neg (by decide), if_neg (by decide), if_neg (by decide)]
  · have h2 : (kd (cb + i), srt (w i)) ∈ twoN := h
    simp only [twoN, List.mem_cons, Prod.mk.injEq, List.not_mem_nil, or_false] at h2
    rcases h2 with ⟨e, -⟩ | ⟨e, -⟩ | ⟨e, -⟩ | ⟨e, -⟩ | ⟨e, -⟩ | ⟨e, -⟩ | ⟨e, -⟩ <;>
      rw [e, if_neg (by decide), if_neg (by decide), if_neg (by decide), if_neg (by decide), if_neg (by decide), if_neg (by decide), if_neg (by decide)]
theorem sim_pair0 {F f lo hi i q l c : Nat} (ih : SIM kd lf rt nb w ak mb cb f F) (h60 : hi < 60) (hcb : cb + hi < 60) (hmb : mb + hi < 89) (hPC : PC kd lf rt nb σ) (hPM : PM mb w ak τ) (hlo : lo < i) (hhi : i < hi) (hnd : ndRng kd w cb i ∨ ndTwo kd w cb i) (hcl : chl (akp ak) cb lf (fst1 (w i)) i l) (hch : chl (akp ak) cb rt (snd1 (w i)) i c) (hIN : IN q i σ τ)
    (s1 : σ 86 (cb + i) = 0) (s2 : τ 109 i = 0) (hTl : Tr kd lf rt nb w (akp ak) cb f lo (i - 1) l) (hTr : Tr kd lf rt nb w (akp ak) cb f (i + 1) hi c)
    (hK : ∀ τ', oAll kd lf rt nb w ak mb cb (f + 1) lo hi i q σ τ (askC (F + 1) (nI (cb + i)) σ) τ' → mLP d v K τ') : mLP d v K τ := by
  obtain ⟨hV, hc, ht, hW, hh, has⟩ := hIN
  have hi60 : i < 60 := by omega
  have hat := hPM.at hh hi60 ht (by omega)
  have hb := hTl.bd
  have hX : pFix kd lf rt nb w ak mb cb f F lo hi i l c q d v K σ τ (askC (F + 1) (nI (cb + i)) σ) := ⟨ih, h60, hcb, hmb, hlo, hhi, hnd, hcl, hch, hK⟩
  have hr4 : σ 4 (cb + i) = nI (cb + l) := by rw [hPC.2.1]; exact hcl.1
  have g1 : (sg (sg σ 86 (cb + i) 1) 86 (cb + l) 0) 86 (cb + i) = 1 := by rw [sg_ne _ _ _ (by omega)]; exact sg_same _ _ _ _
  have hr : askC (F + 1) (nI (cb + i)) σ = pairL (askC F) (cb + i) 2002 (sg (sg σ 86 (cb + i) 1) 86 (cb + l) 0) := by
    rw [ask_pair hnd (by omega) hc hPC]
    unfold pairC
    rw [if_pos s1, hr4, renew_nI (by omega)]
    unfold pairE
    rw [if_neg (by rw [g1]; decide)]
  have hF1 : FC (cb + lo) (cb + hi) σ (sg (sg σ 86 (cb + i) 1) 86 (cb + l) 0) := (FC.rf.st (by omega) (by omega) (by omega) (by omega)).st (by omega) (by omega) (by omega) (by omega)
  have hG1 : FM lo hi τ (mAskN (nI l) (sg τ 109 i 1)) := (FM.rf.st (Or.inl rfl) (by omega) (by omega)).askN (by omega) (by omega) (by omega)
  refine ta_two0 hat has (nd_R hnd) s2 (by rw [hcl.2.1]; exact vp_in_nI (by omega) (by decide)) ?_
  rw [hcl.2.1]
  refine (p_both hX 2002).1 q _ _ (hPC.fr hF1) (hPM.fr hG1) (Nat.le_refl q) hF1 hG1 (hTl.ts (sg_same _ _ _ _) (by rw [askN_109 (by omega)]; exact sg_same _ _ _ _)) hTr ?_ g1 ?_ (by omega) hr
  · rw [askN_109 (by omega)]
    exact ⟨fun y hy => hV y hy, hc, ht, hW, rfl, rfl⟩
  · rw [askN_109 (by omega), sg_ne _ _ _ (by omega)]; exact sg_same τ 109 i 1
theorem sim_two2 {F f lo hi i q l c : Nat} (ih : SIM kd lf rt nb w ak mb cb f F) (h60 : hi < 60) (hcb : cb + hi < 60) (hmb : mb + hi < 89) (hPC : PC kd lf rt nb σ) (hPM : PM mb w ak τ) (hlo : lo < i) (hhi : i < hi) (hnd : ndTwo kd w cb i) (hcl : chl (akp ak) cb lf (fst1 (w i)) i l) (hch : chl (akp ak) cb rt (snd1 (w i)) i c) (hIN : IN q i σ τ)
    (s1 : σ 86 (cb + i) = 2) (s2 : τ 109 i = 2) (s3 : σ 87 (cb + i) = τ 113 i) (hTl : TS kd lf rt nb w (akp ak) cb σ τ f lo (i - 1) l) (hTr : TS kd lf rt nb w (akp ak) cb σ τ f (i + 1) hi c)
    (hK : ∀ τ', oAll kd lf rt nb w ak mb cb (f + 1) lo hi i q σ τ (askC (F + 1) (nI (cb + i)) σ) τ' → mLP d v K τ') : mLP d v K τ := by
  obtain ⟨hV, hc, ht, hW, hh, has⟩ := hIN
  have hi60 : i < 60 := by omega
  have hat := hPM.at hh hi60 ht (by omega)
  have hX : pFix kd lf rt nb w ak mb cb f F lo hi i l c q d v K σ τ (askC (F + 1) (nI (cb + i)) σ) := ⟨ih, h60, hcb, hmb, hlo, hhi, Or.inr hnd, hcl, hch, hK⟩
  have hr : askC (F + 1) (nI (cb + i)) σ = pairR (askC F) (cb + i) (pairL (askC F) (cb + i) 2001) σ := by
    rw [ask_pair (Or.inr hnd) (by omega) hc hPC]
    unfold pairC
    rw [if_neg (by rw [s1]; decide)]
    unfold pairE
    rw [if_neg (by rw [s1]; decide)]
    conv => lhs; unfold pairL
    rw [if_neg (by rw [s1]; decide)]
  refine ta_two2 (k := kd (cb + i)) hat has hnd s2 ?_
  rw [hch.2.1]
  have hG1 : FM lo hi τ (mAsk (nI c) τ) := FM.rf.ask
  refine (p_both hX 2001).2 q _ _ hPC (hPM.fr hG1) (Nat.le_refl q) FC.rf hG1 (hTl.fr (fun _ _ _ => ⟨rfl, rfl, rfl, rfl⟩) (fun _ _ _ => ⟨rfl, rfl, rfl, rfl⟩)) (hTr.fr (fun _ _ _ => ⟨rfl, rfl, rfl, rfl⟩) (fun _ _ _ => ⟨rfl, rfl, rfl, rfl⟩)) ⟨fun y hy => hV y hy, hc, ht, hW, rfl, rfl⟩ s1 s2 s3 ?_ (by omega) hr
  intro h
  have h2 : (kd (cb + i), srt (w i)) ∈ twoN := hnd
  rw [h.1] at h2
  simp [twoN] at h2
theorem num_inc {x y : Int32} (hx : Num x) (hy : Num y) (h : ¬ y ≤ x) : Num (x + 1) := by
  have h1 : x.toInt < y.toInt := by
    have := Int32.not_le.mp h
    rwa [Int32.lt_iff_toInt_lt] at this
  unfold Num at *
  have e1 : (1 : Int32).toInt = 1 := by decide
  rw [Int32.toInt_add, e1, Int.bmod_eq_of_le (by omega) (by omega)]
  omega
theorem sim_rng3 {F f lo hi i q l c : Nat} (ih : SIM kd lf rt nb w ak mb cb f F) (h60 : hi < 60) (hcb : cb + hi < 60) (hmb : mb + hi < 89) (hPC : PC kd lf rt nb σ) (hPM : PM mb w ak τ) (hlo : lo < i) (hhi : i < hi) (hnd : ndRng kd w cb i) (hcl : chl (akp ak) cb lf (fst1 (w i)) i l) (hch : chl (akp ak) cb rt (snd1 (w i)) i c) (hIN : IN q i σ τ)
    (s1 : σ 86 (cb + i) = 3) (s2 : τ 109 i = 3) (s3 : σ 87 (cb + i) = τ 113 i) (s4 : σ 89 (cb + i) = τ 110 i) (s5 : σ 88 (cb + i) = τ 111 i) (n1 : Num (σ 89 (cb + i))) (n2 : Num (σ 88 (cb + i))) (n3 : Num (σ 87 (cb + i))) (hTl : TS kd lf rt nb w (akp ak) cb σ τ f lo (i - 1) l) (hTr : TS kd lf rt nb w (akp ak) cb σ τ f (i + 1) hi c)
    (hK : ∀ τ', oAll kd lf rt nb w ak mb cb (f + 1) lo hi i q σ τ (askC (F + 1) (nI (cb + i)) σ) τ' → mLP d v K τ') : mLP d v K τ := by
  obtain ⟨hV, hc, ht, hW, hh, has⟩ := hIN
  have hi60 : i < 60 := by omega
  have hat := hPM.at hh hi60 ht (by omega)
  have hX : pFix kd lf rt nb w ak mb cb f F lo hi i l c q d v K σ τ (askC (F + 1) (nI (cb + i)) σ) := ⟨ih, h60, hcb, hmb, hlo, hhi, Or.inl hnd, hcl, hch, hK⟩
  have hr0 : askC (F + 1) (nI (cb + i)) σ = (if σ 88 (cb + i) ≤ σ 89 (cb + i) then pairL (askC F) (cb + i) 2002 (sg σ 86 (cb + i) 2) else yieldsC ((sg σ 89 (cb + i) (σ 89 (cb + i) + 1)) 89 (cb + i)) (sg σ 89 (cb + i) (σ 89 (cb + i) + 1))) := by
    rw [ask_pair (Or.inl hnd) (by omega) hc hPC]
    unfold pairC
    rw [if_neg (by rw [s1]; decide)]
    unfold pairE
    rw [if_pos s1]
  by_cases hle : σ 88 (cb + i) ≤ σ 89 (cb + i)
  · refine ta_rng3e hat has hnd.2 s2 (by rw [← s4, ← s5]; exact hle) ?_
    rw [hch.2.1]
    have hr : askC (F + 1) (nI (cb + i)) σ = pairR (askC F) (cb + i) (pairL (askC F) (cb + i) 2001) (sg σ 86 (cb + i) 2) := by
      rw [hr0, if_pos hle]
      conv => lhs; unfold pairL
      rw [if_neg (by rw [sg_same]; decide)]
    have hF1 : FC (cb + lo) (cb + hi) σ (sg σ 86 (cb + i) 2) := FC.rf.st (by omega) (by omega) (by omega) (by omega)
    have hG1 : FM lo hi τ (mAsk (nI c) (sg τ 109 i 2)) := (FM.rf.st (Or.inl rfl) (by omega) (by omega)).ask
    exact (p_both hX 2001).2 q _ _ (hPC.fr hF1) (hPM.fr hG1) (Nat.le_refl q) hF1 hG1 (hTl.fr (fun j h1 h2 => ⟨sg_ne _ _ _ (by omega), rfl, rfl, rfl⟩) (fun j h1 h2 => ⟨sg_ne τ 109 _ (by omega), rfl, rfl, rfl⟩)) (hTr.fr (fun j h1 h2 => ⟨sg_ne _ _ _ (by omega), rfl, rfl, rfl⟩) (fun j h1 h2 => ⟨sg_ne τ 109 _ (by omega), rfl, rfl, rfl⟩)) ⟨fun y hy => hV y hy, hc, ht, hW, rfl, rfl⟩ (sg_same _ _ _ _) (sg_same τ 109 i 2) s3 (fun _ => n3) (by omega) hr
  · refine ta_rng3m hat has hnd.2 s2 (by rw [← s4, ← s5]; exact hle) ?_
    rw [← s4]
    have hr : askC (F + 1) (nI (cb + i)) σ = yieldsC (σ 89 (cb + i) + 1) (sg σ 89 (cb + i) (σ 89 (cb + i) + 1)) := by
      rw [hr0, if_neg hle, sg_same]
    have hF1 : FC (cb + lo) (cb + hi) σ (sg σ 89 (cb + i) (σ 89 (cb + i) + 1)) := FC.rf.st (by omega) (by omega) (by omega) (by omega)
    have hG1 : FM lo hi τ (sg τ 110 i (σ 89 (cb + i) + 1)) := FM.rf.st (Or.inr (Or.inl rfl)) (by omega) (by omega)
    have hN := num_inc n1 n2 hle
    have hT9 : TS kd lf rt nb w (akp ak) cb (sg σ 89 (cb + i) (σ 89 (cb + i) + 1)) (sg τ 110 i (σ 89 (cb + i) + 1)) (f + 1) lo hi i := by
      refine Or.inr (Or.inr (Or.inr (Or.inr (Or.inr (Or.inr (Or.inl ⟨s1, s2, s3, (sg_same _ _ _ _).trans (sg_same _ _ _ _).symm, s5, ?_, n2, n3, hlo, hhi, hnd, l, c, hcl, hch, ?_, ?_⟩))))))
      · rw [sg_same]; exact hN
      · exact hTl.fr (fun j h1 h2 => ⟨rfl, rfl, rfl, sg_ne _ _ _ (by omega)⟩) (fun j h1 h2 => ⟨rfl, sg_ne _ _ _ (by omega), rfl, rfl⟩)
      · exact hTr.fr (fun j h1 h2 => ⟨rfl, rfl, rfl, sg_ne _ _ _ (by omega)⟩) (fun j h1 h2 => ⟨rfl, sg_ne _ _ _ (by omega), rfl, rfl⟩)
    exact yl_all (σ1 := sg σ 89 (cb + i) (σ 89 (cb + i) + 1)) hr hV hc ht hW (Nat.le_refl q) hh hi60 hN (hPM.fr hG1) hF1 hG1 hT9 hK
end SIM5
/-- THE SIMULATION -/
theorem sim_all (kd lf rt nb w ak : Nat → Int32) (mb cb : Nat) : ∀ f F, f ≤ F → SIM kd lf rt nb w ak mb cb f F := by
  intro f
  induction f with
  | zero =>
    intro F _ lo hi i q σ τ _ _ _ _ _ h
    exact h.elim
  | succ f ih0 =>
    intro F hF
    obtain ⟨G, rfl⟩ : ∃ G, F = G + 1 := ⟨F - 1, by omega⟩
    have ih := ih0 G (by omega)
    intro lo hi i q σ τ h60 hcb hmb hPC hPM hTS hIN d v K hK
    rcases hTS with ⟨s1, s2, h⟩ | ⟨s1, s2, h1, h2, h3⟩ | ⟨s1, s2, h1, h2, h3, c, h4, h5⟩ | ⟨s1, s2, h1, h2, h3, l, r, h4, h5, h6, h7⟩ | ⟨s1, s2, h1, h2, h3, l, r, h4, h5, h6, h7⟩ | ⟨s1, s2, s3, h1, h2, h3, l, r, h4, h5, h6, h7⟩ | ⟨s1, s2, s3, s4, s5, n1, n2, n3, h1, h2, h3, l, r, h4, h5, h6, h7⟩ | ⟨s1, s2, s3, h1, h2, h3, h3', c, h4, h5⟩ | ⟨s1, s2, s3, s4, h1, h2, h3, c, h4, h5⟩
    · rcases h with ⟨h1, h2, h3⟩ | ⟨h1, h2, h3, l, r, h4, h5, h6, h7⟩ | ⟨h1, h2, h3, c, h4, h5⟩ | ⟨h1, h2, h3, c, h4, h5⟩
      · exact sim_leaf h60 hcb hmb hPC hPM h1 h2 h3 (Or.inl ⟨s1, s2⟩) hIN hK
      · rcases h3 with h3 | h3
        · exact sim_alt ih h60 hcb hmb hPC hPM h1 h2 h3 h4 h5 hIN (Or.inl ⟨s1, s2, h6, h7⟩) hK
        · exact sim_pair0 ih h60 hcb hmb hPC hPM h1 h2 h3 h4 h5 hIN s1 s2 h6 h7 hK
      · exact sim_first ih h60 hcb hmb hPC hPM h1 h2 h3 h4 hIN (Or.inl ⟨s1, s2, h5⟩) hK
      · rcases h3 with h3 | h3
        · exact sim_not ih h60 hcb hmb hPC hPM h1 h2 h3 h4 h5 (Or.inl ⟨s1, s2⟩) hIN hK
        · exact sim_set ih h60 hcb hmb hPC hPM h1 h2 h3 h4 hIN (Or.inl ⟨s1, s2, h5⟩) hK
    · exact sim_leaf h60 hcb hmb hPC hPM h1 h2 h3 (Or.inr ⟨s1, s2⟩) hIN hK
    · exact sim_not ih h60 hcb hmb hPC hPM h1 h2 h3 h4 h5 (Or.inr ⟨s1, s2⟩) hIN hK
    · exact sim_alt ih h60 hcb hmb hPC hPM h1 h2 h3 h4 h5 hIN (Or.inr (Or.inl ⟨s1, s2, h6, h7⟩)) hK
    · exact sim_alt ih h60 hcb hmb hPC hPM h1 h2 h3 h4 h5 hIN (Or.inr (Or.inr ⟨s1, s2, h6, h7⟩)) hK
    · exact sim_two2 ih h60 hcb hmb hPC hPM h1 h2 h3 h4 h5 hIN s1 s2 s3 h6 h7 hK
    · exact sim_rng3 ih h60 hcb hmb hPC hPM h1 h2 h3 h4 h5 hIN s1 s2 s3 s4 s5 n1 n2 n3 h6 h7 hK
    · exact sim_first ih h60 hcb hmb hPC hPM h1 h2 h3 h4 hIN (Or.inr ⟨s1, s2, s3, h3', h5⟩) hK
    · exact sim_set ih h60 hcb hmb hPC hPM h1 h2 h3 h4 hIN (Or.inr ⟨s1, s2, s3, s4, h5⟩) hK
