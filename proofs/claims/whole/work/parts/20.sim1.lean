section SIM2
variable {kd lf rt nb w ak : Nat → Int32} {mb cb d : Nat} {v : Int32} {K : Int32 → yS → Prop} {σ τ : yS}
theorem renew_nI {n : Nat} (h : n < 60) : renewC (nI n) σ = sg σ 86 n 0 := by
  unfold renewC
  rw [if_pos (inN_t.mpr (vp_in_nI h (by decide))), nI_clamp (by omega)]
theorem askN_109 {c : Nat} (h : c < 60) : mAskN (nI c) τ = sg (sg (sg τ 97 27 (nI c)) 97 28 1) 109 c 0 := by
  unfold mAskN
  rw [nI_clamp (by omega)]
theorem cut_all {f lo hi i q : Nat} {τ1 : yS} {r : Bool × yS} (h1 : r.1 = false) (h2 : OC r.2 τ1) (hP : PM mb w ak τ1) (hF : FC (cb + lo) (cb + hi) σ r.2) (hG : FM lo hi τ τ1)
    (hK : ∀ τ', oAll kd lf rt nb w ak mb cb f lo hi i q σ τ r τ' → mLP d v K τ') : mLP d v K τ1 := hK τ1 ⟨hP, hF, hG, Or.inr (Or.inr ⟨h1, h2⟩)⟩
theorem OC.st {σ1 : yS} {c j : Nat} {x : Int32} (h : OC σ1 τ) (hc : 86 ≤ c) : OC (sg σ1 c j x) τ := by
  refine ⟨fun y hy => ?_, ?_, h.2.2.1, ?_⟩
  · rw [sg_cell _ _ _ (by omega)]; exact h.1 y hy
  · rw [sg_cell _ _ _ (by omega)]; exact h.2.1
  · refine ⟨?_, h.2.2.2.2.1, h.2.2.2.2.2⟩
    rw [sg_cell _ _ _ (by omega)]; exact h.2.2.2.1
theorem OC.cut {σ1 : yS} (h : OC σ1 τ) : ¬ σ1 84 8 = 0 := by rw [h.2.1]; exact one_ne
/-- a part asked anew, behind the node's own marks -/
theorem new_in {q i c : Nat} {s p : Int32} (hIN : IN q i σ τ) (hc : cb + c < 60) (hc2 : c < 60) : IN q c (sg (sg σ 86 (cb + i) s) 86 (cb + c) 0) (mAskN (nI c) (sg τ 109 i p)) := by
  obtain ⟨hV, h1, h2, h3, h4, h5⟩ := hIN
  rw [askN_109 hc2]
  exact ⟨fun y hy => hV y hy, h1, h2, h3, rfl, rfl⟩
theorem sim_not {F f lo hi i q c : Nat} (ih : SIM kd lf rt nb w ak mb cb f F) (h60 : hi < 60) (hcb : cb + hi < 60) (hmb : mb + hi < 89) (hPC : PC kd lf rt nb σ) (hPM : PM mb w ak τ) (hlo : lo = i) (hhi : i < hi) (hnd : ndNot kd w cb i) (hch : chl (akp ak) cb rt (fst1 (w i)) i c) (hTr : Tr kd lf rt nb w (akp ak) cb f (i + 1) hi c)
    (hst : (σ 86 (cb + i) = 0 ∧ τ 109 i = 0) ∨ (σ 86 (cb + i) = 4 ∧ τ 109 i = 1)) (hIN : IN q i σ τ)
    (hK : ∀ τ', oAll kd lf rt nb w ak mb cb (f + 1) lo hi i q σ τ (askC (F + 1) (nI (cb + i)) σ) τ' → mLP d v K τ') : mLP d v K τ := by
  have hIN0 := hIN
  obtain ⟨hV, hc, ht, hW, hh, has⟩ := hIN
  have hb := hTr.bd
  have hi60 : i < 60 := by omega
  have hat := hPM.at hh hi60 ht (by omega)
  have hk : σ 3 (cb + i) = 33 := by rw [hPC.1]; exact hnd.1
  have hr5 : σ 5 (cb + i) = nI (cb + c) := by rw [hPC.2.2.1]; exact hch.1
  have hask : askC (F + 1) (nI (cb + i)) σ = noneC (askC F) (cb + i) σ := by
    rw [ask_at (by omega) hc, hk]; rfl
  rw [hask] at hK
  rcases hst with ⟨s1, s2⟩ | ⟨s1, s2⟩
  · refine ta_not0 hat has hnd.2 s2 (by rw [hch.2.1]; exact vp_in_nI (by omega) (by decide)) ?_
    rw [hch.2.1]
    have eσ : renewC (σ 5 (cb + i)) (sg σ 86 (cb + i) 4) = sg (sg σ 86 (cb + i) 4) 86 (cb + c) 0 := by rw [hr5]; exact renew_nI (by omega)
    have e5 : (sg (sg σ 86 (cb + i) 4) 86 (cb + c) 0) 5 (cb + i) = nI (cb + c) := hr5
    generalize hσ1 : sg (sg σ 86 (cb + i) 4) 86 (cb + c) 0 = σ1 at *
    generalize hτ1 : mAskN (nI c) (sg τ 109 i 1) = τ1 at *
    have hF1 : FC (cb + lo) (cb + hi) σ σ1 := by rw [← hσ1]; exact (FC.rf.st (by omega) (by omega) (by omega) (by omega)).st (by omega) (by omega) (by omega) (by omega)
    have hG1 : FM lo hi τ τ1 := by rw [← hτ1]; exact (FM.rf.st (Or.inl rfl) (by omega) (by omega)).askN (by omega) (by omega) (by omega)
    have hp1 : σ1 86 (cb + i) = 4 := by rw [← hσ1, sg_ne _ _ _ (by omega), sg_same]
    have hp2 : τ1 109 i = 1 := by rw [← hτ1, askN_109 (by omega), sg_ne _ _ _ (by omega)]; exact sg_same τ 109 i 1
    refine ih (i + 1) hi c q σ1 τ1 h60 hcb hmb (hPC.fr hF1) (hPM.fr hG1) (hTr.ts (by rw [← hσ1]; exact sg_same _ _ _ _) (by rw [← hτ1, askN_109 (by omega)]; exact sg_same _ _ _ _)) (by rw [← hσ1, ← hτ1]; exact new_in hIN0 (by omega) (by omega)) d v K (fun τ' ho => ?_)
    obtain ⟨o1, o2, o3, o4⟩ := ho
    have hr : noneC (askC F) (cb + i) σ = if (askC F (nI (cb + c)) σ1).1 = true then (false, (askC F (nI (cb + c)) σ1).2) else yieldsC 0 (askC F (nI (cb + c)) σ1).2 := by
      unfold noneC
      rw [if_pos s1, eσ, e5]
    generalize askC F (nI (cb + c)) σ1 = r1 at *
    have hF2 : FC (cb + lo) (cb + hi) σ r1.2 := hF1.tr o2 (by omega) (by omega)
    have hG2 : FM lo hi τ τ' := hG1.tr o3 (by omega) (by omega)
    rcases o4 with ⟨b1, b2, b3, b4⟩ | ⟨b1, b2, b3⟩ | ⟨b1, b2⟩
    · rw [b1, if_pos rfl] at hr
      obtain ⟨c1, c2, c3, ⟨q', c4, c5⟩, c6, c7, -⟩ := b2
      have hh' : τ' 97 27 = nI i := b3.trans hch.2.2
      exact tt_not (o1.at hh' hi60 c3 (by omega)) c6 c7 hnd.2 (no_all hr c1 c2 c3 c5 (by omega) hh' hi60 o1 hF2 hG2 hK)
    · rw [b1, if_neg (by decide)] at hr
      obtain ⟨c1, c2, c3, ⟨q', c4, c5⟩, c6, c7⟩ := b2
      have hh' : τ' 97 27 = nI i := b3.trans hch.2.2
      have hTS : TS kd lf rt nb w (akp ak) cb r1.2 τ' (f + 1) lo hi i := Or.inr (Or.inr (Or.inl ⟨by rw [o2.2 86 _ (by omega) (by omega)]; exact hp1, by rw [o3.2.1 109 _ (by omega) (by omega) (by omega)]; exact hp2, hlo, hhi, hnd, c, hch, hTr⟩))
      exact te_not (o1.at hh' hi60 c3 (by omega)) c6 c7 hnd.2 (yl_all hr c1 c2 c3 c5 (by omega) hh' hi60 (by unfold Num; decide) o1 hF2 hG2 hTS hK)
    · rw [b1, if_neg (by decide)] at hr
      have hy : yieldsC 0 r1.2 = (false, sg r1.2 84 8 1) := by
        unfold yieldsC
        rw [if_neg (fun z => by have := b2.2.2.2.lt.mp z; omega)]
      rw [hr, hy] at hK
      exact cut_all (r := (false, sg r1.2 84 8 1)) rfl ⟨fun y hy => b2.1 y hy, rfl, b2.2.2.1, b2.2.2.2⟩ o1 (hF2.s4 (by omega) (by omega)) hG2 hK
  · have hr : noneC (askC F) (cb + i) σ = (false, σ) := by
      unfold noneC
      rw [if_neg (by rw [s1]; decide)]
    have fin : mLP d v K (mNone (sg τ 109 i 1)) := by
      rw [sg_fix s2]
      exact no_all hr hV hc ht hW (Nat.le_refl q) hh hi60 hPM FC.rf FM.rf hK
    exact ta_not1 hat has hnd.2 (by rw [s2]; decide) fin
/-- \ : the part is asked, and what follows -/
theorem first_go {F f lo hi i q c k p0 : Nat} {σ1 τ1 : yS} {r : Bool × yS} (ih : SIM kd lf rt nb w ak mb cb f F) (h60 : hi < 60) (hcb : cb + hi < 60) (hmb : mb + hi < 89) (hPC : PC kd lf rt nb σ1) (hPM : PM mb w ak τ1) (hlo : lo < i) (hhi : i = hi) (hnd : ndFst kd nb w cb i) (hch : chl (akp ak) cb rt (fst1 (w i)) i c)
    (hp : nmb (w i) = nI p0) (hp9 : p0 ≤ 9) (hF1 : FC (cb + lo) (cb + hi) σ σ1) (hG1 : FM lo hi τ τ1) (hTS : TS kd lf rt nb w (akp ak) cb σ1 τ1 f lo (i - 1) c) (hIN : IN q c σ1 τ1) (g1 : σ1 86 (cb + i) = 2) (g2 : τ1 109 i = 1) (g3 : σ1 89 (cb + i) = τ1 110 i) (g4 : τ1 110 i = nI k) (hk : k < p0)
    (hr : r = frst2 (askC F) (cb + i) σ1) (hK : ∀ τ', oAll kd lf rt nb w ak mb cb (f + 1) lo hi i q σ τ r τ' → mLP d v K τ') : mLP d v K τ1 := by
  have hb := hTS.bd
  refine ih lo (i - 1) c q σ1 τ1 (by omega) (by omega) (by omega) hPC hPM hTS hIN d v K (fun τ' ho => ?_)
  obtain ⟨o1, o2, o3, o4⟩ := ho
  have e5 : σ1 5 (cb + i) = nI (cb + c) := by rw [hPC.2.2.1]; exact hch.1
  have e6 : ¬ σ1 6 (cb + i) ≤ σ1 89 (cb + i) := by
    rw [hPC.2.2.2, hnd.2.2.1, hp, g3, g4]
    exact nI_ge hk (by omega)
  unfold frst2 at hr
  rw [if_neg e6, e5] at hr
  generalize askC F (nI (cb + c)) σ1 = r1 at *
  have hF2 : FC (cb + lo) (cb + hi) σ r1.2 := hF1.tr o2 (by omega) (by omega)
  have hG2 : FM lo hi τ τ' := hG1.tr o3 (by omega) (by omega)
  have f1 : r1.2 86 (cb + i) = 2 := by rw [o2.2 86 _ (by omega) (by omega)]; exact g1
  have f2 : τ' 109 i = 1 := by rw [o3.2.1 109 _ (by omega) (by omega) (by omega)]; exact g2
  have f3 : r1.2 89 (cb + i) = nI k := by rw [o2.2 89 _ (by omega) (by omega), g3]; exact g4
  have f4 : τ' 110 i = nI k := by rw [o3.2.1 110 _ (by omega) (by omega) (by omega)]; exact g4
  have hi60 : i < 60 := by omega
  rcases o4 with ⟨b1, b2, b3, b4⟩ | ⟨b1, b2, b3⟩ | ⟨b1, b2⟩
  · rw [b1, if_pos rfl] at hr
    obtain ⟨c1, c2, c3, ⟨q', c4, c5⟩, c6, c7, c8, c9⟩ := b2
    have hh' : τ' 97 27 = nI i := b3.trans hch.2.2
    refine tt_fst (o1.at hh' hi60 c3 (by omega)) c6 c7 hnd.2.1 ?_
    rw [c8]
    refine yl_all (σ1 := sg r1.2 89 (cb + i) (r1.2 89 (cb + i) + 1)) hr c1 c2 c3 c5 (by omega) hh' hi60 c9 (o1.fr ((FM.rf (lo := lo) (hi := hi)).st (Or.inr (Or.inl rfl)) (by omega) (by omega))) (hF2.st (by omega) (by omega) (by omega) (by omega)) (hG2.st (Or.inr (Or.inl rfl)) (by omega) (by omega)) ?_ hK
    refine Or.inr (Or.inr (Or.inr (Or.inr (Or.inr (Or.inr (Or.inr (Or.inl ⟨f1, f2, ?_, hlo, hhi, hnd, ⟨k + 1, p0, ?_, hp, by omega, hp9⟩, c, hch, ?_⟩)))))))
    · rw [sg_same, sg_same, f3, f4]
    · rw [sg_same, f4, nI_1]
    · exact b4.fr (fun j h1 h2 => ⟨rfl, rfl, rfl, sg_ne _ _ _ (by omega)⟩) (fun j h1 h2 => ⟨rfl, sg_ne _ _ _ (by omega), rfl, rfl⟩)
  · rw [b1, if_neg (by decide)] at hr
    obtain ⟨c1, c2, c3, ⟨q', c4, c5⟩, c6, c7⟩ := b2
    have hh' : τ' 97 27 = nI i := b3.trans hch.2.2
    exact te_un_11 (o1.at hh' hi60 c3 (by omega)) c6 c7 hnd.2.1 (no_all hr c1 c2 c3 c5 (by omega) hh' hi60 o1 hF2 hG2 hK)
  · rw [b1, if_neg (by decide)] at hr
    exact cut_all (r := r) (by rw [hr]) (by rw [hr]; exact b2) o1 (by rw [hr]; exact hF2) hG2 hK
theorem nI_le0 {p : Nat} (hp : p ≤ 9) : nI p ≤ 0 ↔ p = 0 := by
  have := nI_leI (a := p) (b := 0) (by omega) (by decide)
  rw [show nI 0 = 0 from nI_0] at this
  rw [this]; omega
theorem sim_first {F f lo hi i q c : Nat} (ih : SIM kd lf rt nb w ak mb cb f F) (h60 : hi < 60) (hcb : cb + hi < 60) (hmb : mb + hi < 89) (hPC : PC kd lf rt nb σ) (hPM : PM mb w ak τ) (hlo : lo < i) (hhi : i = hi) (hnd : ndFst kd nb w cb i) (hch : chl (akp ak) cb rt (fst1 (w i)) i c) (hIN : IN q i σ τ)
    (hst : (σ 86 (cb + i) = 0 ∧ τ 109 i = 0 ∧ Tr kd lf rt nb w (akp ak) cb f lo (i - 1) c) ∨ (σ 86 (cb + i) = 2 ∧ τ 109 i = 1 ∧ σ 89 (cb + i) = τ 110 i ∧ (∃ q p : Nat, τ 110 i = nI q ∧ nmb (w i) = nI p ∧ q ≤ p ∧ p ≤ 9) ∧ TS kd lf rt nb w (akp ak) cb σ τ f lo (i - 1) c))
    (hK : ∀ τ', oAll kd lf rt nb w ak mb cb (f + 1) lo hi i q σ τ (askC (F + 1) (nI (cb + i)) σ) τ' → mLP d v K τ') : mLP d v K τ := by
  have hIN0 := hIN
  obtain ⟨hV, hc, ht, hW, hh, has⟩ := hIN
  have hi60 : i < 60 := by omega
  have hat := hPM.at hh hi60 ht (by omega)
  have hk : σ 3 (cb + i) = 92 := by rw [hPC.1]; exact hnd.1
  have hask : askC (F + 1) (nI (cb + i)) σ = frstC (askC F) (cb + i) σ := by
    rw [ask_at (by omega) hc, hk]; rfl
  rw [hask] at hK
  rcases hst with ⟨s1, s2, hTr⟩ | ⟨s1, s2, s3, ⟨k, p0, s4, s5, s6, s7⟩, hTS⟩
  · have hb := hTr.bd
    obtain ⟨p0, hp9, hp⟩ := hnd.2.2.2
    have hr5 : σ 5 (cb + i) = nI (cb + c) := by rw [hPC.2.2.1]; exact hch.1
    have eσ : renewC (σ 5 (cb + i)) (sg (sg σ 86 (cb + i) 2) 89 (cb + i) 0) = sg (sg (sg σ 86 (cb + i) 2) 89 (cb + i) 0) 86 (cb + c) 0 := by rw [hr5]; exact renew_nI (by omega)
    have hr : frstC (askC F) (cb + i) σ = frst2 (askC F) (cb + i) (sg (sg (sg σ 86 (cb + i) 2) 89 (cb + i) 0) 86 (cb + c) 0) := by
      unfold frstC
      rw [if_pos s1, eσ]
    have hF1 : FC (cb + lo) (cb + hi) σ (sg (sg (sg σ 86 (cb + i) 2) 89 (cb + i) 0) 86 (cb + c) 0) := ((FC.rf.st (by omega) (by omega) (by omega) (by omega)).st (by omega) (by omega) (by omega) (by omega)).st (by omega) (by omega) (by omega) (by omega)
    have hG0 : FM lo hi τ (sg (sg τ 110 i 0) 109 i 1) := (FM.rf.st (Or.inr (Or.inl rfl)) (by omega) (by omega)).st (Or.inl rfl) (by omega) (by omega)
    have k89 : (sg (sg (sg σ 86 (cb + i) 2) 89 (cb + i) 0) 86 (cb + c) 0) 89 (cb + i) = 0 := sg_same (sg σ 86 (cb + i) 2) 89 (cb + i) 0
    by_cases hz : p0 = 0
    · refine ta_fst0z hat has hnd.2.1 s2 (by rw [hp, hz]; exact nI_0.symm) ?_
      refine no_all (σ1 := sg (sg (sg σ 86 (cb + i) 2) 89 (cb + i) 0) 86 (cb + c) 0) ?_ hV hc ht hW (Nat.le_refl q) hh hi60 (hPM.fr hG0) hF1 hG0 hK
      rw [hr]
      unfold frst2
      rw [if_pos]
      rw [k89]
      show σ 6 (cb + i) ≤ 0
      rw [hPC.2.2.2, hnd.2.2.1, hp]
      exact (nI_le0 hp9).mpr hz
    · refine ta_fst0 hat has hnd.2.1 s2 (by rw [hch.2.1]; exact vp_in_nI (by omega) (by decide)) (fun z => hz ?_) ?_
      · exact (nI_le0 hp9).mp (by rw [← hp, ← z]; exact Int32.le_refl 0)
      · rw [hch.2.1]
        have hG1 : FM lo hi τ (mAskN (nI c) (sg (sg τ 110 i 0) 109 i 1)) := hG0.askN (by omega) (by omega) (by omega)
        refine first_go ih h60 hcb hmb (hPC.fr hF1) (hPM.fr hG1) hlo hhi hnd hch hp hp9 hF1 hG1 (hTr.ts (sg_same _ _ _ _) (by rw [askN_109 (by omega)]; exact sg_same _ _ _ _)) ?_ ?_ ?_ ?_ (k := 0) ?_ (by omega) hr hK
        · rw [askN_109 (by omega)]
          exact ⟨fun y hy => hV y hy, hc, ht, hW, rfl, rfl⟩
        · rw [sg_ne _ _ _ (by omega)]; exact sg_same σ 86 (cb + i) 2
        · rw [askN_109 (by omega), sg_ne _ _ _ (by omega)]; exact sg_same _ 109 i 1
        · rw [k89, askN_109 (by omega)]; exact (sg_same τ 110 i 0).symm
        · rw [askN_109 (by omega)]; exact (sg_same τ 110 i 0).trans nI_0.symm
  · have hb := hTS.bd
    have hr : frstC (askC F) (cb + i) σ = frst2 (askC F) (cb + i) σ := by
      unfold frstC
      rw [if_neg (by rw [s1]; decide)]
    by_cases hz : k = p0
    · refine ta_fst1z hat has hnd.2.1 s2 (by rw [s4, s5, hz]) ?_
      rw [sg_fix s2]
      refine no_all ?_ hV hc ht hW (Nat.le_refl q) hh hi60 hPM FC.rf FM.rf hK
      rw [hr]
      unfold frst2
      rw [if_pos]
      rw [hPC.2.2.2, hnd.2.2.1, s3, s4, s5, hz]
      exact Int32.le_refl _
    · refine ta_fst1 hat has hnd.2.1 s2 (by rw [s4, s5]; exact fun z => hz ((nI_eq (by omega) (by omega)).mp z)) ?_
      rw [hch.2.1]
      have hG1 : FM lo hi τ (mAsk (nI c) τ) := FM.rf.ask
      exact first_go ih h60 hcb hmb hPC (hPM.fr hG1) hlo hhi hnd hch s5 s7 FC.rf hG1 (hTS.fr (fun _ _ _ => ⟨rfl, rfl, rfl, rfl⟩) (fun _ _ _ => ⟨rfl, rfl, rfl, rfl⟩)) ⟨fun y hy => hV y hy, hc, ht, hW, rfl, rfl⟩ s1 s2 s3 s4 (by omega) hr hK
end SIM2
