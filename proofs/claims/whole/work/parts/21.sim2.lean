section SIM3
variable {kd lf rt nb w ak : Nat → Int32} {mb cb d : Nat} {v : Int32} {K : Int32 → yS → Prop} {σ τ : yS}
theorem set_go {F f lo hi i q c x : Nat} {σ0 σ1 τ1 : yS} {r : Bool × yS} (ih : SIM kd lf rt nb w ak mb cb f F) (h60 : hi < 60) (hcb : cb + hi < 60) (hmb : mb + hi < 89) (hPC : PC kd lf rt nb σ1) (hPM : PM mb w ak τ1) (hlo : lo = i) (hhi : i < hi) (hnd : ndSet kd nb w cb i) (hch : chl (akp ak) cb rt (fst1 (w i)) i c)
    (hx : x < 4) (hp : nmb (w i) = nI x) (hF1 : FC (cb + lo) (cb + hi) σ σ1) (hG1 : FM lo hi τ τ1) (hTS : TS kd lf rt nb w (akp ak) cb σ1 τ1 f (i + 1) hi c) (hIN : IN q c σ1 τ1) (g1 : σ1 86 (cb + i) = 2) (g2 : τ1 109 i = 1)
    (hs : sg σ0 86 (cb + i) 2 = σ1) (hr : r = targ2 (askC F) (cb + i) (nI x) σ0) (hK : ∀ τ', oAll kd lf rt nb w ak mb cb (f + 1) lo hi i q σ τ r τ' → mLP d v K τ') : mLP d v K τ1 := by
  have hb := hTS.bd
  refine ih (i + 1) hi c q σ1 τ1 (by omega) (by omega) (by omega) hPC hPM hTS hIN d v K (fun τ' ho => ?_)
  obtain ⟨o1, o2, o3, o4⟩ := ho
  have e5 : σ0 5 (cb + i) = nI (cb + c) := by
    have : σ1 5 (cb + i) = nI (cb + c) := by rw [hPC.2.2.1]; exact hch.1
    rw [← hs] at this
    exact this
  have ex : (nI x).toNatClampNeg = x := nI_clamp (by omega)
  unfold targ2 at hr
  rw [hs, e5, ex] at hr
  generalize askC F (nI (cb + c)) σ1 = r1 at *
  have hF2 : FC (cb + lo) (cb + hi) σ r1.2 := hF1.tr o2 (by omega) (by omega)
  have hG2 : FM lo hi τ τ' := hG1.tr o3 (by omega) (by omega)
  have f1 : r1.2 86 (cb + i) = 2 := by rw [o2.2 86 _ (by omega) (by omega)]; exact g1
  have f2 : τ' 109 i = 1 := by rw [o3.2.1 109 _ (by omega) (by omega) (by omega)]; exact g2
  have hi60 : i < 60 := by omega
  rcases o4 with ⟨b1, b2, b3, b4⟩ | ⟨b1, b2, b3⟩ | ⟨b1, b2⟩
  · rw [b1, if_pos rfl] at hr
    obtain ⟨c1, c2, c3, ⟨q', c4, c5⟩, c6, c7, c8, c9⟩ := b2
    have hh' : τ' 97 27 = nI i := b3.trans hch.2.2
    have fin : mYl d v K (τ' 97 30) (sg (sg τ' 110 i (τ' 112 (nmb (w i)).toNatClampNeg)) 112 (nmb (w i)).toNatClampNeg (τ' 97 30)) := by
      rw [hp, ex, c8]
      refine yl_all (σ1 := sg (sg r1.2 89 (cb + i) (r1.2 85 x)) 85 x (r1.2 84 6)) hr ?_ c2 c3 c5 (by omega) hh' hi60 c9 (o1.fr (((FM.rf (lo := lo) (hi := hi)).st (Or.inr (Or.inl rfl)) (by omega) (by omega)).s2)) ((hF2.st (by omega) (by omega) (by omega) (by omega)).s4 (by omega) (by omega)) ((hG2.st (Or.inr (Or.inl rfl)) (by omega) (by omega)).s2) ?_ hK
      · intro y hy
        by_cases e : y = x
        · subst e
          rw [sg_same, sg_same]
          exact ⟨rfl, c9⟩
        · rw [sg_ne _ _ _ e, sg_ne _ _ _ e]
          exact c1 y hy
      · refine Or.inr (Or.inr (Or.inr (Or.inr (Or.inr (Or.inr (Or.inr (Or.inr ⟨f1, f2, ?_, ?_, hlo, hhi, hnd, c, hch, ?_⟩)))))))
        · show sg r1.2 89 (cb + i) (r1.2 85 x) 89 (cb + i) = sg τ' 110 i (τ' 112 x) 110 i
          rw [sg_same, sg_same]; exact (c1 x hx).1
        · show Num (sg r1.2 89 (cb + i) (r1.2 85 x) 89 (cb + i))
          rw [sg_same]; exact (c1 x hx).2
        · exact b4.fr (fun j h1 h2 => ⟨rfl, rfl, rfl, sg_ne r1.2 89 _ (by omega)⟩) (fun j h1 h2 => ⟨rfl, sg_ne τ' 110 _ (by omega), rfl, rfl⟩)
    have hvp : vp_in (nmb (w i)) 4 := hnd.2.2
    rcases hnd.1 with h | h
    · exact tt_set_13 (o1.at hh' hi60 c3 (by omega)) c6 c7 h.2 hvp fin
    · exact tt_set_14 (o1.at hh' hi60 c3 (by omega)) c6 c7 h.2 hvp fin
  · rw [b1, if_neg (by decide)] at hr
    obtain ⟨c1, c2, c3, ⟨q', c4, c5⟩, c6, c7⟩ := b2
    have hh' : τ' 97 27 = nI i := b3.trans hch.2.2
    have fin := no_all hr c1 c2 c3 c5 (by omega) hh' hi60 o1 hF2 hG2 hK
    rcases hnd.1 with h | h
    · exact te_un_13 (o1.at hh' hi60 c3 (by omega)) c6 c7 h.2 fin
    · exact te_un_14 (o1.at hh' hi60 c3 (by omega)) c6 c7 h.2 fin
  · rw [b1, if_neg (by decide)] at hr
    exact cut_all (r := r) (by rw [hr]) (by rw [hr]; exact b2) o1 (by rw [hr]; exact hF2) hG2 hK
theorem sim_set {F f lo hi i q c : Nat} (ih : SIM kd lf rt nb w ak mb cb f F) (h60 : hi < 60) (hcb : cb + hi < 60) (hmb : mb + hi < 89) (hPC : PC kd lf rt nb σ) (hPM : PM mb w ak τ) (hlo : lo = i) (hhi : i < hi) (hnd : ndSet kd nb w cb i) (hch : chl (akp ak) cb rt (fst1 (w i)) i c) (hIN : IN q i σ τ)
    (hst : (σ 86 (cb + i) = 0 ∧ τ 109 i = 0 ∧ Tr kd lf rt nb w (akp ak) cb f (i + 1) hi c) ∨ (σ 86 (cb + i) = 2 ∧ τ 109 i = 1 ∧ σ 89 (cb + i) = τ 110 i ∧ Num (σ 89 (cb + i)) ∧ TS kd lf rt nb w (akp ak) cb σ τ f (i + 1) hi c))
    (hK : ∀ τ', oAll kd lf rt nb w ak mb cb (f + 1) lo hi i q σ τ (askC (F + 1) (nI (cb + i)) σ) τ' → mLP d v K τ') : mLP d v K τ := by
  obtain ⟨hV, hc, ht, hW, hh, has⟩ := hIN
  have hi60 : i < 60 := by omega
  have hat := hPM.at hh hi60 ht (by omega)
  have hask : askC (F + 1) (nI (cb + i)) σ = targC (askC F) (cb + i) σ := by
    rw [ask_at (by omega) hc, hPC.1]
    rcases hnd.1 with h | h <;> rw [h.1] <;> rfl
  rw [hask] at hK
  obtain ⟨x, hx, hp⟩ := vp_in_of hnd.2.2 (by decide)
  have ex : (nI x).toNatClampNeg = x := nI_clamp (by omega)
  have h6 : σ 6 (cb + i) = nI x := by rw [hPC.2.2.2, hnd.2.1]; exact hp
  have hin : inN (nI x) 4 = true := inN_t.mpr (vp_in_nI hx (by decide))
  rcases hst with ⟨s1, s2, hTr⟩ | ⟨s1, s2, s3, s4, hTS⟩
  · have hb := hTr.bd
    have hr5 : σ 5 (cb + i) = nI (cb + c) := by rw [hPC.2.2.1]; exact hch.1
    have hr : targC (askC F) (cb + i) σ = targ2 (askC F) (cb + i) (nI x) (sg σ 86 (cb + c) 0) := by
      unfold targC
      rw [h6, if_pos hin, if_pos s1, hr5, renew_nI (by omega)]
    have hF1 : FC (cb + lo) (cb + hi) σ (sg (sg σ 86 (cb + c) 0) 86 (cb + i) 2) := (FC.rf.st (by omega) (by omega) (by omega) (by omega)).st (by omega) (by omega) (by omega) (by omega)
    have hG1 : FM lo hi τ (mAskN (nI c) (sg τ 109 i 1)) := (FM.rf.st (Or.inl rfl) (by omega) (by omega)).askN (by omega) (by omega) (by omega)
    have fin : mLP d v K (mAskN (fst1 (w i)) (sg τ 109 i 1)) := by
      rw [hch.2.1]
      refine set_go ih h60 hcb hmb (hPC.fr hF1) (hPM.fr hG1) hlo hhi hnd hch hx hp hF1 hG1 (hTr.ts ?_ (by rw [askN_109 (by omega)]; exact sg_same _ _ _ _)) ?_ (sg_same _ _ _ _) ?_ rfl hr hK
      · rw [sg_ne _ _ _ (by omega)]; exact sg_same _ _ _ _
      · rw [askN_109 (by omega)]
        exact ⟨fun y hy => hV y hy, hc, ht, hW, rfl, rfl⟩
      · rw [askN_109 (by omega), sg_ne _ _ _ (by omega)]; exact sg_same _ 109 i 1
    have hvp : vp_in (fst1 (w i)) 60 := by rw [hch.2.1]; exact vp_in_nI (by omega) (by decide)
    rcases hnd.1 with h | h
    · exact ta_set0 hat has h.2 s2 hvp fin
    · exact ta_lend0 hat has h.2 s2 hvp fin
  · have hb := hTS.bd
    have s1' : ¬ σ 86 (cb + i) = 0 := by rw [s1]; decide
    have s2' : ¬ τ 109 i = 0 := by rw [s2]; decide
    rcases hnd.1 with h | h
    · have hr : targC (askC F) (cb + i) σ = targ2 (askC F) (cb + i) (nI x) σ := by
        unfold targC
        rw [h6, if_pos hin, if_neg s1', if_neg (by rw [hPC.1, h.1]; decide)]
      refine ta_set1 hat has h.2 s2' ?_
      rw [hch.2.1, sg_fix s2]
      have hG1 : FM lo hi τ (mAsk (nI c) τ) := FM.rf.ask
      exact set_go ih h60 hcb hmb hPC (hPM.fr hG1) hlo hhi hnd hch hx hp FC.rf hG1 (hTS.fr (fun _ _ _ => ⟨rfl, rfl, rfl, rfl⟩) (fun _ _ _ => ⟨rfl, rfl, rfl, rfl⟩)) ⟨fun y hy => hV y hy, hc, ht, hW, rfl, rfl⟩ s1 s2 (sg_fix s1) hr hK
    · have hr : targC (askC F) (cb + i) σ = targ2 (askC F) (cb + i) (nI x) (sg σ 85 x (σ 89 (cb + i))) := by
        unfold targC
        rw [h6, if_pos hin, if_neg s1', if_pos (by rw [hPC.1, h.1]), ex]
      refine ta_lend1 hat has h.2 s2 hnd.2.2 ?_
      rw [hch.2.1, hp, ex]
      have e1 : sg (sg τ 112 x (τ 110 i)) 109 i 1 = sg τ 112 x (τ 110 i) := sg_fix s2
      rw [e1]
      have hF1 : FC (cb + lo) (cb + hi) σ (sg σ 85 x (σ 89 (cb + i))) := FC.rf.s4 (by omega) (by omega)
      have hG1 : FM lo hi τ (mAsk (nI c) (sg τ 112 x (τ 110 i))) := FM.rf.s2.ask
      refine set_go ih h60 hcb hmb (hPC.fr hF1) (hPM.fr hG1) hlo hhi hnd hch hx hp hF1 hG1 (hTS.fr (fun _ _ _ => ⟨rfl, rfl, rfl, rfl⟩) (fun _ _ _ => ⟨rfl, rfl, rfl, rfl⟩)) ⟨fun y hy => ?_, hc, ht, hW, rfl, rfl⟩ s1 s2 (sg_fix s1) hr hK
      by_cases e : y = x
      · subst e
        show sg σ 85 y (σ 89 (cb + i)) 85 y = sg τ 112 y (τ 110 i) 112 y ∧ Num (sg σ 85 y (σ 89 (cb + i)) 85 y)
        rw [sg_same, sg_same]
        exact ⟨s3, s4⟩
      · show sg σ 85 x (σ 89 (cb + i)) 85 y = sg τ 112 x (τ 110 i) 112 y ∧ Num (sg σ 85 x (σ 89 (cb + i)) 85 y)
        rw [sg_ne _ _ _ e, sg_ne _ _ _ e]
        exact hV y hy
/-- | : the second part -/
theorem altR_go {F f lo hi i q0 q l c : Nat} {σ1 τ1 : yS} {r : Bool × yS} (ih : SIM kd lf rt nb w ak mb cb f F) (h60 : hi < 60) (hcb : cb + hi < 60) (hmb : mb + hi < 89) (hPC : PC kd lf rt nb σ1) (hPM : PM mb w ak τ1) (hlo : lo < i) (hhi : i < hi) (hnd : ndAlt kd w cb i) (hcl : chl (akp ak) cb lf (fst1 (w i)) i l) (hch : chl (akp ak) cb rt (snd1 (w i)) i c)
    (hq : q0 ≤ q) (hF1 : FC (cb + lo) (cb + hi) σ σ1) (hG1 : FM lo hi τ τ1) (hTl : Tr kd lf rt nb w (akp ak) cb f lo (i - 1) l) (hTS : TS kd lf rt nb w (akp ak) cb σ1 τ1 f (i + 1) hi c) (hIN : IN q c σ1 τ1) (g1 : σ1 86 (cb + i) = 2) (g2 : τ1 109 i = 2)
    (hr : r = eithR (askC F) (cb + i) σ1) (hK : ∀ τ', oAll kd lf rt nb w ak mb cb (f + 1) lo hi i q0 σ τ r τ' → mLP d v K τ') : mLP d v K τ1 := by
  have hb := hTS.bd
  refine ih (i + 1) hi c q σ1 τ1 (by omega) (by omega) (by omega) hPC hPM hTS hIN d v K (fun τ' ho => ?_)
  obtain ⟨o1, o2, o3, o4⟩ := ho
  have e5 : σ1 5 (cb + i) = nI (cb + c) := by rw [hPC.2.2.1]; exact hch.1
  unfold eithR at hr
  rw [e5] at hr
  generalize askC F (nI (cb + c)) σ1 = r1 at *
  have hF2 : FC (cb + lo) (cb + hi) σ r1.2 := hF1.tr o2 (by omega) (by omega)
  have hG2 : FM lo hi τ τ' := hG1.tr o3 (by omega) (by omega)
  have f1 : r1.2 86 (cb + i) = 2 := by rw [o2.2 86 _ (by omega) (by omega)]; exact g1
  have f2 : τ' 109 i = 2 := by rw [o3.2.1 109 _ (by omega) (by omega) (by omega)]; exact g2
  have hi60 : i < 60 := by omega
  rcases o4 with ⟨b1, b2, b3, b4⟩ | ⟨b1, b2, b3⟩ | ⟨b1, b2⟩
  · rw [b1, if_pos rfl] at hr
    obtain ⟨c1, c2, c3, ⟨q', c4, c5⟩, c6, c7, c8, c9⟩ := b2
    have hh' : τ' 97 27 = nI i := b3.trans hch.2.2
    refine tt_alt (o1.at hh' hi60 c3 (by omega)) c6 c7 hnd.2 ?_
    rw [c8]
    have hT9 : TS kd lf rt nb w (akp ak) cb r1.2 τ' (f + 1) lo hi i := Or.inr (Or.inr (Or.inr (Or.inr (Or.inl ⟨f1, f2, hlo, hhi, hnd, l, c, hcl, hch, hTl, b4⟩))))
    exact yl_all hr c1 c2 c3 c5 (by omega) hh' hi60 c9 o1 hF2 hG2 hT9 hK
  · rw [b1, if_neg (by decide)] at hr
    obtain ⟨c1, c2, c3, ⟨q', c4, c5⟩, c6, c7⟩ := b2
    have hh' : τ' 97 27 = nI i := b3.trans hch.2.2
    exact te_alt2 (o1.at hh' hi60 c3 (by omega)) c6 c7 hnd.2 (by rw [f2]; decide) (no_all hr c1 c2 c3 c5 (by omega) hh' hi60 o1 hF2 hG2 hK)
  · rw [b1, if_neg (by decide)] at hr
    exact cut_all (r := r) (by rw [hr]) (by rw [hr]; exact b2) o1 (by rw [hr]; exact hF2) hG2 hK
/-- | : the first part -/
theorem altL_go {F f lo hi i q l c : Nat} {σ1 τ1 : yS} {r : Bool × yS} (ih : SIM kd lf rt nb w ak mb cb f F) (h60 : hi < 60) (hcb : cb + hi < 60) (hmb : mb + hi < 89) (hPC : PC kd lf rt nb σ1) (hPM : PM mb w ak τ1) (hlo : lo < i) (hhi : i < hi) (hnd : ndAlt kd w cb i) (hcl : chl (akp ak) cb lf (fst1 (w i)) i l) (hch : chl (akp ak) cb rt (snd1 (w i)) i c)
    (hF1 : FC (cb + lo) (cb + hi) σ σ1) (hG1 : FM lo hi τ τ1) (hTS : TS kd lf rt nb w (akp ak) cb σ1 τ1 f lo (i - 1) l) (hTr : Tr kd lf rt nb w (akp ak) cb f (i + 1) hi c) (hIN : IN q l σ1 τ1) (g1 : σ1 86 (cb + i) = 1) (g2 : τ1 109 i = 1)
    (hr : r = eithL (askC F) (cb + i) σ1) (hK : ∀ τ', oAll kd lf rt nb w ak mb cb (f + 1) lo hi i q σ τ r τ' → mLP d v K τ') : mLP d v K τ1 := by
  have hb := hTS.bd
  have hb2 := hTr.bd
  refine ih lo (i - 1) l q σ1 τ1 (by omega) (by omega) (by omega) hPC hPM hTS hIN d v K (fun τ' ho => ?_)
  obtain ⟨o1, o2, o3, o4⟩ := ho
  have e4 : σ1 4 (cb + i) = nI (cb + l) := by rw [hPC.2.1]; exact hcl.1
  unfold eithL at hr
  rw [e4] at hr
  generalize askC F (nI (cb + l)) σ1 = r1 at *
  have hF2 : FC (cb + lo) (cb + hi) σ r1.2 := hF1.tr o2 (by omega) (by omega)
  have hG2 : FM lo hi τ τ' := hG1.tr o3 (by omega) (by omega)
  have f1 : r1.2 86 (cb + i) = 1 := by rw [o2.2 86 _ (by omega) (by omega)]; exact g1
  have f2 : τ' 109 i = 1 := by rw [o3.2.1 109 _ (by omega) (by omega) (by omega)]; exact g2
  have hi60 : i < 60 := by omega
  have e5 : r1.2 5 (cb + i) = nI (cb + c) := by rw [o2.1 5 (by omega), hPC.2.2.1]; exact hch.1
  rw [e5, renew_nI (by omega)] at hr
  have hF3 : FC (cb + lo) (cb + hi) σ (sg (sg r1.2 86 (cb + i) 2) 86 (cb + c) 0) := (hF2.st (by omega) (by omega) (by omega) (by omega)).st (by omega) (by omega) (by omega) (by omega)
  rcases o4 with ⟨b1, b2, b3, b4⟩ | ⟨b1, b2, b3⟩ | ⟨b1, b2⟩
  · rw [b1, if_pos rfl] at hr
    obtain ⟨c1, c2, c3, ⟨q', c4, c5⟩, c6, c7, c8, c9⟩ := b2
    have hh' : τ' 97 27 = nI i := b3.trans hcl.2.2
    refine tt_alt (o1.at hh' hi60 c3 (by omega)) c6 c7 hnd.2 ?_
    rw [c8]
    have hT9 : TS kd lf rt nb w (akp ak) cb r1.2 τ' (f + 1) lo hi i := Or.inr (Or.inr (Or.inr (Or.inl ⟨f1, f2, hlo, hhi, hnd, l, c, hcl, hch, b4, hTr⟩)))
    exact yl_all hr c1 c2 c3 c5 (by omega) hh' hi60 c9 o1 hF2 hG2 hT9 hK
  · rw [b1, if_neg (by decide)] at hr
    obtain ⟨c1, c2, c3, ⟨q', c4, c5⟩, c6, c7⟩ := b2
    have hh' : τ' 97 27 = nI i := b3.trans hcl.2.2
    refine te_alt1 (o1.at hh' hi60 c3 (by omega)) c6 c7 hnd.2 f2 (by rw [hch.2.1]; exact vp_in_nI (by omega) (by decide)) ?_
    rw [hch.2.1]
    have hG3 : FM lo hi τ (mAskN (nI c) (sg τ' 109 i 2)) := (hG2.st (Or.inl rfl) (by omega) (by omega)).askN (by omega) (by omega) (by omega)
    have hPM3 : PM mb w ak (mAskN (nI c) (sg τ' 109 i 2)) := o1.fr (((FM.rf (lo := lo) (hi := hi)).st (Or.inl rfl) (by omega) (by omega)).askN (by omega) (by omega) (by omega))
    refine altR_go (σ1 := sg (sg r1.2 86 (cb + i) 2) 86 (cb + c) 0) ih h60 hcb hmb ?_ hPM3 hlo hhi hnd hcl hch c4 hF3 hG3 hTS.tr (hTr.ts (sg_same _ _ _ _) (by rw [askN_109 (by omega)]; exact sg_same _ _ _ _)) ?_ ?_ ?_ hr hK
    · exact hPC.fr (((FC.rf (lo := cb + lo) (hi := cb + hi)).tr o2 (by omega) (by omega)).st (by omega) (by omega) (by omega) (by omega) |>.st (by omega) (by omega) (by omega) (by omega))
    · rw [askN_109 (by omega)]
      exact ⟨fun y hy => c1 y hy, c2, c3, c5, rfl, rfl⟩
    · rw [sg_ne _ _ _ (by omega)]; exact sg_same _ _ _ _
    · rw [askN_109 (by omega), sg_ne _ _ _ (by omega)]; exact sg_same τ' 109 i 2
  · rw [b1, if_neg (by decide)] at hr
    have hcut := b2.cut
    have hr2 : r = (false, sg (sg r1.2 86 (cb + i) 2) 86 (cb + c) 0) := by
      rw [hr]
      unfold eithR
      rw [ask_cut (F := F) (σ := sg (sg r1.2 86 (cb + i) 2) 86 (cb + c) 0) hcut, if_neg Bool.false_ne_true]
    exact cut_all (r := r) (by rw [hr2]) (by rw [hr2]; exact (b2.st (by omega)).st (by omega)) o1 (by rw [hr2]; exact hF3) hG2 hK
theorem sim_alt {F f lo hi i q l c : Nat} (ih : SIM kd lf rt nb w ak mb cb f F) (h60 : hi < 60) (hcb : cb + hi < 60) (hmb : mb + hi < 89) (hPC : PC kd lf rt nb σ) (hPM : PM mb w ak τ) (hlo : lo < i) (hhi : i < hi) (hnd : ndAlt kd w cb i) (hcl : chl (akp ak) cb lf (fst1 (w i)) i l) (hch : chl (akp ak) cb rt (snd1 (w i)) i c) (hIN : IN q i σ τ)
    (hst : (σ 86 (cb + i) = 0 ∧ τ 109 i = 0 ∧ Tr kd lf rt nb w (akp ak) cb f lo (i - 1) l ∧ Tr kd lf rt nb w (akp ak) cb f (i + 1) hi c) ∨ (σ 86 (cb + i) = 1 ∧ τ 109 i = 1 ∧ TS kd lf rt nb w (akp ak) cb σ τ f lo (i - 1) l ∧ Tr kd lf rt nb w (akp ak) cb f (i + 1) hi c) ∨ (σ 86 (cb + i) = 2 ∧ τ 109 i = 2 ∧ Tr kd lf rt nb w (akp ak) cb f lo (i - 1) l ∧ TS kd lf rt nb w (akp ak) cb σ τ f (i + 1) hi c))
    (hK : ∀ τ', oAll kd lf rt nb w ak mb cb (f + 1) lo hi i q σ τ (askC (F + 1) (nI (cb + i)) σ) τ' → mLP d v K τ') : mLP d v K τ := by
  obtain ⟨hV, hc, ht, hW, hh, has⟩ := hIN
  have hi60 : i < 60 := by omega
  have hat := hPM.at hh hi60 ht (by omega)
  have hask : askC (F + 1) (nI (cb + i)) σ = eithC (askC F) (cb + i) σ := by
    rw [ask_at (by omega) hc, hPC.1, hnd.1]; rfl
  rw [hask] at hK
  rcases hst with ⟨s1, s2, hTl, hTr⟩ | ⟨s1, s2, hTl, hTr⟩ | ⟨s1, s2, hTl, hTr⟩
  · have hb := hTl.bd
    have hr4 : σ 4 (cb + i) = nI (cb + l) := by rw [hPC.2.1]; exact hcl.1
    have g1 : (sg (sg σ 86 (cb + i) 1) 86 (cb + l) 0) 86 (cb + i) = 1 := by rw [sg_ne _ _ _ (by omega)]; exact sg_same _ _ _ _
    have hr : eithC (askC F) (cb + i) σ = eithL (askC F) (cb + i) (sg (sg σ 86 (cb + i) 1) 86 (cb + l) 0) := by
      unfold eithC
      rw [if_pos s1, hr4, renew_nI (by omega)]
      unfold eith2
      rw [if_pos g1]
    have hF1 : FC (cb + lo) (cb + hi) σ (sg (sg σ 86 (cb + i) 1) 86 (cb + l) 0) := (FC.rf.st (by omega) (by omega) (by omega) (by omega)).st (by omega) (by omega) (by omega) (by omega)
    have hG1 : FM lo hi τ (mAskN (nI l) (sg τ 109 i 1)) := (FM.rf.st (Or.inl rfl) (by omega) (by omega)).askN (by omega) (by omega) (by omega)
    refine ta_two0_3 hat has hnd.2 s2 (by rw [hcl.2.1]; exact vp_in_nI (by omega) (by decide)) ?_
    rw [hcl.2.1]
    refine altL_go ih h60 hcb hmb (hPC.fr hF1) (hPM.fr hG1) hlo hhi hnd hcl hch hF1 hG1 (hTl.ts (sg_same _ _ _ _) (by rw [askN_109 (by omega)]; exact sg_same _ _ _ _)) hTr ?_ g1 ?_ hr hK
    · rw [askN_109 (by omega)]
      exact ⟨fun y hy => hV y hy, hc, ht, hW, rfl, rfl⟩
    · rw [askN_109 (by omega), sg_ne _ _ _ (by omega)]; exact sg_same _ 109 i 1
  · have hr : eithC (askC F) (cb + i) σ = eithL (askC F) (cb + i) σ := by
      unfold eithC
      rw [if_neg (by rw [s1]; decide)]
      unfold eith2
      rw [if_pos s1]
    refine ta_two1_3 hat has hnd.2 s2 ?_
    rw [hcl.2.1]
    have hG1 : FM lo hi τ (mAsk (nI l) τ) := FM.rf.ask
    exact altL_go ih h60 hcb hmb hPC (hPM.fr hG1) hlo hhi hnd hcl hch FC.rf hG1 (hTl.fr (fun _ _ _ => ⟨rfl, rfl, rfl, rfl⟩) (fun _ _ _ => ⟨rfl, rfl, rfl, rfl⟩)) hTr ⟨fun y hy => hV y hy, hc, ht, hW, rfl, rfl⟩ s1 s2 hr hK
  · have hr : eithC (askC F) (cb + i) σ = eithR (askC F) (cb + i) σ := by
      unfold eithC
      rw [if_neg (by rw [s1]; decide)]
      unfold eith2
      rw [if_neg (by rw [s1]; decide)]
    refine ta_two2_3 hat has hnd.2 s2 ?_
    rw [hch.2.1]
    have hG1 : FM lo hi τ (mAsk (nI c) τ) := FM.rf.ask
    exact altR_go ih h60 hcb hmb hPC (hPM.fr hG1) hlo hhi hnd hcl hch (Nat.le_refl q) FC.rf hG1 hTl (hTr.fr (fun _ _ _ => ⟨rfl, rfl, rfl, rfl⟩) (fun _ _ _ => ⟨rfl, rfl, rfl, rfl⟩)) ⟨fun y hy => hV y hy, hc, ht, hW, rfl, rfl⟩ s1 s2 hr hK
end SIM3
