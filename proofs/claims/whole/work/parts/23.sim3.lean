section SIM4
variable {kd lf rt nb w ak : Nat → Int32} {mb cb d : Nat} {v : Int32} {K : Int32 → yS → Prop} {σ τ : yS}
/-- what stays the same at a pair: its parts, its kind, the frame -/
def pFix (kd lf rt nb w ak : Nat → Int32) (mb cb f F lo hi i l c q0 : Nat) (d : Nat) (v : Int32) (K : Int32 → yS → Prop) (σ τ : yS) (r : Bool × yS) : Prop :=
  SIM kd lf rt nb w ak mb cb f F ∧ hi < 60 ∧ cb + hi < 60 ∧ mb + hi < 89 ∧ lo < i ∧ i < hi ∧ (ndRng kd w cb i ∨ ndTwo kd w cb i) ∧ chl (akp ak) cb lf (fst1 (w i)) i l ∧ chl (akp ak) cb rt (snd1 (w i)) i c ∧
  (∀ τ', oAll kd lf rt nb w ak mb cb (f + 1) lo hi i q0 σ τ r τ' → mLP d v K τ')
/-- the left part is asked -/
def pLft (kd lf rt nb w ak : Nat → Int32) (mb cb f F lo hi i l c q0 : Nat) (d : Nat) (v : Int32) (K : Int32 → yS → Prop) (σ τ : yS) (r : Bool × yS) (m : Nat) : Prop :=
  ∀ (q : Nat) (σ1 τ1 : yS), PC kd lf rt nb σ1 → PM mb w ak τ1 → q0 ≤ q → FC (cb + lo) (cb + hi) σ σ1 → FM lo hi τ τ1 → TS kd lf rt nb w (akp ak) cb σ1 τ1 f lo (i - 1) l → Tr kd lf rt nb w (akp ak) cb f (i + 1) hi c → IN q l σ1 τ1 → σ1 86 (cb + i) = 1 → τ1 109 i = 1 → 2002 ≤ m + 2 * q + 1 → r = pairL (askC F) (cb + i) m σ1 → mLP d v K τ1
/-- the right part is asked -/
def pRgt (kd lf rt nb w ak : Nat → Int32) (mb cb f F lo hi i l c q0 : Nat) (d : Nat) (v : Int32) (K : Int32 → yS → Prop) (σ τ : yS) (r : Bool × yS) (m : Nat) : Prop :=
  ∀ (q : Nat) (σ1 τ1 : yS), PC kd lf rt nb σ1 → PM mb w ak τ1 → q0 ≤ q → FC (cb + lo) (cb + hi) σ σ1 → FM lo hi τ τ1 → TS kd lf rt nb w (akp ak) cb σ1 τ1 f lo (i - 1) l → TS kd lf rt nb w (akp ak) cb σ1 τ1 f (i + 1) hi c → IN q c σ1 τ1 → σ1 86 (cb + i) = 2 → τ1 109 i = 2 → σ1 87 (cb + i) = τ1 113 i → (ndRng kd w cb i → Num (σ1 87 (cb + i))) → 2001 ≤ m + 2 * q → r = pairR (askC F) (cb + i) (pairL (askC F) (cb + i) m) σ1 → mLP d v K τ1
theorem nd_R {i : Nat} (h : ndRng kd w cb i ∨ ndTwo kd w cb i) : srt (w i) ∈ twoR := by
  rcases h with h | h
  · rw [h.2]; decide
  · exact twoN_R h
/-- behind a cut the class's loop goes to its end without a word -/
theorem pairL_cut {F n : Nat} {σ1 : yS} (h : ¬ σ1 84 8 = 0) : ∀ m, (pairL (askC F) n m σ1).1 = false ∧ ((pairL (askC F) n m σ1).2 = σ1 ∨ ∃ x, (pairL (askC F) n m σ1).2 = sg σ1 86 n x) := by
  intro m
  induction m generalizing σ1 with
  | zero => exact ⟨rfl, Or.inl rfl⟩
  | succ m ih =>
    unfold pairL
    by_cases hs : σ1 86 n = 1
    · rw [if_pos hs, ask_cut h, if_neg Bool.false_ne_true]
      exact ⟨rfl, Or.inl rfl⟩
    · rw [if_neg hs]
      unfold pairR
      rw [ask_cut h, if_neg Bool.false_ne_true]
      have hc : ¬ (sg σ1 86 n 1) 84 8 = 0 := h
      obtain ⟨h1, h2⟩ := ih hc
      refine ⟨h1, ?_⟩
      rcases h2 with h2 | ⟨x, h2⟩
      · exact Or.inr ⟨1, h2⟩
      · refine Or.inr ⟨x, ?_⟩
        rw [h2]
        funext c k
        unfold sg upd
        by_cases e : c = 86
        · subst e
          by_cases e2 : k = n
          · simp [e2]
          · simp [e2]
        · simp [e]
theorem OC.pl {F n : Nat} {σ1 : yS} (h : OC σ1 τ) (m : Nat) : OC (pairL (askC F) n m σ1).2 τ := by
  rcases (pairL_cut (F := F) (n := n) h.cut m).2 with e | ⟨x, e⟩
  · rw [e]; exact h
  · rw [e]; exact h.st (by omega)
theorem FC.pl {F lo hi n : Nat} {a σ1 : yS} (h : ¬ σ1 84 8 = 0) (g : FC lo hi a σ1) (h1 : lo ≤ n) (h2 : n ≤ hi) (m : Nat) : FC lo hi a (pairL (askC F) n m σ1).2 := by
  rcases (pairL_cut (F := F) (n := n) h m).2 with e | ⟨x, e⟩
  · rw [e]; exact g
  · rw [e]; exact g.st (by omega) (by omega) h1 h2
theorem pl_step {f F lo hi i l c q0 m : Nat} {r : Bool × yS} (hX : pFix kd lf rt nb w ak mb cb f F lo hi i l c q0 d v K σ τ r) (hR : pRgt kd lf rt nb w ak mb cb f F lo hi i l c q0 d v K σ τ r m) : pLft kd lf rt nb w ak mb cb f F lo hi i l c q0 d v K σ τ r (m + 1) := by
  obtain ⟨ih, h60, hcb, hmb, hlo, hhi, hnd, hcl, hch, hK⟩ := hX
  intro q σ1 τ1 hPC hPM hq hF1 hG1 hTS hTr hIN g1 g2 hm hr
  have hb := hTS.bd
  have hb2 := hTr.bd
  have hi60 : i < 60 := by omega
  refine ih lo (i - 1) l q σ1 τ1 (by omega) (by omega) (by omega) hPC hPM hTS hIN d v K (fun τ' ho => ?_)
  obtain ⟨o1, o2, o3, o4⟩ := ho
  have e4 : σ1 4 (cb + i) = nI (cb + l) := by rw [hPC.2.1]; exact hcl.1
  unfold pairL at hr
  rw [if_pos g1, e4] at hr
  have e5 : ∀ s : yS, FC (cb + lo) (cb + (i - 1)) σ1 s → s 5 (cb + i) = nI (cb + c) := fun s hs => by rw [hs.1 5 (by omega), hPC.2.2.1]; exact hch.1
  generalize askC F (nI (cb + l)) σ1 = r1 at *
  have hF2 : FC (cb + lo) (cb + hi) σ r1.2 := hF1.tr o2 (by omega) (by omega)
  have hG2 : FM lo hi τ τ' := hG1.tr o3 (by omega) (by omega)
  have f2 : τ' 109 i = 1 := by rw [o3.2.1 109 _ (by omega) (by omega) (by omega)]; exact g2
  rcases o4 with ⟨b1, b2, b3, b4⟩ | ⟨b1, b2, b3⟩ | ⟨b1, b2⟩
  · rw [b1, if_pos rfl, e5 r1.2 o2, renew_nI (by omega)] at hr
    obtain ⟨c1, c2, c3, ⟨q', c4, c5⟩, c6, c7, c8, c9⟩ := b2
    have hh' : τ' 97 27 = nI i := b3.trans hcl.2.2
    refine tt_one (o1.at hh' hi60 c3 (by omega)) c6 c7 (nd_R hnd) f2 (by rw [hch.2.1]; exact vp_in_nI (by omega) (by decide)) ?_
    rw [hch.2.1, c8]
    have hFx : FC (cb + lo) (cb + hi) r1.2 (sg (sg (sg r1.2 87 (cb + i) (r1.2 84 6)) 86 (cb + i) 2) 86 (cb + c) 0) := ((FC.rf.st (by omega) (by omega) (by omega) (by omega)).st (by omega) (by omega) (by omega) (by omega)).st (by omega) (by omega) (by omega) (by omega)
    have hGx : FM lo hi τ' (mAskN (nI c) (sg (sg τ' 113 i (r1.2 84 6)) 109 i 2)) := ((FM.rf.st (Or.inr (Or.inr (Or.inr rfl))) (by omega) (by omega)).st (Or.inl rfl) (by omega) (by omega)).askN (by omega) (by omega) (by omega)
    refine hR q' (sg (sg (sg r1.2 87 (cb + i) (r1.2 84 6)) 86 (cb + i) 2) 86 (cb + c) 0) _ ((hPC.fr o2).fr hFx) (o1.fr hGx) (by omega) (hF2.tr hFx (Nat.le_refl _) (Nat.le_refl _)) (hG2.tr hGx (Nat.le_refl _) (Nat.le_refl _)) ?_ (hTr.ts (sg_same _ _ _ _) (by rw [askN_109 (by omega)]; exact sg_same _ _ _ _)) ?_ ?_ ?_ ?_ ?_ (by omega) hr
    · refine b4.fr (fun j h1 h2 => ⟨?_, ?_, rfl, rfl⟩) (fun j h1 h2 => ?_)
      · rw [sg_ne _ _ _ (by omega), sg_ne _ _ _ (by omega)]; rfl
      · exact sg_ne r1.2 87 _ (by omega)
      · rw [askN_109 (by omega)]
        refine ⟨?_, rfl, rfl, sg_ne τ' 113 _ (by omega)⟩
        rw [sg_ne _ _ _ (by omega)]
        exact sg_ne (sg τ' 113 i (r1.2 84 6)) 109 _ (by omega)
    · rw [askN_109 (by omega)]
      exact ⟨fun y hy => c1 y hy, c2, c3, c5, rfl, rfl⟩
    · rw [sg_ne _ _ _ (by omega)]; exact sg_same _ _ _ _
    · rw [askN_109 (by omega), sg_ne _ _ _ (by omega)]; exact sg_same (sg τ' 113 i (r1.2 84 6)) 109 i 2
    · rw [askN_109 (by omega)]
      exact (sg_same r1.2 87 (cb + i) (r1.2 84 6)).trans (sg_same τ' 113 i (r1.2 84 6)).symm
    · intro _
      show Num (sg r1.2 87 (cb + i) (r1.2 84 6) 87 (cb + i))
      rw [sg_same]; exact c9
  · rw [b1, if_neg (by decide)] at hr
    obtain ⟨c1, c2, c3, ⟨q', c4, c5⟩, c6, c7⟩ := b2
    have hh' : τ' 97 27 = nI i := b3.trans hcl.2.2
    exact te_two1 (o1.at hh' hi60 c3 (by omega)) c6 c7 (nd_R hnd) (by rw [f2]; decide) (no_all hr c1 c2 c3 c5 (by omega) hh' hi60 o1 hF2 hG2 hK)
  · rw [b1, if_neg (by decide)] at hr
    exact cut_all (r := r) (by rw [hr]) (by rw [hr]; exact b2) o1 (by rw [hr]; exact hF2) hG2 hK
theorem pr_step {f F lo hi i l c q0 m : Nat} {r : Bool × yS} (hX : pFix kd lf rt nb w ak mb cb f F lo hi i l c q0 d v K σ τ r) (hL : pLft kd lf rt nb w ak mb cb f F lo hi i l c q0 d v K σ τ r m)
    (hR : ∀ m', m = m' + 1 → pRgt kd lf rt nb w ak mb cb f F lo hi i l c q0 d v K σ τ r m') : pRgt kd lf rt nb w ak mb cb f F lo hi i l c q0 d v K σ τ r m := by
  obtain ⟨ih, h60, hcb, hmb, hlo, hhi, hnd, hcl, hch, hK⟩ := hX
  intro q σ1 τ1 hPC hPM hq hF1 hG1 hTl hTr hIN g1 g2 g3 g4 hm hr
  have hb := hTl.bd
  have hb2 := hTr.bd
  have hi60 : i < 60 := by omega
  refine ih (i + 1) hi c q σ1 τ1 (by omega) (by omega) (by omega) hPC hPM hTr hIN d v K (fun τ' ho => ?_)
  obtain ⟨o1, o2, o3, o4⟩ := ho
  have e5 : σ1 5 (cb + i) = nI (cb + c) := by rw [hPC.2.2.1]; exact hch.1
  unfold pairR at hr
  rw [e5] at hr
  generalize askC F (nI (cb + c)) σ1 = r1 at *
  have hF2 : FC (cb + lo) (cb + hi) σ r1.2 := hF1.tr o2 (by omega) (by omega)
  have hG2 : FM lo hi τ τ' := hG1.tr o3 (by omega) (by omega)
  have f1 : r1.2 86 (cb + i) = 2 := by rw [o2.2 86 _ (by omega) (by omega)]; exact g1
  have f2 : τ' 109 i = 2 := by rw [o3.2.1 109 _ (by omega) (by omega) (by omega)]; exact g2
  have f3 : r1.2 87 (cb + i) = σ1 87 (cb + i) := o2.2 87 _ (by omega) (by omega)
  have f4 : τ' 113 i = σ1 87 (cb + i) := by rw [o3.2.1 113 _ (by omega) (by omega) (by omega)]; exact g3.symm
  have hPC2 := hPC.fr o2
  have ek : r1.2 3 (cb + i) = kd (cb + i) := by rw [hPC2.1]
  have hTl2 : TS kd lf rt nb w (akp ak) cb r1.2 τ' f lo (i - 1) l := hTl.fr (fun j h1 h2 => ⟨o2.2 86 _ (by omega) (by omega), o2.2 87 _ (by omega) (by omega), o2.2 88 _ (by omega) (by omega), o2.2 89 _ (by omega) (by omega)⟩) (fun j h1 h2 => ⟨o3.2.1 109 _ (by omega) (by omega) (by omega), o3.2.1 110 _ (by omega) (by omega) (by omega), o3.2.1 111 _ (by omega) (by omega) (by omega), o3.2.1 113 _ (by omega) (by omega) (by omega)⟩)
  rcases o4 with ⟨b1, b2, b3, b4⟩ | ⟨b1, b2, b3⟩ | ⟨b1, b2⟩
  · rw [b1, if_pos rfl] at hr
    obtain ⟨c1, c2, c3, ⟨q', c4, c5⟩, c6, c7, c8, c9⟩ := b2
    have hh' : τ' 97 27 = nI i := b3.trans hch.2.2
    have hq' := c5.2.2
    -- the right part is asked on
    have next : r = pairL (askC F) (cb + i) m r1.2 → mLP d v K (mAsk (snd1 (w i)) τ') := by
      intro hr2
      rw [hch.2.1]
      cases m with
      | zero => exfalso; have := hIN.2.2.2.1.2.2; omega
      | succ m' =>
        have hGx : FM lo hi τ' (mAsk (nI c) τ') := FM.rf.ask
        refine hR m' rfl q' r1.2 _ hPC2 (o1.fr hGx) (by omega) hF2 hG2.ask (hTl2.fr (fun _ _ _ => ⟨rfl, rfl, rfl, rfl⟩) (fun _ _ _ => ⟨rfl, rfl, rfl, rfl⟩)) (b4.fr (fun _ _ _ => ⟨rfl, rfl, rfl, rfl⟩) (fun _ _ _ => ⟨rfl, rfl, rfl, rfl⟩)) ⟨fun y hy => c1 y hy, c2, c3, c5, rfl, rfl⟩ f1 f2 ?_ ?_ (by omega) ?_
        · exact f3.trans f4.symm
        · intro h; rw [f3]; exact g4 h
        · rw [hr2]
          conv => lhs; unfold pairL
          rw [if_neg (by rw [f1]; decide)]
    rw [ek, f3] at hr
    rcases hnd with hnd | hnd
    · rw [hnd.1] at hr
      have eh : hasC 126 (σ1 87 (cb + i)) (r1.2 84 6) = decide (σ1 87 (cb + i) ≤ r1.2 84 6) := by
        unfold hasC; rw [if_pos rfl]
      by_cases hle : σ1 87 (cb + i) ≤ r1.2 84 6
      · rw [eh, decide_eq_true hle, if_pos rfl] at hr
        have ey : pairY (cb + i) (σ1 87 (cb + i)) (r1.2 84 6) r1.2 = yieldsC (σ1 87 (cb + i)) (sg (sg (sg r1.2 86 (cb + i) 3) 89 (cb + i) (σ1 87 (cb + i))) 88 (cb + i) (r1.2 84 6)) := by
          unfold pairY; rw [if_pos (by rw [ek]; exact hnd.1)]
        rw [ey] at hr
        refine tt_rngY (o1.at hh' hi60 c3 (by omega)) c6 c7 hnd.2 f2 (by rw [c8, f4]; exact Int32.not_lt.mpr hle) ?_
        rw [f4, c8]
        have hT9 : TS kd lf rt nb w (akp ak) cb (sg (sg (sg r1.2 86 (cb + i) 3) 89 (cb + i) (σ1 87 (cb + i))) 88 (cb + i) (r1.2 84 6)) (sg (sg (sg τ' 109 i 3) 110 i (σ1 87 (cb + i))) 111 i (r1.2 84 6)) (f + 1) lo hi i := by
          refine Or.inr (Or.inr (Or.inr (Or.inr (Or.inr (Or.inr (Or.inl ⟨sg_same r1.2 86 (cb + i) 3, sg_same τ' 109 i 3, f3.trans f4.symm, (sg_same (sg r1.2 86 (cb + i) 3) 89 (cb + i) _).trans (sg_same (sg τ' 109 i 3) 110 i _).symm, (sg_same _ 88 (cb + i) _).trans (sg_same _ 111 i _).symm, ?_, ?_, ?_, hlo, hhi, hnd, l, c, hcl, hch, ?_, ?_⟩))))))
          · show Num (sg (sg r1.2 86 (cb + i) 3) 89 (cb + i) (σ1 87 (cb + i)) 89 (cb + i))
            rw [sg_same]; exact g4 hnd
          · rw [sg_same]; exact c9
          · show Num (r1.2 87 (cb + i))
            rw [f3]; exact g4 hnd
          · exact hTl2.fr (fun j h1 h2 => ⟨sg_ne r1.2 86 _ (by omega), rfl, sg_ne _ 88 _ (by omega), sg_ne (sg r1.2 86 (cb + i) 3) 89 _ (by omega)⟩) (fun j h1 h2 => ⟨sg_ne τ' 109 _ (by omega), sg_ne (sg τ' 109 i 3) 110 _ (by omega), sg_ne _ 111 _ (by omega), rfl⟩)
          · exact b4.fr (fun j h1 h2 => ⟨sg_ne r1.2 86 _ (by omega), rfl, sg_ne _ 88 _ (by omega), sg_ne (sg r1.2 86 (cb + i) 3) 89 _ (by omega)⟩) (fun j h1 h2 => ⟨sg_ne τ' 109 _ (by omega), sg_ne (sg τ' 109 i 3) 110 _ (by omega), sg_ne _ 111 _ (by omega), rfl⟩)
        have hGx : FM lo hi τ' (sg (sg (sg τ' 109 i 3) 110 i (σ1 87 (cb + i))) 111 i (r1.2 84 6)) := ((FM.rf.st (Or.inl rfl) (by omega) (by omega)).st (Or.inr (Or.inl rfl)) (by omega) (by omega)).st (Or.inr (Or.inr (Or.inl rfl))) (by omega) (by omega)
        exact yl_all (σ1 := sg (sg (sg r1.2 86 (cb + i) 3) 89 (cb + i) (σ1 87 (cb + i))) 88 (cb + i) (r1.2 84 6)) hr c1 c2 c3 c5 (by omega) hh' hi60 (g4 hnd) (o1.fr hGx) (((hF2.st (by omega) (by omega) (by omega) (by omega)).st (by omega) (by omega) (by omega) (by omega)).st (by omega) (by omega) (by omega) (by omega)) (hG2.tr hGx (Nat.le_refl _) (Nat.le_refl _)) hT9 hK
      · rw [eh, decide_eq_false hle, if_neg (by decide)] at hr
        exact tt_rngN (o1.at hh' hi60 c3 (by omega)) c6 c7 hnd.2 f2 (by rw [c8, f4]; exact Int32.not_le.mp hle) (next hr)
    · have hm2 : (kd (cb + i), srt (w i)) ∈ twoN := hnd
      refine tt_two (o1.at hh' hi60 c3 (by omega)) c6 c7 hm2 (by rw [c8]; exact c9) f2 (fun hb => ?_) (fun hb => next ?_)
      · rw [f4, c8] at hb
        rw [f4, c8]
        rw [hb, if_pos rfl] at hr
        have ey : pairY (cb + i) (σ1 87 (cb + i)) (r1.2 84 6) r1.2 = yieldsC (reckC (kd (cb + i)) (σ1 87 (cb + i)).toInt64 (r1.2 84 6).toInt64).toInt32 r1.2 := by
          unfold pairY
          rw [ek, if_neg]
          intro z
          rw [z] at hm2
          simp [twoN] at hm2
        rw [ey] at hr
        have hT9 : TS kd lf rt nb w (akp ak) cb r1.2 τ' (f + 1) lo hi i := Or.inr (Or.inr (Or.inr (Or.inr (Or.inr (Or.inl ⟨f1, f2, f3.trans f4.symm, hlo, hhi, hnd, l, c, hcl, hch, hTl2, b4⟩)))))
        exact yl_all hr c1 c2 c3 c5 (by omega) hh' hi60 (two_val hm2 c9 hb) o1 hF2 hG2 hT9 hK
      · rw [f4, c8] at hb
        rw [hb, if_neg (by decide)] at hr
        exact hr
  · rw [b1, if_neg (by decide)] at hr
    obtain ⟨c1, c2, c3, ⟨q', c4, c5⟩, c6, c7⟩ := b2
    have hh' : τ' 97 27 = nI i := b3.trans hch.2.2
    refine te_two2 (o1.at hh' hi60 c3 (by omega)) c6 c7 (nd_R hnd) f2 ?_
    rw [hcl.2.1]
    have hFx : FC (cb + lo) (cb + hi) r1.2 (sg r1.2 86 (cb + i) 1) := FC.rf.st (by omega) (by omega) (by omega) (by omega)
    have hGx : FM lo hi τ' (mAsk (nI l) (sg τ' 109 i 1)) := (FM.rf.st (Or.inl rfl) (by omega) (by omega)).ask
    refine hL q' (sg r1.2 86 (cb + i) 1) _ (hPC2.fr hFx) (o1.fr hGx) (by omega) (hF2.tr hFx (Nat.le_refl _) (Nat.le_refl _)) (hG2.tr hGx (Nat.le_refl _) (Nat.le_refl _)) ?_ hTr.tr ⟨fun y hy => c1 y hy, c2, c3, c5, rfl, rfl⟩ (sg_same _ _ _ _) (sg_same τ' 109 i 1) (by omega) hr
    exact hTl2.fr (fun j h1 h2 => ⟨sg_ne _ _ _ (by omega), rfl, rfl, rfl⟩) (fun j h1 h2 => ⟨sg_ne τ' 109 _ (by omega), rfl, rfl, rfl⟩)
  · rw [b1, if_neg (by decide)] at hr
    have hcut : ¬ (sg r1.2 86 (cb + i) 1) 84 8 = 0 := b2.cut
    have hoc : OC (sg r1.2 86 (cb + i) 1) τ' := b2.st (by omega)
    exact cut_all (r := r) (by rw [hr]; exact (pairL_cut hcut m).1) (by rw [hr]; exact hoc.pl m) o1 (by rw [hr]; exact FC.pl hcut (hF2.st (by omega) (by omega) (by omega) (by omega)) (by omega) (by omega) m) hG2 hK
theorem p_both {f F lo hi i l c q0 : Nat} {r : Bool × yS} (hX : pFix kd lf rt nb w ak mb cb f F lo hi i l c q0 d v K σ τ r) : ∀ m, pLft kd lf rt nb w ak mb cb f F lo hi i l c q0 d v K σ τ r m ∧ pRgt kd lf rt nb w ak mb cb f F lo hi i l c q0 d v K σ τ r m := by
  intro m
  induction m with
  | zero =>
    have hL : pLft kd lf rt nb w ak mb cb f F lo hi i l c q0 d v K σ τ r 0 := by
      intro q σ1 τ1 _ _ _ _ _ _ _ hIN _ _ hm _
      have := hIN.2.2.2.1.2.2
      omega
    exact ⟨hL, pr_step hX hL (fun m' h => by omega)⟩
  | succ m ih =>
    have hL := pl_step hX ih.2
    exact ⟨hL, pr_step hX hL (fun m' h => by cases h; exact ih.2)⟩
end SIM4
