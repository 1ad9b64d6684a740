/-! the line's loop, readLine, and all lines -/
/-- what follows a unit in readLine -/
def KL (d ln : Nat) (KV : yS → Prop) (x9 : Int32) (σ9 : yS) : Prop := (((x9 = 0) → yR (d + 6) 113 96 [some (.ref 97), some (.int (nI ln)), some (.int 1)] [] σ9 (qV KV)) ∧ (¬ (x9 = 0) → yR (d + 5) 112 0 [some (.ref 97), none, none] [] σ9 (qI (fun x10 σ10 => (((x10 = 0) → yR (d + 6) 113 96 [some (.ref 97), some (.int (nI ln)), some (.int 0)] [] σ10 (qV KV)) ∧ (¬ (x10 = 0) → yR (d + 6) 113 96 [some (.ref 97), some (.int (nI ln)), some (.int 1)] [] σ10 (qV KV)))))))
section READ
variable {t : Nat → Int32} {len : Nat} {res : Int32 × yS} {d : Nat} {γ τ : yS} {KV : yS → Prop} {K : Int32 → yS → Prop} {cb N ln s m x k q : Nat} {st : List (Nat × Nat)}
theorem FT.one (h : FT len res τ) : FT1 len res τ := by
  obtain ⟨kf, a, f1, f2, f3, -, -⟩ := h
  exact ⟨kf, f1, f2, f3⟩
theorem FT.ne (hl : len ≤ 150) (h : FT len res τ) : ¬ τ 97 8 = -1999999 := by
  obtain ⟨kf, a, f1, f2, f3, -, -⟩ := h
  rw [f3]; exact nI_ne (by omega)
theorem ln_F0 {v : Int32} (hl : len ≤ 150) {τ' : yS} (kF : ∀ τ', FT1 len res τ' → FR τ τ' → KV τ') (h : FT len res τ') (hF : FR τ τ') : yR (d + 6) 113 96 [some (.ref 97), some (.int (nI ln)), some (.int v)] [] τ' (qV KV) :=
  w_113_96 ⟨fun _ => kF τ' h.one hF, fun z => absurd z (h.ne hl)⟩
theorem ln_F {y : Int32} (hl : len ≤ 150) {τ' : yS} (hT : TX t len τ') (kF : ∀ τ', FT1 len res τ' → FR τ τ' → KV τ') (h : FT len res τ') (hF : FR τ τ') : KL d ln KV y τ' := by
  refine ⟨fun _ => ln_F0 hl kF h hF, fun _ => ?_⟩
  obtain ⟨kf, a, f1, f2, f3, f4, f5⟩ := h
  refine w_112_0 (sm_hereF hl _ a rfl f4 τ' hT f5 (fun k' y hk' => ?_))
  have hft : FT len res (sg τ' 97 7 (nI k')) := ⟨kf, k', f1, f2, f3, hk', sg_same _ _ _ _⟩
  exact w_112_5 ⟨fun _ => br_f2 (ln_F0 hl kF hft (hF.s97 (by omega) (by omega))), fun z => absurd z (hft.ne hl)⟩
theorem ln_R (hl : len ≤ 150) (hX : RX cb N ln st s m x γ τ) (hnn : nn st) (hT : TX t len τ) (hC : CK t len res k γ) (h7 : τ 97 7 = nI k) (hn : NF t len k γ) (h5 : γ 13 5 = 3)
    (hU : ∀ k' γ' τ' N' st' m', k < k' → CK t len res k' γ' → τ' 97 7 = nI k' → NF t len k' γ' → RU cb N' ln st' m' γ' τ' → FR τ τ' → yR (d + 6) 113 96 [some (.ref 97), some (.int (nI ln)), some (.int 1)] [] τ' (qV KV))
    (kL : ∀ k' γ' τ' cb', k < k' → CK t len res k' γ' → τ' 97 7 = nI k' → NF t len k' γ' → RLn cb' (ln + 1) γ' τ' → FR τ τ' → KV τ')
    (kF : ∀ τ', FT1 len res τ' → FR τ τ' → KV τ') : KL d ln KV 1 τ := by
  refine br_t2 (w_112_0 (sm_here hl _ k rfl γ τ hT hC h7 hn (fun k2 hk2 hS2 h32 => ?_) (fun γ2 hg hr => ?_)))
  · have hF2 : FR τ (sg τ 97 7 (nI k2)) := FR.rf.s97 (by omega) (by omega)
    refine sm_due (d := d + 1) hl (len - k2) k2 (Nat.le_refl _) N st s m x _ _ hX.f10.at7 hnn (hT.fr hF2) hS2 (sg_same _ _ _ _) (sg_same _ _ _ _) h5 h32
      (fun k3 γ3 τ3 N3 st3 m3 a0 a1 a2 a3 a4 a5 => br_t2 (hU k3 γ3 τ3 N3 st3 m3 (by omega) a1 a2 a3 a4 (hF2.tr a5)))
      (fun k3 γ3 τ3 N3 st3 s3 m3 x3 a0 a1 a2 a3 a4 a5 a6 a7 a8 a9 => br_f2 ?_)
      (fun γ3 τ3 N3 st3 s3 m3 x3 a1 a2 a3 a4 a5 => br_f2 ?_)
      (fun y τ3 a1 a2 => ?_)
    · exact ln_end (d := d + 2) hl a4 a7 (hT.fr (hF2.tr a9)) a1 a2 a3 a5 a6 a8 (fun k4 γ4 τ4 cb4 b0 b1 b2 b3 b4 b5 => kL k4 γ4 τ4 cb4 (by omega) b1 b2 b3 b4 ((hF2.tr a9).tr b5)) (fun τ4 b1 b2 => kF τ4 b1 ((hF2.tr a9).tr b2))
    · exact ln_endE (d := d + 2) hl a3 (hT.fr (hF2.tr a5)) a2 a1 (fun τ4 b1 b2 => kF τ4 b1 ((hF2.tr a5).tr b2))
    · exact ⟨fun _ => ln_F0 hl kF a1 (hF2.tr a2), fun _ => ln_F0 hl kF a1 (hF2.tr a2)⟩
  · have hF2 : FR τ (sg τ 97 7 (nI len)) := FR.rf.s97 (by omega) (by omega)
    have hr' : res.1 = nI len := by rw [hr, h5]; rfl
    refine sm_dueE (d := d + 1) hl (hX.at7 (v := nI len)) (sg_same _ _ _ _) hr' (fun hb => br_f2 (ln_endE (d := d + 2) hl hX.at7 (hT.fr hF2) (sg_same _ _ _ _) hr' (fun τ4 b1 b2 => kF τ4 b1 (hF2.tr b2)))) (fun y τ3 a1 a2 => ?_)
    exact ⟨fun _ => ln_F0 hl kF a1 (hF2.tr a2), fun _ => ln_F0 hl kF a1 (hF2.tr a2)⟩
theorem ln_loop (hl : len ≤ 150) : ∀ (n k : Nat), len - k ≤ n → ∀ (N : Nat) (st : List (Nat × Nat)) (m : Nat) (γ τ : yS), RU cb N ln st m γ τ → TX t len τ → CK t len res k γ → τ 97 7 = nI k → NF t len k γ →
    (∀ k' γ' τ' cb', k < k' → CK t len res k' γ' → τ' 97 7 = nI k' → NF t len k' γ' → RLn cb' (ln + 1) γ' τ' → FR τ τ' → KV τ') →
    (∀ τ', FT1 len res τ' → FR τ τ' → KV τ') → yR (d + 6) 113 96 [some (.ref 97), some (.int (nI ln)), some (.int 1)] [] τ (qV KV) := by
  intro n
  induction n with
  | zero =>
    intro k hn N st m γ τ hU hT hC h7 hnf kL kF
    have hk := hC.1
    have h8 := hU.rb.t8
    refine w_113_96 ⟨fun z => absurd h8 z, fun _ => ⟨fun z => absurd z one_ne, fun _ => sm_unit (K := KL d ln KV) hl hU hT hC h7 hnf (fun k' γ' τ' N' st' m' a0 a1 => ?_) (fun k' γ' τ' N' st' s' m' x' a0 a1 => ?_) (fun y τ' a1 a2 => ln_F hl (hT.fr a2) kF a1 a2)⟩⟩
    · have := a1.1; omega
    · have := a1.1; omega
  | succ n ih =>
    intro k hn N st m γ τ hU hT hC h7 hnf kL kF
    have h8 := hU.rb.t8
    have on : ∀ k' γ' τ' N' st' m', k < k' → CK t len res k' γ' → τ' 97 7 = nI k' → NF t len k' γ' → RU cb N' ln st' m' γ' τ' → FR τ τ' → yR (d + 6) 113 96 [some (.ref 97), some (.int (nI ln)), some (.int 1)] [] τ' (qV KV) := fun k' γ' τ' N' st' m' a0 a1 a2 a3 a4 a5 =>
      ih k' (by omega) N' st' m' γ' τ' a4 (hT.fr a5) a1 a2 a3 (fun k4 γ4 τ4 cb4 b0 b1 b2 b3 b4 b5 => kL k4 γ4 τ4 cb4 (by omega) b1 b2 b3 b4 (a5.tr b5)) (fun τ4 b1 b2 => kF τ4 b1 (a5.tr b2))
    refine w_113_96 ⟨fun z => absurd h8 z, fun _ => ⟨fun z => absurd z one_ne, fun _ => sm_unit (K := KL d ln KV) hl hU hT hC h7 hnf (fun k' γ' τ' N' st' m' a0 a1 a2 a3 a4 a5 => br_f2 (on k' γ' τ' N' st' m' a0 a1 a2 a3 a4 a5)) (fun k' γ' τ' N' st' s' m' x' a0 a1 a2 a3 a4 a5 a6 a7 => ?_) (fun y τ' a1 a2 => ln_F hl (hT.fr a2) kF a1 a2)⟩⟩
    exact ln_R hl a4 a5 (hT.fr a7) a1 a2 a3 a6 (fun k4 γ4 τ4 N4 st4 m4 b0 b1 b2 b3 b4 b5 => on k4 γ4 τ4 N4 st4 m4 (by omega) b1 b2 b3 b4 (a7.tr b5)) (fun k4 γ4 τ4 cb4 b0 b1 b2 b3 b4 b5 => kL k4 γ4 τ4 cb4 (by omega) b1 b2 b3 b4 (a7.tr b5)) (fun τ4 b1 b2 => kF τ4 b1 (a7.tr b2))
theorem sm_readLine (hl : len ≤ 150) (hR : RLn cb ln γ τ) (hT : TX t len τ) (hS : SK t len res k γ) (h32 : ¬ t k = 32) (h7 : τ 97 7 = nI k) (h10 : γ 13 10 = 0)
    (kL : ∀ k' γ' τ' cb' ln', k < k' → CK t len res k' γ' → τ' 97 7 = nI k' → NF t len k' γ' → RLn cb' ln' γ' τ' → FR τ τ' → KV τ')
    (kF : ∀ τ', FT1 len res τ' → FR τ τ' → KV τ') : yR (d + 6) 113 0 [some (.ref 97), none, none] [] τ (qV KV) := by
  obtain ⟨r1, r2, r3, r4, r5, r6, r7, r8, r9, r10, r11⟩ := id hR
  have hk := hS.1
  have at1 : nI k + 1 = nI (k + 1) := nI_1 k
  have hat : τ 97 7 ≠ -1999999 := by rw [h7]; exact nI_ne (by omega)
  refine w_113_0 ⟨vp_in_nI (n := 0) (by omega) (by decide), fun q8 => ?_, fun n8 => ?_⟩
  · have e8 : ln = 8 := by
      rw [r10] at q8
      have := (nI_leI (a := 8) (b := ln) (by omega) (by omega)).mp q8
      omega
    have hno : (mainC (t k) γ).1 = false := by
      have hb : ∀ e, beginsC e γ = (false, γ) := fun e => by
        unfold beginsC
        rw [r5, e8, ifF (by decide)]
      unfold mainC
      rw [ifT r3, hb, hb]
      split
      · rfl
      · rw [ifF (by simp)]
    refine w_97_0 ⟨fun z => absurd r8 z, fun _ => ⟨fun z => absurd rfl z, fun _ => ⟨fun z => absurd z ?_, fun _ => kF _ ⟨k, by omega, hS.no hno, h7⟩ (FR.rf.s97 (by omega) (by omega))⟩⟩⟩
    rw [sg_same]; exact hat
  · have l8 : ln < 8 := by
      rw [r10] at n8
      rcases Nat.lt_or_ge ln 8 with w | w
      · exact w
      · exact absurd (nI_le (a := 8) (b := ln) w (by omega)) n8
    have hb : ∀ e, beginsC e γ = (true, beC cb ln e γ) := fun e => by
      unfold beginsC beC
      rw [r5, ifT (inNt (vp_in_nI l8 (by decide))), nI_clamp (by omega), r4]
    have e1 : (1 : Int32) + nI ln = nI (1 + ln) := nI_add 1 ln
    refine w_97_0 ⟨fun z => absurd r8 z, fun _ => ⟨fun _ => ⟨fun _ => sm_here1 hl hT h7 hk h32 ⟨fun n42 => ?_, fun e42 => ?_⟩, fun z => absurd r8 z⟩, fun z => absurd z one_ne⟩⟩
    · rw [r10, e1, nI_clamp (by omega), sg_same, h7, r9, Int32.add_zero]
      refine ⟨vp_in_nI (by omega) (by decide), ?_⟩
      have hU : RU cb 0 ln [] 0 (beC cb ln 0 γ) (beM cb ln 0 (nI k) τ) := ru_begin hR l8 (Or.inl rfl)
      have hF : FR τ (beM cb ln 0 (nI k) τ) := ((((((FR.rf.sc (by omega) (by omega)).s97 (by omega) (by omega)).s97 (by omega) (by omega)).s97 (by omega) (by omega)).s97 (by omega) (by omega)).s97 (by omega) (by omega))
      have hS2 : SK t len res k (beC cb ln 0 γ) := by
        obtain ⟨s1, s2⟩ := hS
        have em : mainC (t k) γ = mainC (t k) (beC cb ln 0 γ) := by
          rw [un_main (γ := beC cb ln 0 γ) rfl]
          unfold mainC
          rw [ifT r3, ifF n42, hb, ifT rfl]
        rw [em] at s2
        exact ⟨s1, s2⟩
      have on : ∀ k' γ' τ' N' st' m', k < k' → CK t len res k' γ' → τ' 97 7 = nI k' → NF t len k' γ' → RU cb N' ln st' m' γ' τ' → FR (beM cb ln 0 (nI k) τ) τ' → yR (d + 6) 113 96 [some (.ref 97), some (.int (nI ln)), some (.int 1)] [] τ' (qV KV) := fun k' γ' τ' N' st' m' a0 a1 a2 a3 a4 a5 =>
        ln_loop hl (len - k') k' (Nat.le_refl _) N' st' m' γ' τ' a4 (hT.fr (hF.tr a5)) a1 a2 a3 (fun k4 γ4 τ4 cb4 b0 b1 b2 b3 b4 b5 => kL k4 γ4 τ4 cb4 (ln + 1) (by omega) b1 b2 b3 b4 ((hF.tr a5).tr b5)) (fun τ4 b1 b2 => kF τ4 b1 ((hF.tr a5).tr b2))
      refine w_113_96 ⟨fun z => absurd hU.rb.t8 z, fun _ => ⟨fun z => absurd z one_ne, fun _ => w_108_0 (sm_here1 (K := bdU (d + 4) (KL d ln KV)) (k := k) (t := t) (len := len) hl (hT.fr hF) rfl hk h32 (sm_unitB (K := KL d ln KV) hl hU (hT.fr hF) hS2 rfl h10 (fun k' γ' τ' N' st' m' a0 a1 a2 a3 a4 a5 => br_f2 (on k' γ' τ' N' st' m' a0 a1 a2 a3 a4 a5)) (fun k' γ' τ' N' st' s' m' x' a0 a1 a2 a3 a4 a5 a6 a7 => ?_) (fun y τ' a1 a2 => ln_F hl (hT.fr (hF.tr a2)) (fun τ4 b1 b2 => kF τ4 b1 (hF.tr b2)) a1 a2)))⟩⟩
      exact ln_R hl a4 a5 (hT.fr (hF.tr a7)) a1 a2 a3 a6 (fun k4 γ4 τ4 N4 st4 m4 b0 b1 b2 b3 b4 b5 => on k4 γ4 τ4 N4 st4 m4 (by omega) b1 b2 b3 b4 (a7.tr b5)) (fun k4 γ4 τ4 cb4 b0 b1 b2 b3 b4 b5 => kL k4 γ4 τ4 cb4 (ln + 1) (by omega) b1 b2 b3 b4 ((hF.tr a7).tr b5)) (fun τ4 b1 b2 => kF τ4 b1 ((hF.tr a7).tr b2))
    · rw [r10, e1, nI_clamp (by omega), sg_same, h7, r9, at1]
      refine ⟨vp_in_nI (by omega) (by decide), ?_⟩
      have hU : RU cb 0 ln [] 0 (beC cb ln 1 γ) (beM cb ln 1 (nI (k + 1)) τ) := ru_begin hR l8 (Or.inr rfl)
      have hF : FR τ (beM cb ln 1 (nI (k + 1)) τ) := ((((((FR.rf.sc (by omega) (by omega)).s97 (by omega) (by omega)).s97 (by omega) (by omega)).s97 (by omega) (by omega)).s97 (by omega) (by omega)).s97 (by omega) (by omega))
      have em : mainC (t k) γ = (true, beC cb ln 1 γ) := by
        unfold mainC
        rw [ifT r3, ifT e42, hb]
      exact ln_loop hl (len - (k + 1)) (k + 1) (Nat.le_refl _) 0 [] 0 _ _ hU (hT.fr hF) (hS.ok em) rfl (Or.inl (by rw [show (beC cb ln 1 γ) 13 10 = γ 13 10 from rfl, h10]; exact Int32.le_refl _)) (fun k4 γ4 τ4 cb4 b0 b1 b2 b3 b4 b5 => kL k4 γ4 τ4 cb4 (ln + 1) (by omega) b1 b2 b3 b4 (hF.tr b5)) (fun τ4 b1 b2 => kF τ4 b1 (hF.tr b2))
/-- all lines -/
theorem sm_rds (hl : len ≤ 150) (hv : ∀ j, j < len → ¬ t j = -1999999) : ∀ (n k : Nat), len - k ≤ n → ∀ (cb ln : Nat) (γ τ : yS), RLn cb ln γ τ → TX t len τ → CK t len res k γ → τ 97 7 = nI k → NF t len k γ →
    (∀ τ' cb' ln', res.1 = -1 → RLn cb' ln' res.2 τ' → FR τ τ' → yR (d + 6) 82 0 [some (.ref 97), none] [] τ' (qV (fun σ3 => yR (d + 7) 114 71 [some (.ref 97), some (.int 0)] [] σ3 (qI K)))) →
    (∀ τ' kf, kf ≤ len → res.1 = nI kf → FR τ τ' → K ((-10) - nI kf) τ') → yR (d + 7) 114 23 [some (.ref 97), none] [] τ (qI K) := by
  intro n
  induction n with
  | zero =>
    intro k hn cb ln γ τ hR hT hC h7 hnf kO kF
    obtain ⟨r1, r2, r3, r4, r5, r6, r7, r8, r9, r10, r11⟩ := id hR
    have hk := hC.1
    refine w_114_23 ⟨fun z => absurd r8 z, fun _ => sm_here hl _ k rfl γ τ hT hC h7 hnf (fun k2 hk2 hS2 h32 => ?_) (fun γ2 hg hr => ⟨fun _ => ⟨fun _ => ?_, fun z => absurd r8 z⟩, fun z => absurd rfl z⟩)⟩
    · have := hS2.1; omega
    · refine kO _ cb ln (by rw [hr, r3]; rfl) ?_ (FR.rf.s97 (by omega) (by omega))
      rw [hr]
      rcases hg with rfl | rfl
      · exact hR.at7
      · exact hR.f10.at7
  | succ n ih =>
    intro k hn cb ln γ τ hR hT hC h7 hnf kO kF
    obtain ⟨r1, r2, r3, r4, r5, r6, r7, r8, r9, r10, r11⟩ := id hR
    have hk := hC.1
    refine w_114_23 ⟨fun z => absurd r8 z, fun _ => sm_here hl _ k rfl γ τ hT hC h7 hnf (fun k2 hk2 hS2 h32 => ⟨fun z => absurd z (hv k2 hS2.1), fun _ => ?_⟩) (fun γ2 hg hr => ⟨fun _ => ⟨fun _ => ?_, fun z => absurd r8 z⟩, fun z => absurd rfl z⟩)⟩
    · have hF2 : FR τ (sg τ 97 7 (nI k2)) := FR.rf.s97 (by omega) (by omega)
      refine sm_readLine hl hR.f10.at7 (hT.fr hF2) hS2 h32 (sg_same _ _ _ _) (sg_same _ _ _ _) (fun k' γ' τ' cb' ln' a0 a1 a2 a3 a4 a5 => ?_) (fun τ' a1 a2 => ?_)
      · exact ih k' (by omega) cb' ln' γ' τ' a4 (hT.fr (hF2.tr a5)) a1 a2 a3 (fun τ4 cb4 ln4 b1 b2 b3 => kO τ4 cb4 ln4 b1 b2 ((hF2.tr a5).tr b3)) (fun τ4 kf b0 b1 b2 => kF τ4 kf b0 b1 ((hF2.tr a5).tr b2))
      · obtain ⟨kf, f1, f2, f3⟩ := a1
        refine w_114_23 ⟨fun _ => ?_, fun z => absurd z (by rw [f3]; exact nI_ne (by omega))⟩
        rw [f3]
        exact kF τ' kf f1 f2 (hF2.tr a2)
    · refine kO _ cb ln (by rw [hr, r3]; rfl) ?_ (FR.rf.s97 (by omega) (by omega))
      rw [hr]
      rcases hg with rfl | rfl
      · exact hR.at7
      · exact hR.f10.at7
end READ
