/-! isUnit against the class's takesUnit -/
section UNIT3
variable {t : Nat → Int32} {len : Nat} {res : Int32 × yS} {d : Nat} {γ τ : yS} {KV : yS → Prop} {K : Int32 → yS → Prop} {cb N ln s m x k : Nat} {st : List (Nat × Nat)}
theorem sm_unitB (hl : len ≤ 150) (hU : RU cb N ln st m γ τ) (hT : TX t len τ) (hS : SK t len res k γ) (h7 : τ 97 7 = nI k) (h10 : γ 13 10 = 0)
    (kU : ∀ k' γ' τ' N' st' m', k < k' → CK t len res k' γ' → τ' 97 7 = nI k' → NF t len k' γ' → RU cb N' ln st' m' γ' τ' → FR τ τ' → K 0 τ')
    (kR : ∀ k' γ' τ' N' st' s' m' x', k < k' → CK t len res k' γ' → τ' 97 7 = nI k' → NF t len k' γ' → RX cb N' ln st' s' m' x' γ' τ' → nn st' → γ' 13 5 = 3 → FR τ τ' → K 1 τ')
    (kF : ∀ y τ', FT len res τ' → FR τ τ' → K y τ') : bdU (d + 4) K (t k) τ := by
  have hlen := hU.lens
  have hk := hS.1
  have em : mainC (t k) γ = unitC (t k) γ := un_main hU.g5
  have h8 := hU.rb.t8
  have h60 := hU.rb.n60
  have at1 : nI k + 1 = nI (k + 1) := nI_1 k
  have hat : τ 97 7 ≠ -1999999 := by rw [h7]; exact nI_ne (by omega)
  refine ⟨fun n40 => ⟨fun n33 => sm_in (fun q1 q2 => br_t2 ?_) (fun q => br_f2 (sm_in (fun q1 q2 => ?_) (fun q3 => ?_))), fun e33 => ?_⟩, fun e40 => ⟨fun q => ?_, fun q => ?_⟩⟩
  · -- a number
    have hfig := fig_t q1 q2
    obtain ⟨g, hg, eg⟩ := fig_of hfig
    refine w_107_0 (sm_add h8 hU.rb.t10 hU.rb.t11 h60 hat (fun hN => ?_) (fun e60 y => ?_))
    · have hT' : TX t len (ndM cb N 0 τ) := hT.fr (FR.ndM FR.rf)
      have h7' : (ndM cb N 0 τ) 97 7 = nI k := h7
      refine w_107_10 ⟨fun q => absurd q (by decide), fun _ => sm_isFig hl hT' h7' (by omega) (fun _ _ => br_t2 ⟨?_, ?_⟩) (fun hno => absurd (hno hk) (by rw [hfig]; decide))⟩
      · show vp_in ((ndM cb N 0 τ) 97 7) 150
        rw [h7']; exact vp_in_nI (by omega) (by decide)
      · have e2 : (ndM cb N 0 τ) 102 k = nI (48 + g) := (hT'.2 k hk).trans eg
        have ev : ((10 : Int32) * 0 + nI (48 + g)) - 48 = nI g := by
          have : nI (48 + g) - nI 48 = nI (48 + g - 48) := pk_sub (by omega)
          rw [show 48 + g - 48 = g by omega] at this
          rw [Int32.mul_zero, Int32.zero_add]
          exact this
        show yR (d + 4) 107 10 [some (.ref 97), some (.int (nI N)), some (.int (((10 * 0) + ((ndM cb N 0 τ) 102 ((ndM cb N 0 τ) 97 7).toNatClampNeg)) - 48)), some (.int (0 + 1))] [] (sg (ndM cb N 0 τ) 97 7 (((ndM cb N 0 τ) 97 7) + 1)) (qV (fun σ9 => K 1 σ9))
        rw [h7', nI_clamp (by omega), e2, ev, at1, ndM_7]
        exact num_loop hl (k0 := k) hU hN hT (fun a γ' τ' N' st' s' m' x' a0 a1 a2 a3 a4 a5 a6 a7 => kR a γ' τ' N' st' s' m' x' a0 a1 a2 a3 a4 a5 a6 a7) (fun τ' a1 a2 => kF 1 τ' a1 a2) 2 1 g (by omega) (by omega) (by omega) (hS.ok (by rw [em, eg]; exact un_num hU.rb.g6 hN hg))
    · refine num_F (d := d + 1) hl 3 0 k (by omega) (by omega) 0 _ (hT.fr (FR.rf.s97 (by omega) (by omega))) h7 (by rw [sg_same]; exact hat) (fun a' ha' => kF 1 _ (ft_here hS ?_ ?_ (sg_same _ _ _ _) ha') ((FR.rf.s97 (by omega) (by omega)).s97 (by omega) (by omega)))
      · rw [em]; exact un_full (by rw [hU.rb.g6, e60]) n40
      · show τ 97 7 = nI k
        exact h7
  · -- a name
    obtain ⟨v, hv, ev⟩ := name_of q1 q2
    have e97 : t k - 97 = nI v := by
      rw [ev]
      have : nI (97 + v) - nI 97 = nI (97 + v - 97) := pk_sub (by omega)
      rw [show 97 + v - 97 = v by omega] at this
      exact this
    have eW : (((1 : Int32) ||| (nI v <<< (4 &&& 31))) ||| ((0 : Int32) <<< (14 &&& 31))) ||| ((0 : Int32) <<< (20 &&& 31)) = mkW 1 v 0 0 := mk_eq (q := 1) (f := 0) (g := 0) (by omega) (by omega) (by omega) (by omega)
    refine w_97_0 ⟨fun z => absurd h8 z, fun _ => ⟨fun _ => ⟨fun z => absurd h8 z, fun _ => w_89_0 ?_⟩, fun z => absurd z one_ne⟩⟩
    rw [e97, eW]
    refine sm_add h8 hU.rb.t10 hU.rb.t11 h60 hat (fun hN => w_101_0 ?_) (fun e60 y => w_101_0 ?_)
    · have e14 : (sg (sg τ 103 (25 + cb + N) (mkW 1 v 0 0)) 97 11 (nI (cb + N + 1))) 97 14 = nI m := hU.t14
      rw [e14, nI_clamp (by omega), nI_1]
      refine ⟨vp_in_nI (by omega) (by decide), yB1, ?_⟩
      have hX := (rx_name (v := v) hU hN hv).at7 (v := nI (k + 1))
      have e7 : (sg (sg (sg (sg (sg τ 103 (25 + cb + N) (mkW 1 v 0 0)) 97 11 (nI (cb + N + 1))) 104 m (nI N)) 105 m 1) 97 14 (nI (m + 1))) 97 7 = nI k := h7
      rw [e7, at1]
      refine sm_nots st N m N _ _ hX (fun γ' τ' st' s' m' x' a1 a2 a3 a4 => ?_)
      have hC := hS.ok (em.trans (by rw [ev]; exact un_name hU.rb.g6 hN hU.rb.gl hU.rb.l8 hv))
      have g10 : (jnC 8 69 (naC (cb + N) ln (nI v) γ)) 13 10 = 0 := by
        rw [jn_13 (by decide) (by decide) (by decide)]; exact h10
      have hj := a4 69 (by omega)
      rw [hj] at hC g10
      refine kR (k + 1) _ τ' (N + 1) st' s' m' x' (by omega) hC ?_ (Or.inl (by rw [g10]; exact Int32.le_refl _)) a1.d5 a2 (sg_same _ _ _ _) (FR.tr ?_ a3.fr)
      · rw [a3.2 7 (by decide) (by decide)]
        exact sg_same _ _ _ _
      · exact ((FR.ndM FR.rf).ptS).s97 (by omega) (by omega)
    · have e14 : (sg τ 97 8 (τ 97 7)) 97 14 = nI m := hU.t14
      rw [e14, nI_clamp (by omega), nI_1]
      refine ⟨vp_in_nI (by omega) (by decide), yB1, ?_⟩
      refine sm_notsF (γ := γ) (cb := cb) (m := m) (by omega) st _ hU.rb.t17 (hU.rb.sa.cong (fun _ _ => ⟨rfl, rfl, rfl, rfl⟩)) hU.ws.le (fun e he e12 => by have := hU.ws.pl e he e12; omega) (by omega) rfl hU.rb.t10 (fun τ' hF => kF 1 τ' (ft_here hS ?_ ?_ ?_ (show k + 1 ≤ len by omega)) (FR.tr ?_ hF.fr))
      · rw [em]; exact un_full (by rw [hU.rb.g6, e60]) n40
      · rw [hF.2 8 (by decide) (by decide)]
        exact h7
      · rw [hF.2 7 (by decide) (by decide), sg_same]
        show τ 97 7 + 1 = nI (k + 1)
        rw [h7, at1]
      · exact (FR.ptS (FR.rf.s97 (by omega) (by omega))).s97 (by omega) (by omega)
  · -- none
    refine w_97_0 ⟨fun z => absurd h8 z, fun _ => ⟨fun z => absurd rfl z, fun _ => ⟨fun _ => kF 1 _ (ft_here (a := k) hS ?_ ?_ h7 (by omega)) (FR.rf.s97 (by omega) (by omega)), fun z => absurd z (by rw [sg_same]; exact hat)⟩⟩⟩
    · rw [em]; exact un_bad n40 n33 (fig_f q) q3
    · rw [sg_same]; exact h7
  · -- !
    refine sm_add h8 hU.rb.t10 hU.rb.t11 h60 hat (fun hN => w_102_0 ?_) (fun e60 y => w_102_0 ?_)
    · have e17 : (sg (sg τ 103 (25 + cb + N) 12) 97 11 (nI (cb + N + 1))) 97 17 = nI st.length := hU.rb.t17
      rw [e17, nI_clamp (by omega), nI_1]
      refine ⟨vp_in_nI (by omega) (by decide), ?_⟩
      have e7 : (sg (sg (sg (sg (sg τ 103 (25 + cb + N) 12) 97 11 (nI (cb + N + 1))) 106 st.length 12) 107 st.length (nI N)) 97 17 (nI (st.length + 1))) 97 7 = nI k := h7
      rw [e7, at1]
      have eu : unitC (t k) γ = (true, plS st.length (nI (cb + N)) 8 (ndC (cb + N) 33 0 γ)) := by
        rw [e33]
        unfold unitC
        rw [ifF (by decide), ifF (by decide), ifT rfl, hU.rb.g6, ifT (inNt (vp_in_nI hN (by decide))), nw_eq hU.rb.g6 hN]
        exact pl_eq (show (ndC (cb + N) 33 0 γ) 13 3 = nI st.length from hU.rb.g3) (by omega)
      exact kU (k + 1) _ _ (N + 1) _ m (by omega) (hS.ok (em.trans eu)) (sg_same _ _ _ _) (Or.inl (by rw [show (plS st.length (nI (cb + N)) 8 (ndC (cb + N) 33 0 γ)) 13 10 = γ 13 10 from rfl, h10]; exact Int32.le_refl _)) ((ru_not hU hN).at7) (((FR.ndM FR.rf).psS).s97 (by omega) (by omega))
    · have e17 : (sg τ 97 8 (τ 97 7)) 97 17 = nI st.length := hU.rb.t17
      rw [e17, nI_clamp (by omega), nI_1]
      refine ⟨vp_in_nI (by omega) (by decide), kF 0 _ (ft_here (a := k + 1) hS ?_ h7 ?_ (by omega)) ((FR.psS (FR.rf.s97 (by omega) (by omega))).s97 (by omega) (by omega))⟩
      · rw [em]; exact un_full (by rw [hU.rb.g6, e60]) n40
      · rw [sg_same]
        show τ 97 7 + 1 = nI (k + 1)
        rw [h7, at1]
  · -- the tenth (
    have hb : brk st = 9 := by
      rw [hU.rb.t18] at q
      have := (nI_leI (a := 9) (b := brk st) (by omega) (by omega)).mp q
      omega
    refine w_97_0 ⟨fun z => absurd h8 z, fun _ => ⟨fun z => absurd rfl z, fun _ => w_102_0 ?_⟩⟩
    have e17 : (sg (sg τ 97 8 (τ 97 7)) 97 18 ((sg τ 97 8 (τ 97 7)) 97 18 + 1)) 97 17 = nI st.length := hU.rb.t17
    rw [e17, nI_clamp (by omega), nI_1]
    refine ⟨vp_in_nI (by omega) (by decide), kF 0 _ (ft_here (a := k + 1) hS ?_ h7 ?_ (by omega)) ((FR.psS ((FR.rf.s97 (by omega) (by omega)).s97 (by omega) (by omega))).s97 (by omega) (by omega))⟩
    · rw [em, e40]
      unfold unitC
      rw [ifF (by decide), ifF (by decide), ifF (by decide), ifT rfl, hU.rb.g4, hb, ifT (by decide)]
    · rw [sg_same]
      show τ 97 7 + 1 = nI (k + 1)
      rw [h7, at1]
  · -- (
    have hb : brk st < 9 := by
      rw [hU.rb.t18] at q
      rcases Nat.lt_or_ge (brk st) 9 with z | z
      · exact z
      · exact absurd (nI_le (a := 9) (b := brk st) z (by omega)) q
    refine w_97_0 ⟨fun z => absurd h8 z, fun _ => ⟨fun _ => w_102_0 ?_, fun z => absurd z one_ne⟩⟩
    rw [hU.rb.t18, nI_1]
    have e17 : (sg τ 97 18 (nI (brk st + 1))) 97 17 = nI st.length := hU.rb.t17
    rw [e17, nI_clamp (by omega), nI_1]
    refine ⟨vp_in_nI (by omega) (by decide), ?_⟩
    have e7 : (sg (sg (sg (sg τ 97 18 (nI (brk st + 1))) 106 st.length 15) 107 st.length 0) 97 17 (nI (st.length + 1))) 97 7 = nI k := h7
    rw [e7, at1]
    have n9 : ¬ (9 : Int32) ≤ nI (brk st) := nI_ge (a := brk st) (b := 9) hb (by omega)
    have eu : unitC (t k) γ = (true, plS st.length (-1) 0 (sg γ 13 4 (nI (brk st + 1)))) := by
      rw [e40]
      unfold unitC
      rw [ifF (by decide), ifF (by decide), ifF (by decide), ifT rfl, hU.rb.g4, ifF n9, nI_1]
      exact pl_eq (show (sg γ 13 4 (nI (brk st + 1))) 13 3 = nI st.length from hU.rb.g3) (by omega)
    exact kU (k + 1) _ _ N _ m (by omega) (hS.ok (em.trans eu)) (sg_same _ _ _ _) (Or.inl (by rw [show (plS st.length (-1) 0 (sg γ 13 4 (nI (brk st + 1)))) 13 10 = γ 13 10 from rfl, h10]; exact Int32.le_refl _)) ((ru_open hU hb).at7) ((FR.psS (FR.rf.s97 (by omega) (by omega))).s97 (by omega) (by omega))
theorem sm_unit (hl : len ≤ 150) (hU : RU cb N ln st m γ τ) (hT : TX t len τ) (hC : CK t len res k γ) (h7 : τ 97 7 = nI k) (hn : NF t len k γ)
    (kU : ∀ k' γ' τ' N' st' m', k < k' → CK t len res k' γ' → τ' 97 7 = nI k' → NF t len k' γ' → RU cb N' ln st' m' γ' τ' → FR τ τ' → K 0 τ')
    (kR : ∀ k' γ' τ' N' st' s' m' x', k < k' → CK t len res k' γ' → τ' 97 7 = nI k' → NF t len k' γ' → RX cb N' ln st' s' m' x' γ' τ' → nn st' → γ' 13 5 = 3 → FR τ τ' → K 1 τ')
    (kF : ∀ y τ', FT len res τ' → FR τ τ' → K y τ') : yR (d + 5) 108 0 [some (.ref 97), none] [] τ (qI K) := by
  have hk := hC.1
  refine w_108_0 (sm_here (K := bdU (d + 4) K) hl _ k rfl γ τ hT hC h7 hn (fun k' hk' hS h32 => ?_) (fun γ' hg hr => ?_))
  · have F : FR τ (sg τ 97 7 (nI k')) := FR.rf.s97 (by omega) (by omega)
    exact sm_unitB hl hU.f10.at7 (hT.fr F) hS (sg_same _ _ _ _) (sg_same _ _ _ _) (fun k'' γ' τ' N' st' m' a0 a1 a2 a3 a4 a5 => kU k'' γ' τ' N' st' m' (by omega) a1 a2 a3 a4 (F.tr a5)) (fun k'' γ' τ' N' st' s' m' x' a0 a1 a2 a3 a4 a5 a6 a7 => kR k'' γ' τ' N' st' s' m' x' (by omega) a1 a2 a3 a4 a5 a6 (F.tr a7)) (fun y τ' a1 a2 => kF y τ' a1 (F.tr a2))
  · have h8 : (sg τ 97 7 (nI len)) 97 8 = -1999999 := hU.rb.t8
    refine ⟨fun _ => ⟨fun _ => sm_in (fun q => absurd q (by decide)) (fun _ => br_f2 (sm_in (fun q => absurd q (by decide)) (fun _ => w_97_0 ⟨fun z => absurd h8 z, fun _ => ⟨fun z => absurd rfl z, fun _ => ⟨fun _ => kF 1 _ ⟨len, len, Nat.le_refl _, ?_, rfl, Nat.le_refl _, rfl⟩ ((FR.rf.s97 (by omega) (by omega)).s97 (by omega) (by omega)), fun z => absurd z (by rw [sg_same]; exact nI_ne (by omega))⟩⟩⟩))), fun z => absurd z (by decide)⟩, fun z => absurd z (by decide)⟩
    rw [hr, hU.g5]; rfl
end UNIT3
