/-! readFirst and readSet of the reference against the class -/
def okS (d : Nat) (KV : yS → Prop) (v1 : Int32) (σ : yS) : Prop := yR d 97 0 [some (.ref 97), some (.int 1)] [] σ (qV (fun σ9 => ((¬ ((σ9 97 8) = (-1999999)) → KV σ9) ∧ (((σ9 97 8) = (-1999999)) → (vp_in ((σ9 97 14) - 1) 64 ∧ (vp_in ((25 + (σ9 97 10)) + (σ9 104 ((σ9 97 14) - 1).toNatClampNeg)) 89 ∧ yR d 86 0 [some (.int (σ9 103 ((25 + (σ9 97 10)) + (σ9 104 ((σ9 97 14) - 1).toNatClampNeg)).toNatClampNeg))] [] (sg σ9 97 14 ((σ9 97 14) - 1)) (qI (fun x10 σ10 => yR d 89 0 [some (.int v1), some (.int x10), some (.int 0), some (.int 0)] [] σ10 (qI (fun x11 σ11 => yR d 102 0 [some (.ref 97), some (.int v1), some (.int (σ9 104 ((σ9 97 14) - 1).toNatClampNeg))] [] (sg σ11 103 ((25 + (σ9 97 10)) + (σ9 104 ((σ9 97 14) - 1).toNatClampNeg)).toNatClampNeg x11) (qV (fun σ12 => KV (sg σ12 97 7 ((σ12 97 7) + 1))))))))))))))
section FIRST
variable {t : Nat → Int32} {len : Nat} {res : Int32 × yS} {d : Nat} {γ τ : yS} {KV : yS → Prop} {K : Int32 → yS → Prop} {cb N ln s m x k q : Nat} {st : List (Nat × Nat)}
theorem rs_main (h5 : γ 13 5 = 3) {c : Int32} : mainC c γ = restC c γ := by
  unfold mainC
  rw [h5, ifF (by decide), ifF (by decide), ifF (by decide)]
theorem fig_sub {c : Int32} (h1 : (0 : Int32) ≤ c - 48) (h2 : c - 48 ≤ 9) : ∃ v : Nat, v ≤ 9 ∧ c = nI (48 + v) ∧ c - 48 = nI v := by
  obtain ⟨j, hj, ej⟩ := nI_of2 (x := c - 48) (M := 9) (n := 9) (by decide) (Int32.not_lt.mpr h1) h2
  refine ⟨j, hj, ?_, ej⟩
  have e : c = (c - 48) + 48 := by rw [Int32.sub_add_cancel]
  rw [e, ej, Int32.add_comm]
  exact nI_add 48 j
theorem fig_nsub {c : Int32} (h : c - 48 < 0 ∨ (9 : Int32) < c - 48) : figC c = false := by
  cases hf : figC c with
  | false => rfl
  | true =>
    obtain ⟨g, hg, eg⟩ := fig_of hf
    have e : nI (48 + g) - 48 = nI g := by
      have : nI (48 + g) - nI 48 = nI (48 + g - 48) := pk_sub (by omega)
      rw [show 48 + g - 48 = g by omega] at this
      exact this
    rw [eg, e] at h
    rcases h with h | h
    · exact absurd h (nI_pos (by omega))
    · exact absurd h (nI_nlt (a := 9) (b := g) (by omega) (by omega))
theorem sm_first (hl : len ≤ 150) (hX : RX cb N ln st s m x γ τ) (hT : TX t len τ) (hS : SK t len res k γ) (h7 : τ 97 7 = nI k) (h10 : γ 13 10 = 0) (h5 : γ 13 5 = 3) (hc : t k = 92)
    (kR : ∀ k' γ' τ', k < k' → CK t len res k' γ' → τ' 97 7 = nI k' → NF t len k' γ' → RX cb (N + 1) ln st s m N γ' τ' → γ' 13 5 = 3 → FR τ τ' → KV τ')
    (kF : ∀ τ', FT len res τ' → FR τ τ' → KV τ') : yR (d + 3) 110 0 [some (.ref 97), none, none] [] τ (qV KV) := by
  have hk := hS.1
  have hb := hX.ws.bd
  have hsN := hX.sN
  have h60 := hX.rb.n60
  have h8 := hX.rb.t8
  have hx := Tr.bd hX.tr
  have at1 : nI k + 1 = nI (k + 1) := nI_1 k
  have hat : τ 97 7 ≠ -1999999 := by rw [h7]; exact nI_ne (by omega)
  have eW : (((11 : Int32) ||| ((0 : Int32) <<< (4 &&& 31))) ||| ((0 : Int32) <<< (14 &&& 31))) ||| ((0 : Int32) <<< (20 &&& 31)) = mkW 11 0 0 0 := mk_eq (q := 11) (n := 0) (f := 0) (g := 0) (by omega) (by omega) (by omega) (by omega)
  have em : mainC (t k) γ = rfstC γ := by
    rw [rs_main h5, hc]
    unfold restC
    rw [ifF (by decide), ifF (by decide), ifF (by decide), ifT rfl]
  refine w_110_0 (w_89_0 ?_)
  rw [eW]
  refine sm_add h8 hX.rb.t10 hX.rb.t11 h60 hat (fun hN => ?_) (fun e60 y => ?_)
  · have e7 : (sg (sg τ 103 (25 + cb + N) (mkW 11 0 0 0)) 97 11 (nI (cb + N + 1))) 97 7 = nI k := h7
    rw [e7, at1]
    have e8 : (ndC (cb + N) 92 0 γ) 13 8 = nI (cb + x) := hX.g8
    have eu : rfstC γ = (true, fiC (cb + N) (nI (cb + x)) γ) := by
      unfold rfstC fiC
      rw [hX.rb.g6, ifT (inNt (vp_in_nI hN (by decide))), nw_eq hX.rb.g6 hN, e8, nI_clamp (by omega)]
    have hC := hS.ok (em.trans eu)
    have hF1 : FR τ (sg (ndM cb N (mkW 11 0 0 0) τ) 97 7 (nI (k + 1))) := (FR.ndM FR.rf).s97 (by omega) (by omega)
    have g10 : (fiC (cb + N) (nI (cb + x)) γ) 13 10 = 0 := h10
    refine sm_here hl _ (k + 1) rfl (fiC (cb + N) (nI (cb + x)) γ) (sg (ndM cb N (mkW 11 0 0 0) τ) 97 7 (nI (k + 1))) (hT.fr hF1) hC (sg_same _ _ _ _) (Or.inl (by rw [g10]; exact Int32.le_refl _)) (fun k' hk' hS' h32 => ?_) (fun γ' hg hr => ?_)
    · have hk2 := hS'.1
      have em2 : mainC (t k') (sg (fiC (cb + N) (nI (cb + x)) γ) 13 10 0) = figureC (t k') (sg (fiC (cb + N) (nI (cb + x)) γ) 13 10 0) := by
        unfold mainC
        rw [show (sg (fiC (cb + N) (nI (cb + x)) γ) 13 10 0) 13 5 = 2 from rfl, ifF (by decide), ifF (by decide), ifT rfl]
      have h8' : (sg (sg (ndM cb N (mkW 11 0 0 0) τ) 97 7 (nI (k + 1))) 97 7 (nI k')) 97 8 = -1999999 := h8
      have e88 : (sg (fiC (cb + N) (nI (cb + x)) γ) 13 10 0) 13 8 = nI (cb + N) := rfl
      refine sm_in (fun q1 q2 => w_97_0 ⟨fun z => absurd h8' z, fun _ => ⟨fun _ => ⟨fun z => absurd h8' z, fun _ => ?_⟩, fun z => absurd z one_ne⟩⟩) (fun qq => w_97_0 ⟨fun z => absurd h8' z, fun _ => ⟨fun z => absurd rfl z, fun _ => ⟨fun _ => kF _ ?_ ((hF1.s97 (by omega) (by omega)).s97 (by omega) (by omega)), fun z => absurd z ?_⟩⟩⟩)
      · obtain ⟨v, hv, ev, ev2⟩ := fig_sub q1 q2
        have e14 : (sg (sg (ndM cb N (mkW 11 0 0 0) τ) 97 7 (nI (k + 1))) 97 7 (nI k')) 97 14 = nI (m + 1) := hX.t14
        have e10 : (sg (sg (ndM cb N (mkW 11 0 0 0) τ) 97 7 (nI (k + 1))) 97 7 (nI k')) 97 10 = nI cb := hX.rb.t10
        have e104 : (sg (sg (ndM cb N (mkW 11 0 0 0) τ) 97 7 (nI (k + 1))) 97 7 (nI k')) 104 m = nI x := hX.pt
        have e25 : (25 : Int32) + nI cb + nI N = nI (25 + cb + N) := by
          rw [show (25 : Int32) = nI 25 from rfl, nI_add, nI_add]
        have eW2 : (((11 : Int32) ||| (nI v <<< (4 &&& 31))) ||| (nI x <<< (14 &&& 31))) ||| ((0 : Int32) <<< (20 &&& 31)) = mkW 11 v x 0 := mk_eq (q := 11) (g := 0) (by omega) (by omega) (by omega) (by omega)
        rw [e14, nI_pred, nI_clamp (by omega), e104, ev2, e10, e25]
        refine ⟨vp_in_nI (by omega) (by decide), w_89_0 ⟨vp_in_nI (by omega) (by decide), w_101_0 ?_⟩⟩
        rw [eW2, nI_clamp (by omega), e14, nI_pred]
        have f14 : (sg (sg (sg (sg (ndM cb N (mkW 11 0 0 0) τ) 97 7 (nI (k + 1))) 97 7 (nI k')) 103 (25 + cb + N) (mkW 11 v x 0)) 97 14 (nI m)) 97 14 = nI m := sg_same _ _ _ _
        rw [f14, nI_clamp (by omega), nI_1]
        refine ⟨vp_in_nI (by omega) (by decide), yB0, ?_⟩
        have e77 : (sg (sg (sg (sg (sg (sg (sg (ndM cb N (mkW 11 0 0 0) τ) 97 7 (nI (k + 1))) 97 7 (nI k')) 103 (25 + cb + N) (mkW 11 v x 0)) 97 14 (nI m)) 104 m (nI N)) 105 m 0) 97 14 (nI (m + 1))) 97 7 = nI k' := rfl
        rw [e77, nI_1]
        have eu2 : figureC (t k') (sg (fiC (cb + N) (nI (cb + x)) γ) 13 10 0) = (true, fgC (cb + N) (nI v) (fiC (cb + N) (nI (cb + x)) γ)) := by
          unfold figureC fgC
          rw [e88, ifT ⟨by rw [ev]; exact fig_t (nI_le (a := 48) (by omega) (by omega)) (nI_le (b := 57) (by omega) (by omega)), inNt (vp_in_nI hN (by decide))⟩, ev2, nI_clamp (by omega)]
        refine kR (k' + 1) _ _ (by omega) (hS'.ok (em2.trans eu2)) (sg_same _ _ _ _) (Or.inl ?_) ((rx_first (v := v) hX hN hv).at7) rfl ?_
        · rw [show (fgC (cb + N) (nI v) (fiC (cb + N) (nI (cb + x)) γ)) 13 10 = 0 from rfl]; exact Int32.le_refl _
        · exact (FR.s97 (FR.sc (FR.sc (FR.s97 (FR.sc (hF1.s97 (by omega) (by omega)) (by omega) (by omega)) (by omega) (by omega)) (by omega) (by omega)) (by omega) (by omega)) (by omega) (by omega)).s97 (by omega) (by omega)
      · refine ft_here (a := k') hS' ?_ rfl rfl (by omega)
        rw [em2]
        unfold figureC
        rw [ifF (fun z => absurd z.1 (by rw [fig_nsub qq]; decide))]
      · rw [sg_same]
        exact nI_ne (by omega)
    · have h8' : (sg (sg (ndM cb N (mkW 11 0 0 0) τ) 97 7 (nI (k + 1))) 97 7 (nI len)) 97 8 = -1999999 := h8
      refine sm_in (fun q1 q2 => absurd q1 (by decide)) (fun _ => w_97_0 ⟨fun z => absurd h8' z, fun _ => ⟨fun z => absurd rfl z, fun _ => ⟨fun _ => kF _ ⟨len, len, Nat.le_refl _, ?_, rfl, Nat.le_refl _, rfl⟩ ((hF1.s97 (by omega) (by omega)).s97 (by omega) (by omega)), fun z => absurd z ?_⟩⟩⟩)
      · rw [hr]; rfl
      · rw [sg_same]
        exact nI_ne (by omega)
  · have e7 : (sg τ 97 8 (τ 97 7)) 97 7 = nI k := h7
    have hF1 : FR τ (sg (sg τ 97 8 (τ 97 7)) 97 7 (nI (k + 1))) := (FR.rf.s97 (by omega) (by omega)).s97 (by omega) (by omega)
    rw [e7, at1]
    refine sm_hereF hl _ (k + 1) rfl (by omega) _ (hT.fr hF1) (sg_same _ _ _ _) (fun k' y' hk' => ?_)
    have hno : (mainC (t k) γ).1 = false := by
      rw [em]
      unfold rfstC
      rw [hX.rb.g6, e60, ifF (by decide)]
    have h88 : (sg (sg (sg τ 97 8 (τ 97 7)) 97 7 (nI (k + 1))) 97 7 (nI k')) 97 8 ≠ -1999999 := hat
    have fin : KV (sg (sg (sg τ 97 8 (τ 97 7)) 97 7 (nI (k + 1))) 97 7 (nI k')) := kF _ (ft_here hS hno h7 (sg_same _ _ _ _) hk') (hF1.s97 (by omega) (by omega))
    exact sm_in (fun _ _ => w_97_0 ⟨fun _ => ⟨fun _ => fin, fun z => absurd z h88⟩, fun z => absurd z h88⟩) (fun _ => w_97_0 ⟨fun _ => ⟨fun _ => fin, fun z => absurd z h88⟩, fun z => absurd z h88⟩)
/-- whether a : or ^ may stand there, in the class -/
theorem isF_eq (hX : RX cb N ln st s m x γ τ) (hn : nn st) : isFstC γ = true ↔ (st = [] ∨ ∃ q p r, st = (q, p) :: r ∧ 13 ≤ q) := by
  have hlen := hX.len
  unfold isFstC
  cases st with
  | nil =>
    have e : γ 13 3 = 0 := hX.rb.g3
    rw [e, if_neg (by decide)]
    exact ⟨fun _ => Or.inl rfl, fun _ => rfl⟩
  | cons e r =>
    obtain ⟨q, p⟩ := e
    have hl' : r.length + 1 ≤ 68 := hlen
    have e3 : γ 13 3 = nI (r.length + 1) := hX.rb.g3
    have hq := hX.ws.srt
    have hq12 : q ≠ 12 := hn
    rw [e3, nI_pred, if_pos (inNt (vp_in_nI (by omega) (by decide))), nI_clamp (by omega), hX.rb.sa.1]
    rw [decide_eq_true_iff]
    constructor
    · intro h
      refine Or.inr ⟨q, p, r, rfl, ?_⟩
      rcases Nat.lt_or_ge q 13 with z | z
      · have h2 := lvS_2 (q := q) (by omega)
        exact absurd (nI_lt (a := 1) (b := lvS q) (by omega) (by omega)) h
      · exact z
    · rintro (h | ⟨q', p', r', h, h13⟩)
      · cases h
      · cases h
        have : q = 13 ∨ q = 14 ∨ q = 15 := by omega
        rcases this with rfl | rfl | rfl <;> decide
theorem sm_set (hl : len ≤ 150) (hX : RX cb N ln st s m x γ τ) (hn : nn st) (hS : SK t len res k γ) (h7 : τ 97 7 = nI k) (h10 : γ 13 10 = 0) (h5 : γ 13 5 = 3) (hq : q = 13 ∨ q = 14) (hc : t k = nI (chS q))
    (kU : ∀ k' γ' τ' st' m', k < k' → CK t len res k' γ' → τ' 97 7 = nI k' → NF t len k' γ' → RU cb N ln st' m' γ' τ' → FR τ τ' → KV τ')
    (kF : ∀ τ', FT len res τ' → FR τ τ' → KV τ') : yR (d + 3) 111 0 [some (.ref 97), some (.int (nI q)), none, none, none] [] τ (qV KV) := by
  have hk := hS.1
  have hb := hX.ws.bd
  have hsN := hX.sN
  have h60 := hX.rb.n60
  have h8 := hX.rb.t8
  have hlen := hX.len
  have hx := Tr.bd hX.tr
  have at1 : nI k + 1 = nI (k + 1) := nI_1 k
  have hat : τ 97 7 ≠ -1999999 := by rw [h7]; exact nI_ne (by omega)
  have em : mainC (t k) γ = targetC (t k) γ := by
    rw [rs_main h5, hc]
    unfold restC
    rcases hq with rfl | rfl
    · rw [ifF (by decide), ifT (by decide)]
    · rw [ifF (by decide), ifF (by decide), ifF (by decide), ifF (by decide), ifT (by decide)]
  have e14 : τ 97 14 - 1 = nI m := by rw [hX.t14, nI_pred]
  have g8 : γ 13 8 = nI (cb + x) := hX.g8
  have hin : inN (γ 13 8) 60 = true := by rw [g8]; exact inNt (vp_in_nI (by omega) (by decide))
  have cl8 : (γ 13 8).toNatClampNeg = cb + x := by rw [g8]; exact nI_clamp (by omega)
  -- a fault
  have fault : (¬ (γ 15 (cb + x) = 97 ∧ isFstC γ = true)) → ∀ R : yS → Prop, yR (d + 2) 97 0 [some (.ref 97), some (.int 0)] [] τ (qV (fun σ1 => ((¬ ((σ1 97 8) = (-1999999)) → KV σ1) ∧ (((σ1 97 8) = (-1999999)) → R σ1)))) := by
    intro hno R
    refine w_97_0 ⟨fun z => absurd h8 z, fun _ => ⟨fun z => absurd rfl z, fun _ => ⟨fun _ => kF _ (ft_here (a := k) hS ?_ h7 h7 (by omega)) (FR.rf.s97 (by omega) (by omega)), fun z => absurd z (by rw [sg_same]; exact hat)⟩⟩⟩
    rw [em]
    unfold targetC
    rw [cl8, ifF (fun z => hno z.2)]
  -- none
  have good : γ 15 (cb + x) = 97 → isFstC γ = true → okS (d + 2) KV (nI q) τ := by
    intro h97 hfs
    obtain ⟨v, hv, ev⟩ := nmb_ex (τ 103 (25 + cb + x))
    refine w_97_0 ⟨fun z => absurd h8 z, fun _ => ⟨fun _ => ⟨fun z => absurd h8 z, fun _ => ?_⟩, fun z => absurd z one_ne⟩⟩
    have e25 : (25 : Int32) + nI cb + nI x = nI (25 + cb + x) := by
      rw [show (25 : Int32) = nI 25 from rfl, nI_add, nI_add]
    rw [e14, nI_clamp (by omega), hX.pt, hX.rb.t10, e25, nI_clamp (by omega)]
    refine ⟨vp_in_nI (by omega) (by decide), vp_in_nI (by omega) (by decide), w_86_0 (w_89_0 (w_102_0 ?_))⟩
    have ev' : ((τ 103 (25 + cb + x)) >>> (4 &&& 31)) &&& 1023 = nI v := ev
    have eW : (((nI q ||| (nI v <<< (4 &&& 31))) ||| ((0 : Int32) <<< (14 &&& 31))) ||| ((0 : Int32) <<< (20 &&& 31))) = mkW q v 0 0 := mk_eq (f := 0) (g := 0) (by omega) hv (by omega) (by omega)
    rw [ev', eW]
    have e17 : (sg (sg τ 97 14 (nI m)) 103 (25 + cb + x) (mkW q v 0 0)) 97 17 = nI st.length := hX.rb.t17
    rw [e17, nI_clamp (by omega), nI_1]
    refine ⟨vp_in_nI (by omega) (by decide), ?_⟩
    have e7 : (sg (sg (sg (sg (sg τ 97 14 (nI m)) 103 (25 + cb + x) (mkW q v 0 0)) 106 st.length (nI q)) 107 st.length (nI x)) 97 17 (nI (st.length + 1))) 97 7 = nI k := h7
    rw [e7, at1]
    have eu : targetC (t k) γ = (true, plS st.length (nI (cb + x)) 1 (seC (cb + x) ln (nI (chS q)) (γ 18 (cb + x)) γ)) := by
      unfold targetC
      rw [ifT ⟨hin, by rw [cl8]; exact h97, hfs⟩, cl8]
      have e1410 : (sg γ 15 (cb + x) (t k)) 14 10 = nI ln := hX.rb.gl
      have en : noteC 23 (γ 18 (cb + x)) (sg γ 15 (cb + x) (t k)) = seC (cb + x) ln (nI (chS q)) (γ 18 (cb + x)) γ := by
        unfold noteC seC
        rw [e1410, ifT (inNt (vp_in_nI hX.rb.l8 (by decide))), nI_clamp (by have := hX.rb.l8; omega), hc]
        rfl
      rw [en, show (seC (cb + x) ln (nI (chS q)) (γ 18 (cb + x)) γ) 13 8 = γ 13 8 from rfl, g8]
      exact pl_eq (show (seC (cb + x) ln (nI (chS q)) (γ 18 (cb + x)) γ) 13 3 = nI st.length from hX.rb.g3) (by omega)
    exact kU (k + 1) _ _ _ m (by omega) (hS.ok (em.trans eu)) (sg_same _ _ _ _) (Or.inl (by rw [show (plS st.length (nI (cb + x)) 1 (seC (cb + x) ln (nI (chS q)) (γ 18 (cb + x)) γ)) 13 10 = γ 13 10 from rfl, h10]; exact Int32.le_refl _)) ((ru_set hX hn hq h97 hv ev).at7) ((FR.psS (FR.sc (FR.rf.s97 (by omega) (by omega)) (by omega) (by omega))).s97 (by omega) (by omega))
  -- what isName says
  have n0 : τ 105 m = 0 → γ 15 (cb + x) ≠ 97 := fun z => by
    rcases hX.nme with ⟨a, -⟩ | ⟨-, a⟩
    · rw [a] at z; exact absurd z one_ne
    · exact a
  have n1 : ¬ τ 105 m = 0 → γ 15 (cb + x) = 97 := fun z => by
    rcases hX.nme with ⟨-, a⟩ | ⟨a, -⟩
    · exact a
    · exact absurd a z
  have hvp : vp_in (τ 97 14 - 1) 64 := by rw [e14]; exact vp_in_nI (by omega) (by decide)
  have cl14 : (τ 97 14 - 1).toNatClampNeg = m := by rw [e14]; exact nI_clamp (by omega)
  have iff := isF_eq hX hn
  refine w_111_0 ⟨fun z0 => ⟨hvp, fun z => fault (fun w => ?_) _, fun z => good ?_ ?_⟩, fun z0 => sm_top hX.rb.t17 hX.rb.sa (by omega) (fun e => ?_) (fun q' p' r' e => ⟨fun lt => ⟨hvp, fun z => fault (fun w => ?_) _, fun z => fault (fun w => ?_) _⟩, fun ge => ⟨hvp, fun z => fault (fun w => ?_) _, fun z => good ?_ ?_⟩⟩)⟩
  · rw [cl14] at z; exact n0 z w.1
  · rw [cl14] at z; exact n1 z
  · refine iff.mpr (Or.inl ?_)
    rw [hX.rb.t17] at z0
    exact List.length_eq_zero_iff.mp ((nI_eq (a := st.length) (b := 0) (by omega) (by omega)).mp z0)
  · subst e
    exact absurd hX.rb.t17 z0
  · rw [cl14] at z; exact n0 z w.1
  · subst e
    have hq' := hX.ws.srt
    have lt' := (nI_ltI (a := q') (b := 13) (by omega) (by omega)).mp lt
    rcases iff.mp w.2 with h | ⟨q2, p2, r2, h, h13⟩
    · cases h
    · cases h
      omega
  · rw [cl14] at z; exact n0 z w.1
  · rw [cl14] at z; exact n1 z
  · subst e
    have hq' := hX.ws.srt
    refine iff.mpr (Or.inr ⟨q', p', r', rfl, ?_⟩)
    rcases Nat.lt_or_ge q' 13 with w | w
    · exact absurd (nI_lt (a := q') (b := 13) w (by omega)) ge
    · exact w
end FIRST
