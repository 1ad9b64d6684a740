/-! A UNIT, in both readers -/
theorem nI_ne {k : Nat} (h : k < 2 ^ 31) : nI k ≠ -1999999 := fun e => by
  have := congrArg Int32.toInt e
  rw [nI_toInt h] at this
  have z : (-1999999 : Int32).toInt = -1999999 := by decide
  omega
theorem fig_of {c : Int32} (h : figC c = true) : ∃ g : Nat, g ≤ 9 ∧ c = nI (48 + g) := by
  unfold figC at h
  have h' := of_decide_eq_true h
  obtain ⟨h1, h2⟩ := h'
  rw [Int32.lt_iff_toInt_lt] at h1 h2
  have z48 : (48 : Int32).toInt = 48 := by decide
  have z57 : (57 : Int32).toInt = 57 := by decide
  refine ⟨(c.toInt - 48).toNat, by omega, Int32.toInt_inj.mp ?_⟩
  rw [nI_toInt (by omega)]
  omega
theorem fig_in {c : Int32} (h : figC c = true) : (48 : Int32) ≤ c ∧ c ≤ 57 := by
  unfold figC at h
  have h' := of_decide_eq_true h
  exact ⟨Int32.not_lt.mp h'.1, Int32.not_lt.mp h'.2⟩
theorem fig_t {c : Int32} (h1 : (48 : Int32) ≤ c) (h2 : c ≤ 57) : figC c = true := by
  unfold figC
  exact decide_eq_true ⟨Int32.not_lt.mpr h1, Int32.not_lt.mpr h2⟩
theorem fig_f {c : Int32} (h : c < 48 ∨ 57 < c) : figC c = false := by
  unfold figC
  apply decide_eq_false
  rintro ⟨z1, z2⟩
  rcases h with h | h
  · exact z1 h
  · exact z2 h
section UNIT
variable {t : Nat → Int32} {len : Nat} {res : Int32 × yS} {d : Nat} {γ τ : yS} {KV : yS → Prop} {K : Int32 → yS → Prop} {cb N ln s m x k : Nat} {st : List (Nat × Nat)}
theorem sm_isFig {a : Nat} (hl : len ≤ 150) (hT : TX t len τ) (h7 : τ 97 7 = nI a) (ha : a ≤ len) (h1 : a < len → figC (t a) = true → K 1 τ) (h0 : (a < len → figC (t a) = false) → K 0 τ) : yR (d + 1) 106 0 [some (.ref 97)] [] τ (qI K) := by
  refine w_106_0 ⟨fun q => ?_, fun q => ?_⟩
  · rw [hT.1, h7] at q
    have := (nI_leI (a := len) (b := a) (by omega) (by omega)).mp q
    exact h0 (fun z => by omega)
  · rw [hT.1, h7] at q
    have hlt : a < len := by
      rcases Nat.lt_or_ge a len with z | z
      · exact z
      · exact absurd ((nI_leI (a := len) (b := a) (by omega) (by omega)).mpr z) q
    rw [h7, nI_clamp (by omega), hT.2 a hlt]
    exact ⟨vp_in_nI (by omega) (by decide), sm_in (fun q1 q2 => br_t2 (h1 hlt (fig_t q1 q2))) (fun z => br_f2 (h0 (fun _ => fig_f z)))⟩
/-- the figures, behind a fault -/
theorem num_F {y : Int32} (hl : len ≤ 150) : ∀ (n f a : Nat), f + n = 3 → a ≤ len → ∀ (v : Int32) (τ : yS), TX t len τ → τ 97 7 = nI a → τ 97 8 ≠ -1999999 → (∀ a', a' ≤ len → KV (sg τ 97 7 (nI a'))) → yR (d + 3) 107 10 [some (.ref 97), some (.int y), some (.int v), some (.int (nI f))] [] τ (qV KV) := by
  intro n
  induction n with
  | zero =>
    intro f a hf ha v τ hT h7 h8 hK
    have e : f = 3 := by omega
    subst e
    have g := hK a ha
    rw [sg_id h7] at g
    refine w_107_10 ⟨fun _ => sm_isFig hl hT h7 ha (fun _ _ => br_t1 (w_97_0 ⟨fun _ => ⟨fun _ => g, fun z => absurd z h8⟩, fun z => absurd z h8⟩)) (fun _ => br_f1 (w_97_0 ⟨fun _ => ⟨fun _ => g, fun z => absurd z h8⟩, fun z => absurd z h8⟩)), fun q => absurd (by decide) q⟩
  | succ n ih =>
    intro f a hf ha v τ hT h7 h8 hK
    have g := hK a ha
    rw [sg_id h7] at g
    refine w_107_10 ⟨fun q => absurd q (nI_ge (a := f) (b := 3) (by omega) (by omega)), fun _ => sm_isFig hl hT h7 ha (fun hlt hfig => br_t2 ⟨by rw [h7]; exact vp_in_nI (by omega) (by decide), ?_⟩) (fun _ => br_f2 (sm_isFig hl hT h7 ha (fun _ _ => br_t1 (w_97_0 ⟨fun _ => ⟨fun _ => g, fun z => absurd z h8⟩, fun z => absurd z h8⟩)) (fun _ => br_f1 (w_97_0 ⟨fun _ => ⟨fun _ => g, fun z => absurd z h8⟩, fun z => absurd z h8⟩))))⟩
    rw [h7, nI_1, nI_1]
    refine ih (f + 1) (a + 1) (by omega) (by omega) _ _ (hT.fr (FR.rf.s97 (by omega) (by omega))) (sg_same _ _ _ _) (by rw [sg_ne _ _ _ (by decide)]; exact h8) (fun a' ha' => ?_)
    rw [sg_sg]; exact hK a' ha'
theorem ndM_at {W : Int32} {a b : Int32} : sg (ndM cb N W (sg τ 97 7 a)) 97 7 b = ndM cb N W (sg τ 97 7 b) := by
  unfold ndM
  rw [sg_comm (a := 97) (i := 11) (b := 97) (j := 7) (by omega), sg_comm (a := 103) (b := 97) (by omega), sg_sg]
theorem FR.ndM {W : Int32} {τ' : yS} (h : FR τ τ') : FR τ (ndM cb N W τ') := (h.sc (by omega) (by omega)).s97 (by omega) (by omega)
theorem FR.ptS {y b : Int32} {τ' : yS} (h : FR τ τ') : FR τ (ptS m y b τ') := ((h.sc (by omega) (by omega)).sc (by omega) (by omega)).s97 (by omega) (by omega)
theorem FR.psS {L : Nat} {y b : Int32} {τ' : yS} (h : FR τ τ') : FR τ (psS L y b τ') := ((h.sc (by omega) (by omega)).sc (by omega) (by omega)).s97 (by omega) (by omega)
theorem RU.lens (h : RU cb N ln st m γ τ) : st.length ≤ N + brk st ∧ m ≤ N ∧ N ≤ 60 ∧ brk st ≤ 9 := by
  have h1 := h.ws.bd
  have h2 := h.rb.b9
  have h3 := h.rb.n60
  omega
/-- what follows a whole number, in both -/
theorem num_fin {v f a : Nat} (hl : len ≤ 150) (hU : RU cb N ln st m γ τ) (hN : cb + N < 60) (hv : v < 1000) (hT : TX t len τ) (ha : a ≤ len) (hC : CK t len res a (jnC 8 69 (nuC (cb + N) v f γ))) (hf : a < len → figC (t a) = false)
    (kR : ∀ γ' τ' N' st' s' m' x', CK t len res a γ' → τ' 97 7 = nI a → NF t len a γ' → RX cb N' ln st' s' m' x' γ' τ' → nn st' → γ' 13 5 = 3 → FR τ τ' → KV τ') :
    yR (d + 3) 89 0 [some (.int 0), some (.int (nI v)), some (.int 0), some (.int 0)] [] (ndM cb N 0 (sg τ 97 7 (nI a))) (qI (fun x3 σ3 => (vp_in ((25 + ((ndM cb N 0 (sg τ 97 7 (nI a))) 97 10)) + nI N) 89 ∧ yR (d + 3) 101 0 [some (.ref 97), some (.int (nI N)), some (.int 0)] [] (sg σ3 103 ((25 + ((ndM cb N 0 (sg τ 97 7 (nI a))) 97 10)) + nI N).toNatClampNeg x3) (qV (fun σ4 => yR (d + 3) 105 0 [some (.ref 97)] [] σ4 (qV (fun σ5 => KV σ5))))))) := by
  have hlen := hU.lens
  have e10 : (ndM cb N 0 (sg τ 97 7 (nI a))) 97 10 = nI cb := hU.rb.t10
  have e25 : (25 : Int32) + nI cb + nI N = nI (25 + cb + N) := by
    rw [show (25 : Int32) = nI 25 from rfl, nI_add, nI_add]
  have eW : (((0 : Int32) ||| (nI v <<< (4 &&& 31))) ||| ((0 : Int32) <<< (14 &&& 31))) ||| ((0 : Int32) <<< (20 &&& 31)) = mkW 0 v 0 0 := mk_eq (q := 0) (f := 0) (g := 0) (by omega) (by omega) (by omega) (by omega)
  refine w_89_0 ?_
  rw [e10, e25, nI_clamp (by omega), eW]
  refine ⟨vp_in_nI (by omega) (by decide), w_101_0 ?_⟩
  have e14 : (sg (ndM cb N 0 (sg τ 97 7 (nI a))) 103 (25 + cb + N) (mkW 0 v 0 0)) 97 14 = nI m := hU.t14
  rw [e14, nI_clamp (by omega), nI_1]
  refine ⟨vp_in_nI (by omega) (by decide), yB0, ?_⟩
  have hX := rx_num (v := v) (f := f) (W0 := 0) (hU.at7 (v := nI a)) hN hv
  refine sm_nots st N m N _ _ hX (fun γ' τ' st' s' m' x' a1 a2 a3 a4 => ?_)
  have hj := a4 69 (by omega)
  rw [hj] at hC
  refine kR _ τ' (N + 1) st' s' m' x' hC ?_ (Or.inr hf) a1.d5 a2 (sg_same _ _ _ _) (FR.tr ?_ a3.fr)
  · rw [a3.2 7 (by decide) (by decide)]
    rfl
  · exact (((FR.rf.s97 (by omega) (by omega)).ndM).sc (by omega) (by omega)).ptS
theorem nu_more {v f g : Nat} {i : Nat} : nuC i (10 * v + g) (f + 1) γ = sg (sg (nuC i v f γ) 18 i (nI (10 * v + g))) 13 10 (nI (f + 1)) := by
  unfold nuC ndC
  rw [sg_comm (a := 13) (i := 8) (b := 18) (by omega), sg_comm (a := 13) (i := 8) (b := 13) (j := 10) (by omega), sg_comm (a := 13) (i := 10) (b := 18) (by omega), sg_sg, sg_comm (a := 13) (i := 9) (b := 18) (by omega), sg_comm (a := 13) (i := 6) (b := 18) (by omega), sg_sg]
theorem num_loop (hl : len ≤ 150) {k0 : Nat} (hU : RU cb N ln st m γ τ) (hN : cb + N < 60) (hT : TX t len τ)
    (kR : ∀ a γ' τ' N' st' s' m' x', k0 < a → CK t len res a γ' → τ' 97 7 = nI a → NF t len a γ' → RX cb N' ln st' s' m' x' γ' τ' → nn st' → γ' 13 5 = 3 → FR τ τ' → KV τ')
    (kF : ∀ τ', FT len res τ' → FR τ τ' → KV τ') : ∀ (n f v : Nat), f + n = 3 → 1 ≤ f → v < 10 ^ f → CK t len res (k0 + f) (jnC 8 69 (nuC (cb + N) v f γ)) →
    yR (d + 4) 107 10 [some (.ref 97), some (.int (nI N)), some (.int (nI v)), some (.int (nI f))] [] (ndM cb N 0 (sg τ 97 7 (nI (k0 + f)))) (qV KV) := by
  have hlen := hU.lens
  have fin : ∀ f v, 1 ≤ f → v < 1000 → CK t len res (k0 + f) (jnC 8 69 (nuC (cb + N) v f γ)) → (k0 + f < len → figC (t (k0 + f)) = false) → ∀ (Q : yS → Prop), (∀ σ, KV σ → Q σ) → yR (d + 3) 97 0 [some (.ref 97), some (.int 1)] [] (ndM cb N 0 (sg τ 97 7 (nI (k0 + f)))) (qV (fun σ6 => ((¬ ((σ6 97 8) = (-1999999)) → Q σ6) ∧ (((σ6 97 8) = (-1999999)) → yR (d + 3) 89 0 [some (.int 0), some (.int (nI v)), some (.int 0), some (.int 0)] [] σ6 (qI (fun x7 σ7 => (vp_in ((25 + (σ6 97 10)) + nI N) 89 ∧ yR (d + 3) 101 0 [some (.ref 97), some (.int (nI N)), some (.int 0)] [] (sg σ7 103 ((25 + (σ6 97 10)) + nI N).toNatClampNeg x7) (qV (fun σ8 => yR (d + 3) 105 0 [some (.ref 97)] [] σ8 (qV (fun σ9 => Q σ9))))))))))) := by
    intro f v hf hv hC hno Q hQ
    have h8 : (ndM cb N 0 (sg τ 97 7 (nI (k0 + f)))) 97 8 = -1999999 := hU.rb.t8
    exact w_97_0 ⟨fun z => absurd h8 z, fun _ => ⟨fun _ => ⟨fun z => absurd h8 z, fun _ => num_fin hl hU hN hv hT hC.1 hC hno (fun γ' τ' N' st' s' m' x' a1 a2 a3 a4 a5 a6 a7 => hQ _ (kR (k0 + f) γ' τ' N' st' s' m' x' (by omega) a1 a2 a3 a4 a5 a6 a7))⟩, fun z => absurd z one_ne⟩⟩
  intro n
  induction n with
  | zero =>
    intro f v hf h1 hv hC
    have e : f = 3 := by omega
    subst e
    have hT' : TX t len (ndM cb N 0 (sg τ 97 7 (nI (k0 + 3)))) := hT.fr (FR.ndM (FR.rf.s97 (by omega) (by omega)))
    have h7 : (ndM cb N 0 (sg τ 97 7 (nI (k0 + 3)))) 97 7 = nI (k0 + 3) := rfl
    have h8 : (ndM cb N 0 (sg τ 97 7 (nI (k0 + 3)))) 97 8 = -1999999 := hU.rb.t8
    refine w_107_10 ⟨fun _ => sm_isFig hl hT' h7 hC.1 (fun hlt hfig => br_t1 (w_97_0 ⟨fun z => absurd h8 z, fun _ => ⟨fun z => absurd rfl z, fun _ => ?_⟩⟩)) (fun hno => br_f1 (fin 3 v (by omega) (by omega) hC hno _ (fun _ h => h))), fun q => absurd (by decide) q⟩
    rw [h7]
    have hk := hC.1
    refine ⟨fun _ => kF _ ⟨k0 + 3, k0 + 3, hC.1, ?_, sg_same _ _ _ _, hC.1, rfl⟩ ((FR.ndM (FR.rf.s97 (by omega) (by omega))).s97 (by omega) (by omega)), fun z => absurd z (by rw [sg_same]; exact nI_ne (by omega))⟩
    have hc := hC.takes hlt
    have e10 : (jnC 8 69 (nuC (cb + N) v 3 γ)) 13 10 = 3 := by
      rw [jn_13 (by decide) (by decide) (by decide)]; rfl
    have em : takesC (t (k0 + 3)) (jnC 8 69 (nuC (cb + N) v 3 γ)) = (false, jnC 8 69 (nuC (cb + N) v 3 γ)) := by
      unfold takesC moreC
      rw [e10, ifT ⟨by decide, hfig⟩, ifT (by decide)]
    rw [em, if_neg (by simp)] at hc
    rw [← hc]
  | succ n ih =>
    intro f v hf h1 hv hC
    have hT' : TX t len (ndM cb N 0 (sg τ 97 7 (nI (k0 + f)))) := hT.fr (FR.ndM (FR.rf.s97 (by omega) (by omega)))
    have h7 : (ndM cb N 0 (sg τ 97 7 (nI (k0 + f)))) 97 7 = nI (k0 + f) := rfl
    have hk := hC.1
    have hv3 : v < 100 := by
      have : f = 1 ∨ f = 2 := by omega
      rcases this with rfl | rfl <;> omega
    refine w_107_10 ⟨fun q => absurd q (nI_ge (a := f) (b := 3) (by omega) (by omega)), fun _ => sm_isFig hl hT' h7 hC.1 (fun hlt hfig => br_t2 ⟨by rw [h7]; exact vp_in_nI (by omega) (by decide), ?_⟩) (fun hno => br_f2 (sm_isFig hl hT' h7 hC.1 (fun hlt hfig => absurd (hno hlt) (by rw [hfig]; decide)) (fun _ => br_f1 (fin f v (by omega) (by omega) hC hno _ (fun _ h => h)))))⟩
    obtain ⟨g, hg, eg⟩ := fig_of hfig
    have et : (ndM cb N 0 (sg τ 97 7 (nI (k0 + f)))) 102 (k0 + f) = nI (48 + g) := (hT'.2 (k0 + f) hlt).trans eg
    have ev : (10 : Int32) * nI v = nI (10 * v) := pk_mul 10 v
    have e48 : nI (10 * v + (48 + g)) - 48 = nI (10 * v + g) := by
      have : nI (10 * v + (48 + g)) - nI 48 = nI (10 * v + (48 + g) - 48) := pk_sub (by omega)
      rw [show 10 * v + (48 + g) - 48 = 10 * v + g by omega] at this
      exact this
    rw [h7, nI_clamp (by omega), et, ev, nI_add, e48, nI_1, nI_1, ndM_at]
    refine ih (f + 1) (10 * v + g) (by omega) (by omega) (by rw [Nat.pow_succ]; omega) ?_
    have hc := hC.takes hlt
    have e10 : (jnC 8 69 (nuC (cb + N) v f γ)) 13 10 = nI f := by
      rw [jn_13 (by decide) (by decide) (by decide)]; rfl
    have e9 : (jnC 8 69 (nuC (cb + N) v f γ)) 13 9 = nI (cb + N) := by
      rw [jn_13 (by decide) (by decide) (by decide)]; rfl
    have e18 : (jnC 8 69 (nuC (cb + N) v f γ)) 18 (cb + N) = nI v := by
      rw [jn_kp (by decide) (by decide)]
      unfold nuC ndC
      rw [kp_sg (by decide), kp_sg (by decide), kp_sg (by decide), kp_sg (by decide), sg_same]
    have eg2 : nI (48 + g) - 48 = nI g := by
      have : nI (48 + g) - nI 48 = nI (48 + g - 48) := pk_sub (by omega)
      rw [show 48 + g - 48 = g by omega] at this
      exact this
    have n0f : ¬ nI f ≤ 0 := nI_ge (a := 0) (b := f) (by omega) (by omega)
    have n3f : ¬ (3 : Int32) ≤ nI f := nI_ge (a := f) (b := 3) (by omega) (by omega)
    have em : takesC (t (k0 + f)) (jnC 8 69 (nuC (cb + N) v f γ)) = (true, jnC 8 69 (nuC (cb + N) (10 * v + g) (f + 1) γ)) := by
      unfold takesC moreC
      rw [e10, ifT ⟨n0f, hfig⟩, ifF n3f, e9, ifT (inNt (vp_in_nI hN (by decide))), nI_clamp (by omega), e18, eg, eg2, ev, nI_add, nI_1, nu_more, jn_comm (Or.inr ⟨rfl, rfl⟩), jn_comm (Or.inl rfl)]
    rw [em, if_pos rfl] at hc
    exact ⟨by omega, hc⟩
end UNIT
