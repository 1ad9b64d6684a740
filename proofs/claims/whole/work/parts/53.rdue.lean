/-! isDue of the reference against the class -/
theorem pop_comm2 {γ : yS} {a i : Nat} {v : Int32} (h : a = 15 ∨ a = 18 ∨ (a = 13 ∧ i = 6)) : popC (sg γ a i v) = sg (popC γ) a i v := by
  have e3 : (sg γ a i v) 13 3 = γ 13 3 := by
    rcases h with rfl | rfl | ⟨rfl, rfl⟩
    · rw [kp_sg (by decide)]
    · rw [kp_sg (by decide)]
    · rw [sg_ne _ _ _ (by decide)]
  have e25 : (sg γ a i v) 25 = γ 25 := kp_sg (by omega)
  have e8 : ∀ x, (sg (sg γ a i v) 13 3 x) 13 8 = (sg γ 13 3 x) 13 8 := fun x => by
    rw [sg_ne _ _ _ (by decide), sg_ne _ _ _ (by decide)]
    rcases h with rfl | rfl | ⟨rfl, rfl⟩
    · rw [kp_sg (by decide)]
    · rw [kp_sg (by decide)]
    · rw [sg_ne _ _ _ (by decide)]
  unfold popC
  rw [e3, e25, e8]
  split
  · rw [sg_comm (a := a) (b := 13) (by omega), sg_comm (a := a) (b := 17) (by omega), sg_comm (a := a) (b := 13) (by omega)]
  · rw [sg_comm (a := a) (b := 13) (by omega)]
theorem jn_comm2 {lv : Int32} {a i : Nat} {v : Int32} (h : a = 15 ∨ a = 18 ∨ (a = 13 ∧ i = 6)) : ∀ (f : Nat) (γ : yS), jnC lv f (sg γ a i v) = sg (jnC lv f γ) a i v := by
  intro f
  induction f with
  | zero => intro γ; exact sg_comm (by omega)
  | succ f ih =>
    intro γ
    have e3 : (sg γ a i v) 13 3 = γ 13 3 := by
      rcases h with rfl | rfl | ⟨rfl, rfl⟩
      · rw [kp_sg (by decide)]
      · rw [kp_sg (by decide)]
      · rw [sg_ne _ _ _ (by decide)]
    have e26 : (sg γ a i v) 26 = γ 26 := kp_sg (by omega)
    unfold jnC
    rw [e3, e26]
    split
    · exact sg_comm (by omega)
    · rw [pop_comm2 h]; exact ih _
theorem jn_nd {lv kd nb : Int32} {i : Nat} {f : Nat} {γ : yS} : jnC lv f (ndC i kd nb γ) = ndC i kd nb (jnC lv f γ) := by
  unfold ndC
  rw [jn_comm2 (by omega), jn_comm2 (by omega), jn_comm2 (by omega)]
def tlS (d : Nat) (K : Int32 → yS → Prop) (v1 : Int32) (σ : yS) : Prop := (((v1 = 58) → yR d 111 0 [some (.ref 97), some (.int 13), none, none, none] [] σ (qV (fun σ9 => K 1 σ9))) ∧ (¬ (v1 = 58) → ((¬ (v1 = 94) → yR d 98 0 [some (.int v1)] [] σ (qI (fun x10 σ10 => ((¬ (x10 = (-1999999)) → yR (d + 1) 112 163 [some (.ref 97), some (.int v1), some (.int x10)] [] σ10 (qI K)) ∧ ((x10 = (-1999999)) → ((¬ ((σ10 97 18) = 0) → yR d 97 0 [some (.ref 97), some (.int 0)] [] σ10 (qV (fun σ11 => K 0 σ11))) ∧ (((σ10 97 18) = 0) → yR d 97 0 [some (.ref 97), some (.int 1)] [] σ10 (qV (fun σ12 => K 0 σ12))))))))) ∧ ((v1 = 94) → yR d 111 0 [some (.ref 97), some (.int 14), none, none, none] [] σ (qV (fun σ13 => K 1 σ13))))))
section DUE
variable {t : Nat → Int32} {len : Nat} {res : Int32 × yS} {d : Nat} {γ τ : yS} {KV : yS → Prop} {K : Int32 → yS → Prop} {cb N ln s m x k q : Nat} {st : List (Nat × Nat)}
theorem sm_sign {c : Int32} (h1 : ∀ z, 2 ≤ z ∧ z ≤ 10 → c = nI (chS z) → lvB c = nI (lvS z) → K (nI z) τ) (h0 : lvB c = 0 → K (-1999999) τ) : yR d 98 0 [some (.int c)] [] τ (qI K) := by
  refine w_98_0 ⟨fun e => ?_, fun e1 => ⟨fun e => ?_, fun e2 => ⟨fun e => ?_, fun e3 => ⟨fun e => ?_, fun e4 => ⟨fun e => ?_, fun e5 => ⟨fun e => ?_, fun e6 => ⟨fun e => ?_, fun e7 => ⟨fun e => ?_, fun e8 => ⟨fun e => ?_, fun e9 => h0 ?_⟩⟩⟩⟩⟩⟩⟩⟩⟩
  · subst e; exact h1 2 (by omega) rfl (by decide)
  · subst e; exact h1 10 (by omega) rfl (by decide)
  · subst e; exact h1 8 (by omega) rfl (by decide)
  · subst e; exact h1 9 (by omega) rfl (by decide)
  · subst e; exact h1 4 (by omega) rfl (by decide)
  · subst e; exact h1 6 (by omega) rfl (by decide)
  · subst e; exact h1 5 (by omega) rfl (by decide)
  · subst e; exact h1 3 (by omega) rfl (by decide)
  · subst e; exact h1 7 (by omega) rfl (by decide)
  · unfold lvB
    rw [ifF e1, ifF e2, ifF e3, ifF e4, ifF e5, ifF e6, ifF e7, ifF e8, ifF e9]
theorem sm_dueE (hl : len ≤ 150) (hX : RX cb N ln st s m x γ τ) (h7 : τ 97 7 = nI len) (hr : res.1 = nI len) (kE2 : brk st = 0 → K 0 τ) (kF : ∀ y τ', FT len res τ' → FR τ τ' → K y τ') : yR (d + 4) 112 5 [some (.ref 97), some (.int (-1999999)), none] [] τ (qI K) := by
  have h8 := hX.rb.t8
  have hb := hX.rb.b9
  have h18 := hX.rb.t18
  refine w_112_5 ⟨fun z => absurd h8 z, fun _ => ⟨fun _ => ⟨fun _ => ⟨fun z => absurd z (by decide), fun _ => ⟨fun _ => sm_sign (fun z hz e _ => ?_) (fun _ => ⟨fun z => absurd rfl z, fun _ => ⟨fun zo => ?_, fun zo => ?_⟩⟩), fun z => absurd z (by decide)⟩⟩, fun z => absurd z (by decide)⟩, fun z => absurd z (by decide)⟩⟩
  · exfalso
    have : chS z < 2 ^ 31 := by
      have : z = 2 ∨ z = 3 ∨ z = 4 ∨ z = 5 ∨ z = 6 ∨ z = 7 ∨ z = 8 ∨ z = 9 ∨ z = 10 := by omega
      rcases this with rfl | rfl | rfl | rfl | rfl | rfl | rfl | rfl | rfl <;> decide
    exact nI_ne this e.symm
  · exact w_97_0 ⟨fun z => absurd h8 z, fun _ => ⟨fun z => absurd rfl z, fun _ => kF 0 _ ⟨len, len, Nat.le_refl _, hr, h7, Nat.le_refl _, h7⟩ (FR.rf.s97 (by omega) (by omega))⟩⟩
  · refine w_97_0 ⟨fun z => absurd h8 z, fun _ => ⟨fun _ => kE2 ?_, fun z => absurd z one_ne⟩⟩
    rw [h18] at zo
    exact (nI_eq (a := brk st) (b := 0) (by omega) (by omega)).mp zo
theorem sm_due (hl : len ≤ 150) : ∀ (n k : Nat), len - k ≤ n → ∀ (N : Nat) (st : List (Nat × Nat)) (s m x : Nat) (γ τ : yS), RX cb N ln st s m x γ τ → nn st → TX t len τ → SK t len res k γ → τ 97 7 = nI k → γ 13 10 = 0 → γ 13 5 = 3 → ¬ t k = 32 →
    (∀ k' γ' τ' N' st' m', k < k' → CK t len res k' γ' → τ' 97 7 = nI k' → NF t len k' γ' → RU cb N' ln st' m' γ' τ' → FR τ τ' → K 1 τ') →
    (∀ k' γ' τ' N' st' s' m' x', k ≤ k' → SK t len res k' γ' → ¬ t k' = 32 → τ' 97 7 = nI k' → RX cb N' ln st' s' m' x' γ' τ' → γ' 13 10 = 0 → γ' 13 5 = 3 → brk st' = 0 → (t k' = 59 ∨ (mainC (t k') γ').1 = false) → FR τ τ' → K 0 τ') →
    (∀ γ' τ' N' st' s' m' x', res.1 = nI len → τ' 97 7 = nI len → RX cb N' ln st' s' m' x' γ' τ' → brk st' = 0 → FR τ τ' → K 0 τ') →
    (∀ y τ', FT len res τ' → FR τ τ' → K y τ') → yR (d + 4) 112 5 [some (.ref 97), some (.int (t k)), none] [] τ (qI K) := by
  intro n
  induction n with
  | zero => intro k hn N st s m x γ τ hX hnn hT hS; have := hS.1; omega
  | succ n ih =>
    intro k hn N st s m x γ τ hX hnn hT hS h7 h10 h5 h32 kU kE kE2 kF
    have hk := hS.1
    have h8 := hX.rb.t8
    have hb9 := hX.rb.b9
    have h60 := hX.rb.n60
    have hlen := hX.len
    have h18 := hX.rb.t18
    have hat : τ 97 7 ≠ -1999999 := by rw [h7]; exact nI_ne (by omega)
    have em : mainC (t k) γ = restC (t k) γ := rs_main h5
    -- on, with here
    have again : ∀ k' N' st' s' m' x' γ' τ', k < k' → CK t len res k' γ' → τ' 97 7 = nI k' → NF t len k' γ' → RX cb N' ln st' s' m' x' γ' τ' → nn st' → γ' 13 5 = 3 → FR τ τ' → yR (d + 3) 96 0 [some (.ref 97)] [] τ' (qI (fun x19 σ19 => yR (d + 4) 112 5 [some (.ref 97), some (.int x19), none] [] σ19 (qI K))) := by
      intro k' N' st' s' m' x' γ' τ' hk' hC' h7' hnf' hX' hnn' h5' hF'
      refine sm_here hl _ k' rfl γ' τ' (hT.fr hF') hC' h7' hnf' (fun k2 hk2 hS2 h322 => ?_) (fun γ2 hg hr => ?_)
      · have hF2 : FR τ (sg τ' 97 7 (nI k2)) := hF'.s97 (by omega) (by omega)
        exact ih k2 (by omega) N' st' s' m' x' _ _ hX'.f10.at7 hnn' (hT.fr hF2) hS2 (sg_same _ _ _ _) (sg_same _ _ _ _) h5' h322
          (fun k3 γ3 τ3 N3 st3 m3 a0 a1 a2 a3 a4 a5 => kU k3 γ3 τ3 N3 st3 m3 (by omega) a1 a2 a3 a4 (hF2.tr a5))
          (fun k3 γ3 τ3 N3 st3 s3 m3 x3 a0 a1 a2 a3 a4 a5 a6 a7 a8 a9 => kE k3 γ3 τ3 N3 st3 s3 m3 x3 (by omega) a1 a2 a3 a4 a5 a6 a7 a8 (hF2.tr a9))
          (fun γ3 τ3 N3 st3 s3 m3 x3 a1 a2 a3 a4 a5 => kE2 γ3 τ3 N3 st3 s3 m3 x3 a1 a2 a3 a4 (hF2.tr a5))
          (fun y τ3 a1 a2 => kF y τ3 a1 (hF2.tr a2))
      · have hF2 : FR τ (sg τ' 97 7 (nI len)) := hF'.s97 (by omega) (by omega)
        have hr' : res.1 = nI len := by rw [hr, h5']; rfl
        exact sm_dueE hl (hX'.at7 (v := nI len)) (sg_same _ _ _ _) hr' (fun hb => kE2 γ' _ N' st' s' m' x' hr' (sg_same _ _ _ _) hX'.at7 hb hF2) (fun y τ3 a1 a2 => kF y τ3 a1 (hF2.tr a2))
    -- a \
    have first : t k = 92 → yR (d + 3) 110 0 [some (.ref 97), none, none] [] τ (qV (fun σ18 => yR (d + 3) 96 0 [some (.ref 97)] [] σ18 (qI (fun x19 σ19 => yR (d + 4) 112 5 [some (.ref 97), some (.int x19), none] [] σ19 (qI K))))) := by
      intro e92
      refine sm_first hl hX hT hS h7 h10 h5 e92 (fun k' γ' τ' a0 a1 a2 a3 a4 a5 a6 => again k' (N + 1) st s m N γ' τ' a0 a1 a2 a3 a4 hnn a5 a6) (fun τ' hft hF => ?_)
      obtain ⟨kf, a, f1, f2, f3, f4, f5⟩ := hft
      refine sm_hereF hl _ a rfl f4 τ' (hT.fr hF) f5 (fun k' y hk' => ?_)
      refine w_112_5 ⟨fun _ => kF 0 _ ⟨kf, k', f1, f2, f3, hk', sg_same _ _ _ _⟩ (hF.s97 (by omega) (by omega)), fun z => absurd z ?_⟩
      show ¬ τ' 97 8 = -1999999
      rw [f3]; exact nI_ne (by omega)
    -- what else
    have tail : ¬ t k = 92 → (¬ t k = 41 ∨ brk st = 0) → tlS (d + 3) K (t k) τ := by
      intro n92 h41
      refine ⟨fun e58 => sm_set hl hX hnn hS h7 h10 h5 (q := 13) (Or.inl rfl) e58 (fun k' γ' τ' st' m' a0 a1 a2 a3 a4 a5 => kU k' γ' τ' N st' m' a0 a1 a2 a3 a4 a5) (fun τ' a1 a2 => kF 1 τ' a1 a2), fun n58 => ⟨fun n94 => sm_sign (fun z hz ec elv => ⟨fun _ => ?_, fun w => absurd w (nI_ne (by omega))⟩) (fun elv => ⟨fun w => absurd rfl w, fun _ => ?_⟩), fun e94 => sm_set hl hX hnn hS h7 h10 h5 (q := 14) (Or.inr rfl) e94 (fun k' γ' τ' st' m' a0 a1 a2 a3 a4 a5 => kU k' γ' τ' N st' m' a0 a1 a2 a3 a4 a5) (fun τ' a1 a2 => kF 1 τ' a1 a2)⟩⟩
      · -- a sign of two parts
        have hz2 := lvS_2 hz
        have eb : mainC (t k) γ = betC (t k) γ := by
          rw [em, ec]
          unfold restC
          have : z = 2 ∨ z = 3 ∨ z = 4 ∨ z = 5 ∨ z = 6 ∨ z = 7 ∨ z = 8 ∨ z = 9 ∨ z = 10 := by omega
          rcases this with rfl | rfl | rfl | rfl | rfl | rfl | rfl | rfl | rfl <;> rw [ifF (by decide), ifF (by decide), ifF (by decide), ifF (by decide), ifF (by decide)]
        refine sm_two hz st s m x γ τ hX hnn (fun γ' τ' st' s' m' x' a1 a2 a3 a4 => ?_)
        have h7' : τ' 97 7 = nI k := (a3.2 7 (by decide) (by decide)).trans h7
        have hlen' := a1.len
        refine sm_add a1.rb.t8 a1.rb.t10 a1.rb.t11 h60 (by rw [h7']; exact nI_ne (by omega)) (fun hN => w_102_0 ?_) (fun e60 y => w_102_0 ?_)
        · have e17 : (sg (sg τ' 103 (25 + cb + N) (nI z)) 97 11 (nI (cb + N + 1))) 97 17 = nI st'.length := a1.rb.t17
          rw [e17, nI_clamp (by omega), nI_1]
          refine ⟨vp_in_nI (by omega) (by decide), ?_⟩
          have e7 : (sg (sg (sg (sg (sg τ' 103 (25 + cb + N) (nI z)) 97 11 (nI (cb + N + 1))) 106 st'.length (nI z)) 107 st'.length (nI N)) 97 17 (nI (st'.length + 1))) 97 7 = nI k := h7'
          rw [e7, nI_1]
          have hl0 : ¬ nI (lvS z) = 0 := nI_ne0 (by omega) (by omega)
          have ej : joinC ((ndC (cb + N) (t k) 0 γ) 13 8) (nI (lvS z)) (ndC (cb + N) (t k) 0 γ) = ndC (cb + N) (t k) 0 (sg γ' 13 5 3) := by
            unfold joinC
            rw [sg_id rfl, jn_nd, a4 69 (by omega)]
          have eu : betC (t k) γ = (true, plS st'.length (nI (cb + N)) (nI (lvS z)) (sg (ndC (cb + N) (nI (chS z)) 0 (sg γ' 13 5 3)) 16 (cb + N) (nI (cb + x')))) := by
            unfold betC
            rw [elv, ifF hl0, hX.rb.g6, ifT (inNt (vp_in_nI hN (by decide))), nw_eq hX.rb.g6 hN, ej, nI_clamp (by omega), show (ndC (cb + N) (t k) 0 (sg γ' 13 5 3)) 13 8 = γ' 13 8 from rfl, a1.g8, ec]
            exact pl_eq (show (sg (ndC (cb + N) (nI (chS z)) 0 (sg γ' 13 5 3)) 16 (cb + N) (nI (cb + x'))) 13 3 = nI st'.length from a1.rb.g3) (by omega)
          have g10 : γ' 13 10 = 0 := by
            have := a4 69 (by omega)
            have e : (sg γ' 13 5 3) 13 10 = γ 13 10 := by rw [← this, jn_13 (by decide) (by decide) (by decide)]
            exact e.trans h10
          exact kU (k + 1) _ _ (N + 1) _ (m' + 1) (by omega) (hS.ok (eb.trans eu)) (sg_same _ _ _ _) (Or.inl (by rw [show (plS st'.length (nI (cb + N)) (nI (lvS z)) (sg (ndC (cb + N) (nI (chS z)) 0 (sg γ' 13 5 3)) 16 (cb + N) (nI (cb + x')))) 13 10 = γ' 13 10 from rfl, g10]; exact Int32.le_refl _)) ((ru_two a1 a2 hz hN).at7) (a3.fr.tr (((FR.ndM FR.rf).psS).s97 (by omega) (by omega)))
        · have e17 : (sg τ' 97 8 (τ' 97 7)) 97 17 = nI st'.length := a1.rb.t17
          rw [e17, nI_clamp (by omega), nI_1]
          refine ⟨vp_in_nI (by omega) (by decide), kF 1 _ (ft_here (a := k + 1) hS ?_ h7' ?_ (by omega)) (a3.fr.tr ((FR.psS (FR.rf.s97 (by omega) (by omega))).s97 (by omega) (by omega)))⟩
          · rw [eb]
            unfold betC
            rw [hX.rb.g6, e60]
            split
            · rfl
            · rw [ifF (by decide)]
          · rw [sg_same]
            show τ' 97 7 + 1 = nI (k + 1)
            rw [h7', nI_1]
      · -- none
        have er : ¬ t k = 41 → ¬ t k = 59 → (mainC (t k) γ).1 = false := fun w1 w2 => by
          rw [em]
          unfold restC betC
          rw [ifF w1, ifF n58, ifF w2, ifF n92, ifF n94, ifT elv]
        refine ⟨fun zo => w_97_0 ⟨fun z => absurd h8 z, fun _ => ⟨fun z => absurd rfl z, fun _ => kF 0 _ (ft_here (a := k) hS ?_ h7 h7 (by omega)) (FR.rf.s97 (by omega) (by omega))⟩⟩, fun zo => w_97_0 ⟨fun z => absurd h8 z, fun _ => ⟨fun _ => ?_, fun z => absurd z one_ne⟩⟩⟩
        · have hb0 : brk st ≠ 0 := fun w => zo (by rw [h18, w]; rfl)
          have w1 : ¬ t k = 41 := by
            rcases h41 with w | w
            · exact w
            · exact absurd w hb0
          by_cases w2 : t k = 59
          · rw [em, w2]
            unfold restC endsC
            have z0 : (0 : Int32) < nI (brk st) := nI_lt (a := 0) (b := brk st) (by omega) (by omega)
            rw [ifF (by decide), ifF (by decide), ifT rfl, hX.rb.g4, ifT z0]
          · exact er w1 w2
        · have hb0 : brk st = 0 := by
            rw [h18] at zo
            exact (nI_eq (a := brk st) (b := 0) (by omega) (by omega)).mp zo
          refine kE k γ τ N st s m x (Nat.le_refl _) hS h32 h7 hX h10 h5 hb0 ?_ FR.rf
          by_cases w2 : t k = 59
          · exact Or.inl w2
          · refine Or.inr ?_
            by_cases w1 : t k = 41
            · rw [em, w1]
              unfold restC closesC
              rw [ifT rfl, hX.rb.g4, hb0, ifT (by decide)]
            · exact er w1 w2
    refine w_112_5 ⟨fun z => absurd h8 z, fun _ => ⟨fun n41 => ⟨fun n92 => tail n92 (Or.inl n41), fun e92 => first e92⟩, fun e41 => ⟨fun op => ⟨fun n92 => ?_, fun e92 => first e92⟩, fun nop => ⟨fun n92 => tail n92 (Or.inr ?_), fun e92 => first e92⟩⟩⟩⟩
    · -- a )
      have hb1 : 0 < brk st := by
        rw [h18] at op
        exact (nI_ltI (a := 0) (b := brk st) (by omega) (by omega)).mp op
      refine sm_all st s m x γ τ hX (fun γ' τ' st' s' m' x' a1 a2 a3 a4 => ?_)
      have ej := a4 69 (by omega)
      have hb' := a1.rb.b9
      have ebr : brk st' = brk st := by
        have e : (sg γ' 13 5 3) 13 4 = γ 13 4 := by rw [← ej, jn_13 (by decide) (by decide) (by decide)]
        have e2 : γ' 13 4 = γ 13 4 := e
        rw [a1.rb.g4, hX.rb.g4] at e2
        exact (nI_eq (by omega) (by omega)).mp e2
      rcases a2 with rfl | ⟨p, r, rfl⟩
      · exact absurd ebr (by show ¬ 0 = brk st; omega)
      · have ebr2 : brk ((15, p) :: r) = 1 + brk r := rfl
        have hl' := a1.len
        have hl2 : r.length + 1 ≤ 68 := hl'
        have t17 : τ' 97 17 = nI (r.length + 1) := a1.rb.t17
        have t18 : τ' 97 18 = nI (brk r + 1) := by rw [a1.rb.t18, ebr2, Nat.add_comm]
        have h7' : τ' 97 7 = nI k := (a3.2 7 (by decide) (by decide)).trans h7
        rw [t17, t18, h7', nI_pred, nI_pred, nI_1]
        have hXc := rx_close (v := nI (k + 1)) a1
        refine sm_nots r s' m' x' _ _ hXc (fun γ2 τ2 st2 s2 m2 x2 b1 b2 b3 b4 => ?_)
        have e3 : (sg γ' 13 5 3) 13 3 = nI (r.length + 1) := a1.rb.g3
        have e4 : (sg γ' 13 5 3) 13 4 = nI (brk r + 1) := by
          show γ' 13 4 = _
          rw [a1.rb.g4, ebr2, Nat.add_comm]
        have emx : (if (0 : Int32) < nI r.length then nI r.length else 0) = nI r.length := by
          by_cases w : (0 : Int32) < nI r.length
          · rw [ifT w]
          · rw [ifF w]
            have : ¬ 0 < r.length := fun w2 => w (nI_lt (a := 0) (b := r.length) w2 (by omega))
            have : r.length = 0 := by omega
            rw [this]; rfl
        have eu : mainC (t k) γ = (true, sg γ2 13 5 3) := by
          rw [em, e41]
          unfold restC closesC joinC
          rw [ifT rfl, ifF (by rw [hX.rb.g4]; exact nI_ne0 hb1 (by omega)), sg_id rfl, ej, e3, e4, nI_pred, nI_pred, emx, sg_id (γ := sg (sg (sg γ' 13 5 3) 13 3 (nI r.length)) 13 4 (nI (brk r))) (a := (sg γ' 13 5 3) 13 8) rfl, b4 69 (by omega)]
        have g10 : γ2 13 10 = 0 := by
          have c1 : (sg γ' 13 5 3) 13 10 = γ 13 10 := by rw [← ej, jn_13 (by decide) (by decide) (by decide)]
          have c2 : (sg γ2 13 5 3) 13 10 = (sg (sg (sg γ' 13 5 3) 13 3 (nI r.length)) 13 4 (nI (brk r))) 13 10 := by
            rw [← b4 69 (by omega), jn_13 (by decide) (by decide) (by decide)]
          have c3 : γ2 13 10 = γ' 13 10 := c2
          have c4 : γ' 13 10 = γ 13 10 := c1
          rw [c3, c4, h10]
        refine again (k + 1) N st2 s2 m2 x2 _ τ2 (by omega) (hS.ok eu) ?_ (Or.inl (by rw [show (sg γ2 13 5 3) 13 10 = γ2 13 10 from rfl, g10]; exact Int32.le_refl _)) b1.d5 b2 (sg_same _ _ _ _) (a3.fr.tr (FR.tr (((FR.rf.s97 (by omega) (by omega)).s97 (by omega) (by omega)).s97 (by omega) (by omega)) b3.fr))
        rw [b3.2 7 (by decide) (by decide)]
        exact sg_same _ _ _ _
    · rw [h18] at nop
      have : ¬ 0 < brk st := fun w => nop (nI_lt (a := 0) (b := brk st) w (by omega))
      omega
end DUE
