/-! THE READERS' LOOPS: join in the class; closeNots, closeAll and the closings before a sign in the reference -/
theorem lvS_lt8 {q : Nat} (h : q ≠ 12) : lvS q < 8 := by
  unfold lvS
  split <;> first | omega | exact absurd rfl h
theorem lvS_1 {q : Nat} (h : (2 ≤ q ∧ q ≤ 10) ∨ q = 12 ∨ q = 13 ∨ q = 14) : 1 ≤ lvS q := by
  have : q = 2 ∨ q = 3 ∨ q = 4 ∨ q = 5 ∨ q = 6 ∨ q = 7 ∨ q = 8 ∨ q = 9 ∨ q = 10 ∨ q = 12 ∨ q = 13 ∨ q = 14 := by omega
  rcases this with rfl | rfl | rfl | rfl | rfl | rfl | rfl | rfl | rfl | rfl | rfl | rfl <;> decide
theorem lvS_2 {q : Nat} (h : 2 ≤ q ∧ q ≤ 10) : 2 ≤ lvS q ∧ lvS q ≤ 7 := by
  have : q = 2 ∨ q = 3 ∨ q = 4 ∨ q = 5 ∨ q = 6 ∨ q = 7 ∨ q = 8 ∨ q = 9 ∨ q = 10 := by omega
  rcases this with rfl | rfl | rfl | rfl | rfl | rfl | rfl | rfl | rfl <;> decide
theorem WS.srt {kd lf rt nb w pt : Nat → Int32} {cb q p s m : Nat} {r : List (Nat × Nat)} (h : WS kd lf rt nb w pt cb ((q, p) :: r) s m) : q = 15 ∨ q = 12 ∨ q = 13 ∨ q = 14 ∨ (2 ≤ q ∧ q ≤ 10) := by
  rcases h with ⟨h1, -⟩ | ⟨h1, -⟩ | ⟨h1, h2, -⟩ <;> omega
section LOOPS
variable {d : Nat} {γ τ : yS} {KV : yS → Prop} {K : Int32 → yS → Prop} {cb N ln s m x q p : Nat} {st r : List (Nat × Nat)}
theorem sm_top (h17 : τ 97 17 = nI st.length) (hs : SA cb γ τ st) (hl : st.length < 80) (h0 : st = [] → K (-1999999) τ) (h1 : ∀ q p r, st = (q, p) :: r → K (nI q) τ) : yR d 103 0 [some (.ref 97)] [] τ (qI K) := by
  refine w_103_0 ?_
  rw [h17]
  cases st with
  | nil => exact ⟨fun z => absurd rfl z, fun _ => h0 rfl⟩
  | cons e r =>
    obtain ⟨q, p⟩ := e
    have hl' : r.length + 1 < 80 := hl
    have e1 : nI (r.length + 1) - 1 = nI r.length := pk_sub (a := r.length + 1) (b := 1) (by omega)
    refine ⟨fun _ => ?_, fun z => ?_⟩
    · show vp_in (nI (r.length + 1) - 1) 80 ∧ K (τ 106 (nI (r.length + 1) - 1).toNatClampNeg) τ
      rw [e1, nI_clamp (by omega), hs.2.2.1]
      exact ⟨vp_in_nI (by omega) (by decide), h1 q p r rfl⟩
    · exact absurd ((nI_eq (a := r.length + 1) (b := 0) (by omega) (by omega)).mp z) (by omega)
theorem RX.len (h : RX cb N ln st s m x γ τ) : st.length ≤ 68 := by
  have := h.ws.bd
  have := h.rb.b9
  have := h.sN
  have := h.rb.n60
  omega
theorem sm_nots : ∀ (st : List (Nat × Nat)) (s m x : Nat) (γ τ : yS), RX cb N ln st s m x γ τ → (∀ γ' τ' st' s' m' x', RX cb N ln st' s' m' x' γ' τ' → nn st' → FD τ τ' → (∀ f, st.length ≤ f → jnC 8 f γ = sg γ' 13 5 3) → KV τ') → yR (d + 3) 105 0 [some (.ref 97)] [] τ (qV KV) := by
  intro st
  induction st with
  | nil =>
    intro s m x γ τ h hK
    refine w_105_0 (sm_top h.rb.t17 h.rb.sa (by show 0 < 80; omega) (fun _ => ⟨fun _ => hK γ τ [] s m x h trivial FD.rf (fun f _ => jn_stop (Or.inl rfl) h), fun z => absurd z (by decide)⟩) (fun q p r e => ?_))
    cases e
  | cons e r ih =>
    obtain ⟨q, p⟩ := e
    intro s m x γ τ h hK
    have hl := h.len
    have hl' : r.length + 1 ≤ 68 := hl
    refine w_105_0 (sm_top h.rb.t17 h.rb.sa (by omega) (fun e => by cases e) (fun q' p' r' e => ?_))
    cases e
    by_cases e : q = 12
    · subst e
      refine ⟨fun z => absurd rfl z, fun _ => sm_pop h (by decide) (fun τ' s' m' h' hF _ => ih s' m' p _ τ' h' (fun γ'' τ'' st'' s'' m'' x'' a1 a2 a3 a4 => hK γ'' τ'' st'' s'' m'' x'' a1 a2 (hF.tr a3) (fun f hf => ?_)))⟩
      obtain ⟨g, rfl⟩ : ∃ g, f = g + 1 := ⟨f - 1, by have : r.length + 1 ≤ f := hf; omega⟩
      rw [jn_go h (by decide)]
      exact a4 g (by have : r.length + 1 ≤ g + 1 := hf; omega)
    · have hq := h.ws.srt
      refine ⟨fun _ => hK γ τ _ s m x h e FD.rf (fun f _ => jn_stop (Or.inr ⟨q, p, r, rfl, ?_⟩) h), fun z => absurd ((nI_eq (a := q) (b := 12) (by omega) (by omega)).mp z) e⟩
      have := lvS_lt8 e
      exact nI_lt (a := lvS q) (b := 8) (by omega) (by omega)
theorem sm_all : ∀ (st : List (Nat × Nat)) (s m x : Nat) (γ τ : yS), RX cb N ln st s m x γ τ → (∀ γ' τ' st' s' m' x', RX cb N ln st' s' m' x' γ' τ' → (st' = [] ∨ ∃ p r, st' = (15, p) :: r) → FD τ τ' → (∀ f, st.length ≤ f → jnC 1 f γ = sg γ' 13 5 3) → KV τ') → yR (d + 3) 109 0 [some (.ref 97)] [] τ (qV KV) := by
  intro st
  induction st with
  | nil =>
    intro s m x γ τ h hK
    have e : τ 97 17 = 0 := h.rb.t17
    exact w_109_0 ⟨fun _ => hK γ τ [] s m x h (Or.inl rfl) FD.rf (fun f _ => jn_stop (Or.inl rfl) h), fun z => absurd (by rw [e]; exact Int32.le_refl _) z⟩
  | cons e r ih =>
    obtain ⟨q, p⟩ := e
    intro s m x γ τ h hK
    have hl := h.len
    have hl' : r.length + 1 ≤ 68 := hl
    have e17 : τ 97 17 = nI (r.length + 1) := h.rb.t17
    refine w_109_0 ⟨fun z => ?_, fun _ => sm_top h.rb.t17 h.rb.sa (by omega) (fun e => by cases e) (fun q' p' r' e => ?_)⟩
    · rw [e17] at z
      exact absurd z (nI_ge (a := 0) (b := r.length + 1) (by omega) (by omega))
    cases e
    have hq := h.ws.srt
    by_cases e : q = 15
    · subst e
      exact ⟨fun _ => hK γ τ _ s m x h (Or.inr ⟨p, r, rfl⟩) FD.rf (fun f _ => jn_stop (Or.inr ⟨15, p, r, rfl, by decide⟩) h), fun z => absurd rfl z⟩
    · refine ⟨fun z => absurd ((nI_eq (a := q) (b := 15) (by omega) (by omega)).mp z) e, fun _ => sm_pop h e (fun τ' s' m' h' hF _ => ih s' m' p _ τ' h' (fun γ'' τ'' st'' s'' m'' x'' a1 a2 a3 a4 => hK γ'' τ'' st'' s'' m'' x'' a1 a2 (hF.tr a3) (fun f hf => ?_)))⟩
      obtain ⟨g, rfl⟩ : ∃ g, f = g + 1 := ⟨f - 1, by have : r.length + 1 ≤ f := hf; omega⟩
      have h1 := lvS_1 (q := q) (by omega)
      have h8 : lvS q ≤ 8 := by
        by_cases e : q = 12
        · subst e; decide
        · have := lvS_lt8 e; omega
      rw [jn_go (lv := 1) h (nI_nlt (a := lvS q) (b := 1) (by omega) (by omega))]
      exact a4 g (by have : r.length + 1 ≤ g + 1 := hf; omega)
theorem sm_rank {z : Nat} (hz : 2 ≤ z ∧ z ≤ 10) (h : K (nI (lvS z - 1)) τ) : yR (d + 1) 99 0 [some (.int (nI z))] [] τ (qI K) := by
  have : z = 2 ∨ z = 3 ∨ z = 4 ∨ z = 5 ∨ z = 6 ∨ z = 7 ∨ z = 8 ∨ z = 9 ∨ z = 10 := by omega
  rcases this with rfl | rfl | rfl | rfl | rfl | rfl | rfl | rfl | rfl
  · exact w_99_0 ⟨fun q => absurd rfl q, fun _ => h⟩
  · exact w_99_0 ⟨fun _ => ⟨fun q => absurd rfl q, fun _ => h⟩, fun q => absurd q (by decide)⟩
  · exact w_99_0 ⟨fun _ => ⟨fun _ => sm_in (fun _ _ => br_t2 h) (fun q => absurd q (by decide)), fun q => absurd q (by decide)⟩, fun q => absurd q (by decide)⟩
  · exact w_99_0 ⟨fun _ => ⟨fun _ => sm_in (fun _ _ => br_t2 h) (fun q => absurd q (by decide)), fun q => absurd q (by decide)⟩, fun q => absurd q (by decide)⟩
  · exact w_99_0 ⟨fun _ => ⟨fun _ => sm_in (fun _ _ => br_t2 h) (fun q => absurd q (by decide)), fun q => absurd q (by decide)⟩, fun q => absurd q (by decide)⟩
  · exact w_99_0 ⟨fun _ => ⟨fun _ => sm_in (fun _ q => absurd q (by decide)) (fun _ => br_f2 ⟨fun q => absurd rfl q, fun _ => h⟩), fun q => absurd q (by decide)⟩, fun q => absurd q (by decide)⟩
  · exact w_99_0 ⟨fun _ => ⟨fun _ => sm_in (fun _ q => absurd q (by decide)) (fun _ => br_f2 ⟨fun _ => ⟨fun _ => h, fun q => absurd q (by decide)⟩, fun q => absurd q (by decide)⟩), fun q => absurd q (by decide)⟩, fun q => absurd q (by decide)⟩
  · exact w_99_0 ⟨fun _ => ⟨fun _ => sm_in (fun _ q => absurd q (by decide)) (fun _ => br_f2 ⟨fun _ => ⟨fun _ => h, fun q => absurd q (by decide)⟩, fun q => absurd q (by decide)⟩), fun q => absurd q (by decide)⟩, fun q => absurd q (by decide)⟩
  · exact w_99_0 ⟨fun _ => ⟨fun _ => sm_in (fun _ q => absurd q (by decide)) (fun _ => br_f2 ⟨fun _ => ⟨fun q => absurd rfl q, fun _ => h⟩, fun q => absurd q (by decide)⟩), fun q => absurd q (by decide)⟩, fun q => absurd q (by decide)⟩
theorem sm_two {z : Nat} {c : Int32} (hz : 2 ≤ z ∧ z ≤ 10) : ∀ (st : List (Nat × Nat)) (s m x : Nat) (γ τ : yS), RX cb N ln st s m x γ τ → nn st →
    (∀ γ' τ' st' s' m' x', RX cb N ln st' s' m' x' γ' τ' → nn st' → FD τ τ' → (∀ f, st.length ≤ f → jnC (nI (lvS z)) f γ = sg γ' 13 5 3) → yR (d + 3) 100 0 [some (.ref 97), some (.int (nI z))] [] τ' (qI (fun x3 σ3 => yR (d + 3) 102 0 [some (.ref 97), some (.int (nI z)), some (.int x3)] [] σ3 (qV (fun σ4 => K 1 (sg σ4 97 7 ((σ4 97 7) + 1))))))) →
    yR (d + 4) 112 163 [some (.ref 97), some (.int c), some (.int (nI z))] [] τ (qI K) := by
  have hz2 := lvS_2 hz
  intro st
  induction st with
  | nil =>
    intro s m x γ τ h hn hK
    refine w_112_163 (sm_top h.rb.t17 h.rb.sa (by show 0 < 80; omega) (fun _ => w_90_0 (sm_in (fun q => absurd q (by decide)) (fun _ => ⟨yB0, br_f2 (hK γ τ [] s m x h hn FD.rf (fun f _ => jn_stop (Or.inl rfl) h))⟩))) (fun q p r e => ?_))
    cases e
  | cons e r ih =>
    obtain ⟨q, p⟩ := e
    intro s m x γ τ h hn hK
    have hl := h.len
    have hl' : r.length + 1 ≤ 68 := hl
    have hq := h.ws.srt
    have hn' : q ≠ 12 := hn
    refine w_112_163 (sm_top h.rb.t17 h.rb.sa (by omega) (fun e => by cases e) (fun q' p' r' e => ?_))
    cases e
    by_cases e2 : 2 ≤ q ∧ q ≤ 10
    · have hq2 := lvS_2 e2
      refine w_90_0 (sm_in (fun _ _ => ⟨yB1, br_t2 (sm_top h.rb.t17 h.rb.sa (by omega) (fun e => by cases e) (fun q' p' r' e => ?_))⟩) (fun z => ?_))
      · cases e
        refine sm_rank e2 (sm_rank hz ⟨fun lt => ?_, fun ge => ?_⟩)
        · have hlt : lvS q < lvS z := by
            have := (nI_ltI (a := lvS q - 1) (b := lvS z - 1) (by omega) (by omega)).mp lt
            omega
          exact hK γ τ _ s m x h hn FD.rf (fun f _ => jn_stop (Or.inr ⟨q, p, r, rfl, nI_lt hlt (by omega)⟩) h)
        · have hge : lvS z ≤ lvS q := by
            have : ¬ lvS q - 1 < lvS z - 1 := fun w => ge (nI_lt w (by omega))
            omega
          refine sm_pop h (by omega) (fun τ' s' m' h' hF hnr => ih s' m' p _ τ' h' (hnr hn') (fun γ'' τ'' st'' s'' m'' x'' a1 a2 a3 a4 => hK γ'' τ'' st'' s'' m'' x'' a1 a2 (hF.tr a3) (fun f hf => ?_)))
          obtain ⟨g, rfl⟩ : ∃ g, f = g + 1 := ⟨f - 1, by have : r.length + 1 ≤ f := hf; omega⟩
          rw [jn_go h (nI_nlt hge (by omega))]
          exact a4 g (by have : r.length + 1 ≤ g + 1 := hf; omega)
      · rcases z with z | z
        · exact absurd ((nI_ltI (a := q) (b := 2) (by omega) (by omega)).mp z) (by omega)
        · exact absurd ((nI_ltI (a := 10) (b := q) (by omega) (by omega)).mp z) (by omega)
    · have hq3 : q = 15 ∨ q = 13 ∨ q = 14 := by omega
      have hlt : lvS q < lvS z := by
        rcases hq3 with rfl | rfl | rfl
        · show 0 < lvS z; omega
        · show 1 < lvS z; omega
        · show 1 < lvS z; omega
      exact w_90_0 (sm_in (fun _ z => absurd ((nI_leI (a := q) (b := 10) (by omega) (by omega)).mp z) (by omega)) (fun _ => ⟨yB0, br_f2 (hK γ τ _ s m x h hn FD.rf (fun f _ => jn_stop (Or.inr ⟨q, p, r, rfl, nI_lt hlt (by omega)⟩) h))⟩))
/-- a node more -/
theorem sm_add {v : Int32} (h8 : τ 97 8 = -1999999) (h10 : τ 97 10 = nI cb) (h11 : τ 97 11 = nI (cb + N)) (h60 : cb + N ≤ 60) (hat : τ 97 7 ≠ -1999999) (h1 : cb + N < 60 → K (nI N) (sg (sg τ 103 (25 + cb + N) v) 97 11 (nI (cb + N + 1)))) (h0 : cb + N = 60 → ∀ y, K y (sg τ 97 8 (τ 97 7))) : yR (d + 1) 100 0 [some (.ref 97), some (.int v)] [] τ (qI K) := by
  have e25 : (25 : Int32) + nI (cb + N) = nI (25 + cb + N) := by
    rw [show (25 : Int32) = nI 25 from rfl, nI_add]; congr 1; omega
  have e1 : nI (cb + N + 1) - 1 - nI cb = nI N := by
    have a1 : nI (cb + N + 1) - 1 = nI (cb + N) := pk_sub (a := cb + N + 1) (b := 1) (by omega)
    rw [a1, pk_sub (by omega)]
    congr 1; omega
  refine w_100_0 ⟨fun q => ?_, fun q => ?_⟩
  · have e : cb + N = 60 := by
      rw [h11] at q
      have := (nI_leI (a := 60) (b := cb + N) (by omega) (by omega)).mp q
      omega
    refine w_97_0 ⟨fun z => absurd h8 z, fun _ => ⟨fun z => absurd rfl z, fun _ => ⟨fun _ => h0 e _, fun z => absurd z ?_⟩⟩⟩
    show ¬ (sg τ 97 8 (τ 97 7)) 97 8 = -1999999
    rw [sg_same]; exact hat
  · have e : cb + N < 60 := by
      rw [h11] at q
      rcases Nat.lt_or_ge (cb + N) 60 with z | z
      · exact z
      · exact absurd ((nI_leI (a := 60) (b := cb + N) (by omega) (by omega)).mpr z) q
    refine w_97_0 ⟨fun z => absurd h8 z, fun _ => ⟨fun _ => ⟨fun z => absurd h8 z, fun _ => ?_⟩, fun z => absurd z one_ne⟩⟩
    rw [h11, e25, nI_1, nI_clamp (by omega), h10, e1]
    exact ⟨vp_in_nI (by omega) (by decide), h1 e⟩
end LOOPS
/-! where the class stands in its text -/
def CK (t : Nat → Int32) (len : Nat) (res : Int32 × yS) (k : Nat) (γ : yS) : Prop := k ≤ len ∧ rnC t len (len - k) k γ = res
def SK (t : Nat → Int32) (len : Nat) (res : Int32 × yS) (k : Nat) (γ : yS) : Prop := k < len ∧ (if (mainC (t k) γ).1 = true then rnC t len (len - (k + 1)) (k + 1) (mainC (t k) γ).2 else (nI k, (mainC (t k) γ).2)) = res
def NF (t : Nat → Int32) (len k : Nat) (γ : yS) : Prop := γ 13 10 ≤ 0 ∨ (k < len → figC (t k) = false)
def TX (t : Nat → Int32) (len : Nat) (τ : yS) : Prop := τ 97 6 = nI len ∧ ∀ j, j < len → τ 102 j = t j
def FR (τ τ' : yS) : Prop := (∀ c, c < 103 ∨ 107 < c → c ≠ 97 → τ' c = τ c) ∧ ∀ j, j < 7 ∨ 18 < j → τ' 97 j = τ 97 j
/-- a fault is found, in both -/
def FT (len : Nat) (res : Int32 × yS) (τ : yS) : Prop := ∃ kf a : Nat, kf ≤ len ∧ res.1 = nI kf ∧ τ 97 8 = nI kf ∧ a ≤ len ∧ τ 97 7 = nI a
section STEP
variable {t : Nat → Int32} {len k : Nat} {res : Int32 × yS} {γ γ' τ τ' : yS} {d : Nat} {K : Int32 → yS → Prop} {KV : yS → Prop}
theorem FR.rf : FR τ τ := ⟨fun _ _ _ => rfl, fun _ _ => rfl⟩
theorem FR.tr {a b c : yS} (h : FR a b) (g : FR b c) : FR a c := ⟨fun q h1 h2 => (g.1 q h1 h2).trans (h.1 q h1 h2), fun j hj => (g.2 j hj).trans (h.2 j hj)⟩
theorem FD.fr (h : FD τ τ') : FR τ τ' := ⟨fun c h1 h2 => h.1 c h2 (by omega) (by omega) (by omega), fun j hj => h.2 j (by omega) (by omega)⟩
theorem FR.s97 {j : Nat} {v : Int32} (h : FR τ τ') (h1 : 7 ≤ j) (h2 : j ≤ 18) : FR τ (sg τ' 97 j v) := ⟨fun c c1 c2 => (kp_sg c2).trans (h.1 c c1 c2), fun i hi => (sg_ne _ _ _ (by omega)).trans (h.2 i hi)⟩
theorem FR.sc {c j : Nat} {v : Int32} (h : FR τ τ') (h1 : 103 ≤ c) (h2 : c ≤ 107) : FR τ (sg τ' c j v) := ⟨fun q c1 c2 => (kp_sg (by omega)).trans (h.1 q c1 c2), fun i hi => by rw [kp_sg (by omega)]; exact h.2 i hi⟩
theorem TX.fr (h : TX t len τ) (g : FR τ τ') : TX t len τ' := ⟨(g.2 6 (by omega)).trans h.1, fun j hj => by rw [g.1 102 (by omega) (by omega)]; exact h.2 j hj⟩
theorem CK.takes (h : CK t len res k γ) (hk : k < len) : (if (takesC (t k) γ).1 = true then rnC t len (len - (k + 1)) (k + 1) (takesC (t k) γ).2 else (nI k, (takesC (t k) γ).2)) = res := by
  obtain ⟨-, h⟩ := h
  obtain ⟨n, hn⟩ : ∃ n, len - k = n + 1 := ⟨len - k - 1, by omega⟩
  rw [hn] at h
  rw [show len - (k + 1) = n by omega]
  exact h
theorem takes_nf {c : Int32} (h : γ 13 10 ≤ 0 ∨ figC c = false) (h32 : ¬ c = 32) : takesC c γ = mainC c (sg γ 13 10 0) := by
  unfold takesC
  rw [ifF, ifF h32]
  rintro ⟨z1, z2⟩
  rcases h with h | h
  · exact z1 h
  · rw [h] at z2; exact absurd z2 (by decide)
theorem fig32 : figC 32 = false := by decide
theorem takes_32 : takesC 32 γ = (true, sg γ 13 10 0) := by
  unfold takesC
  rw [ifF (fun z => absurd z.2 (by rw [fig32]; decide)), ifT rfl]
theorem CK.sk (h : CK t len res k γ) (hk : k < len) (hn : NF t len k γ) (h32 : ¬ t k = 32) : SK t len res k (sg γ 13 10 0) := by
  have := h.takes hk
  rw [takes_nf (hn.imp id (fun z => z hk)) h32] at this
  exact ⟨hk, this⟩
theorem SK.ok (h : SK t len res k γ) (e : mainC (t k) γ = (true, γ')) : CK t len res (k + 1) γ' := by
  obtain ⟨h1, h2⟩ := h
  rw [e] at h2
  exact ⟨by omega, h2⟩
theorem SK.no (h : SK t len res k γ) (e : (mainC (t k) γ).1 = false) : res.1 = nI k := by
  obtain ⟨h1, h2⟩ := h
  rw [e, if_neg (by decide)] at h2
  rw [← h2]
theorem sg_sg {c j : Nat} {a b : Int32} : sg (sg γ c j a) c j b = sg γ c j b := by
  funext q i
  by_cases e : q = c
  · subst e
    by_cases e2 : i = j
    · subst e2; rw [sg_same, sg_same]
    · rw [sg_ne _ _ _ e2, sg_ne _ _ _ e2, sg_ne _ _ _ e2]
  · rw [kp_sg e, kp_sg e, kp_sg e]
theorem sg_id {c j : Nat} {a : Int32} (h : γ c j = a) : sg γ c j a = γ := by
  funext q i
  by_cases e : q = c
  · subst e
    by_cases e2 : i = j
    · subst e2; rw [sg_same, h]
    · rw [sg_ne _ _ _ e2]
  · rw [kp_sg e]
/-- here, of the reference: the class takes the blanks -/
theorem sm_here (hl : len ≤ 150) : ∀ (n k : Nat), len - k = n → ∀ (γ τ : yS), TX t len τ → CK t len res k γ → τ 97 7 = nI k → NF t len k γ →
    (∀ k', k ≤ k' → SK t len res k' (sg γ 13 10 0) → ¬ t k' = 32 → K (t k') (sg τ 97 7 (nI k'))) →
    (∀ γ', (γ' = γ ∨ γ' = sg γ 13 10 0) → res = (if γ 13 5 = 0 then -1 else nI len, γ') → K (-1999999) (sg τ 97 7 (nI len))) → yR d 96 0 [some (.ref 97)] [] τ (qI K) := by
  intro n
  induction n with
  | zero =>
    intro k hn γ τ hT hC h7 hf h1 h2
    have hk := hC.1
    have e : k = len := by omega
    subst e
    refine w_96_0 ⟨fun _ => ?_, fun q => absurd (by rw [hT.1, h7]; exact Int32.le_refl _) q⟩
    have := hC.2
    rw [Nat.sub_self] at this
    have g := h2 γ (Or.inl rfl) this.symm
    rw [sg_id h7] at g
    exact g
  | succ n ih =>
    intro k hn γ τ hT hC h7 hf h1 h2
    refine w_96_0 ⟨fun q => ?_, fun _ => ?_⟩
    · rw [hT.1, h7] at q
      exact absurd q (nI_ge (by omega) (by omega))
    · rw [h7, nI_clamp (by omega), hT.2 k (by omega), nI_1]
      refine ⟨vp_in_nI (by omega) (by decide), fun z => ?_, fun z => ?_⟩
      · have g := h1 k (Nat.le_refl _) (hC.sk (by omega) hf z) z
        rw [sg_id h7] at g
        exact g
      · have hC2 : CK t len res (k + 1) (sg γ 13 10 0) := by
          have := hC.takes (by omega)
          rw [z, takes_32] at this
          exact ⟨by omega, this⟩
        refine ih (k + 1) (by omega) (sg γ 13 10 0) (sg τ 97 7 (nI (k + 1))) (hT.fr (FR.rf.s97 (by omega) (by omega))) hC2 (sg_same _ _ _ _) (Or.inl (by rw [sg_same]; exact Int32.le_refl _)) (fun k' hk' hS h32 => ?_) (fun γ' hg hr => ?_)
        · rw [sg_sg] at hS ⊢
          exact h1 k' (by omega) hS h32
        · rw [sg_sg] at hg ⊢
          exact h2 γ' (by rcases hg with e | e <;> exact Or.inr e) hr
/-- here, once more -/
theorem sm_here1 (hl : len ≤ 150) (hT : TX t len τ) (h7 : τ 97 7 = nI k) (hk : k < len) (h32 : ¬ t k = 32) (h : K (t k) τ) : yR d 96 0 [some (.ref 97)] [] τ (qI K) := by
  refine w_96_0 ⟨fun q => ?_, fun _ => ?_⟩
  · rw [hT.1, h7] at q
    exact absurd q (nI_ge (by omega) (by omega))
  · rw [h7, nI_clamp (by omega), hT.2 k hk]
    exact ⟨vp_in_nI (by omega) (by decide), fun _ => h, fun z => absurd z h32⟩
theorem sm_here0 (hT : TX t len τ) (h7 : τ 97 7 = nI len) (h : K (-1999999) τ) : yR d 96 0 [some (.ref 97)] [] τ (qI K) :=
  w_96_0 ⟨fun _ => h, fun q => absurd (by rw [hT.1, h7]; exact Int32.le_refl _) q⟩
/-- here, behind a fault -/
theorem sm_hereF (hl : len ≤ 150) : ∀ (n k : Nat), len - k = n → k ≤ len → ∀ τ : yS, TX t len τ → τ 97 7 = nI k → (∀ k' y, k' ≤ len → K y (sg τ 97 7 (nI k'))) → yR d 96 0 [some (.ref 97)] [] τ (qI K) := by
  intro n
  induction n with
  | zero =>
    intro k hn hk τ hT h7 h
    have e : k = len := by omega
    subst e
    have g := h k (-1999999) (Nat.le_refl _)
    rw [sg_id h7] at g
    exact sm_here0 hT h7 g
  | succ n ih =>
    intro k hn hk τ hT h7 h
    refine w_96_0 ⟨fun q => ?_, fun _ => ?_⟩
    · rw [hT.1, h7] at q
      exact absurd q (nI_ge (by omega) (by omega))
    · rw [h7, nI_clamp (by omega), hT.2 k (by omega), nI_1]
      refine ⟨vp_in_nI (by omega) (by decide), fun z => ?_, fun z => ?_⟩
      · have g := h k (t k) (by omega)
        rw [sg_id h7] at g
        exact g
      · refine ih (k + 1) (by omega) (by omega) (sg τ 97 7 (nI (k + 1))) (hT.fr (FR.rf.s97 (by omega) (by omega))) (sg_same _ _ _ _) (fun k' y hk' => ?_)
        rw [sg_sg]; exact h k' y hk'
end STEP
