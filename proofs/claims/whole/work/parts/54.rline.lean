/-! readLine and the reading of all lines -/
def RLn (cb ln : Nat) (γ τ : yS) : Prop := γ 13 3 = 0 ∧ γ 13 4 = 0 ∧ γ 13 5 = 0 ∧ γ 13 6 = nI cb ∧ γ 14 10 = nI ln ∧ ln ≤ 8 ∧ cb ≤ 60 ∧ τ 97 8 = -1999999 ∧ τ 97 11 = nI cb ∧ τ 103 0 = nI ln ∧ FL cb ln γ τ
def beC (cb ln : Nat) (e : Int32) (γ : yS) : yS := sg (sg (sg (sg (sg γ 13 7 (nI cb)) 20 ln e) 22 ln 0) 23 ln 0) 13 5 1
def beM (cb ln : Nat) (e a : Int32) (τ : yS) : yS := sg (sg (sg (sg (sg (sg τ 103 (1 + ln) e) 97 7 a) 97 10 (nI cb)) 97 14 0) 97 17 0) 97 18 0
def enC (cb N ln x : Nat) (γ : yS) : yS := sg (sg (sg (sg (sg γ 13 5 3) 19 ln (nI (cb + x))) 21 ln (nI N)) 14 10 (nI (ln + 1))) 13 5 0
def enM (N ln x : Nat) (a : Int32) (τ : yS) : yS := sg (sg (sg (sg τ 97 7 a) 103 (9 + ln) (nI N)) 103 (17 + ln) (nI x)) 103 0 (nI (ln + 1))
/-- a fault that is found, behind a line -/
def FT1 (len : Nat) (res : Int32 × yS) (τ : yS) : Prop := ∃ kf : Nat, kf ≤ len ∧ res.1 = nI kf ∧ τ 97 8 = nI kf
theorem sumN_eq {sz sz' : Nat → Nat} : ∀ {k : Nat}, (∀ j, j < k → sz' j = sz j) → sumN sz' k = sumN sz k
  | 0, _ => rfl
  | k + 1, h => by
    show sumN sz' k + sz' k = sumN sz k + sz k
    rw [sumN_eq (k := k) (fun j hj => h j (by omega)), h k (by omega)]
section LINE
variable {t : Nat → Int32} {len : Nat} {res : Int32 × yS} {d : Nat} {γ τ : yS} {KV : yS → Prop} {K : Int32 → yS → Prop} {cb N ln s m x k q : Nat} {st : List (Nat × Nat)}
theorem RLn.f10 {v : Int32} (h : RLn cb ln γ τ) : RLn cb ln (sg γ 13 10 v) τ := h
theorem RLn.at7 {v : Int32} (h : RLn cb ln γ τ) : RLn cb ln γ (sg τ 97 7 v) := h
theorem ru_begin {e a : Int32} (h : RLn cb ln γ τ) (l8 : ln < 8) (he : e = 0 ∨ e = 1) : RU cb 0 ln [] 0 (beC cb ln e γ) (beM cb ln e a τ) := by
  obtain ⟨h1, h2, h3, h4, h5, h6, h7, h8, h9, h10, h11⟩ := h
  have e103 : ∀ j, j ≠ 1 + ln → (beM cb ln e a τ) 103 j = τ 103 j := fun j hj => by
    show (sg τ 103 (1 + ln) e) 103 j = τ 103 j
    rw [sg_ne _ _ _ hj]
  have e20 : (beC cb ln e γ) 20 ln = e := by
    unfold beC; rw [kp_sg (by decide), kp_sg (by decide), kp_sg (by decide), sg_same]
  refine ⟨⟨h1, h2, h4, rfl, h5, l8, by show 0 ≤ 9; omega, by omega, h8, rfl, h9, rfl, rfl, (e103 0 (by omega)).trans h10, ?_, ?_, ?_, ?_, trivial, h11.cong h7 (fun j hj => ⟨rfl, rfl, rfl, rfl, e103 _ (by omega)⟩) (fun k hk => ⟨rfl, ?_, rfl, ?_, ?_, e103 _ (by omega), e103 _ (by omega), e103 _ (by omega)⟩)⟩, rfl, rfl, rfl, rfl⟩
  · rw [e20]
    show e = (sg τ 103 (1 + ln) e) 103 (1 + ln)
    rw [sg_same]
  · rw [e20]; exact he
  · show (beC cb ln e γ) 22 ln = 0
    unfold beC; rw [kp_sg (by decide), kp_sg (by decide), sg_same]
  · show (beC cb ln e γ) 23 ln = 0
    unfold beC; rw [kp_sg (by decide), sg_same]
  · show (sg γ 20 ln e) 20 k = γ 20 k
    rw [sg_ne _ _ _ (by omega)]
  · show (sg γ 22 ln 0) 22 k = γ 22 k
    rw [sg_ne _ _ _ (by omega)]
  · show (sg γ 23 ln 0) 23 k = γ 23 k
    rw [sg_ne _ _ _ (by omega)]
theorem rl_end {a : Int32} (h : RX cb N ln [] s m x γ τ) : RLn (cb + N) (ln + 1) (enC cb N ln x γ) (enM N ln x a τ) := by
  have hl := h.rb.l8
  have h60 := h.rb.n60
  have hsN := h.sN
  obtain ⟨hs0, hm0⟩ : s = 0 ∧ m = 0 := h.ws
  have e103 : ∀ j, j ≠ 0 → j ≠ 9 + ln → j ≠ 17 + ln → (enM N ln x a τ) 103 j = τ 103 j := fun j h1 h2 h3 => by
    unfold enM; rw [sg_ne _ _ _ h1, sg_ne _ _ _ h3, sg_ne _ _ _ h2, kp_sg (by decide)]
  have e9 : (enM N ln x a τ) 103 (9 + ln) = nI N := by
    unfold enM; rw [sg_ne _ _ _ (by omega), sg_ne _ _ _ (by omega), sg_same]
  have e17 : (enM N ln x a τ) 103 (17 + ln) = nI x := by
    unfold enM; rw [sg_ne _ _ _ (by omega), sg_same]
  have c19 : (enC cb N ln x γ) 19 ln = nI (cb + x) := by
    show (sg (sg γ 13 5 3) 19 ln (nI (cb + x))) 19 ln = _
    rw [sg_same]
  have c21 : (enC cb N ln x γ) 21 ln = nI N := by
    show (sg (sg γ 13 5 3) 21 ln (nI N)) 21 ln = _
    rw [sg_same]
  have d19 : ∀ k, k < ln → (enC cb N ln x γ) 19 k = γ 19 k := fun k hk => by
    show (sg γ 19 ln (nI (cb + x))) 19 k = _
    rw [sg_ne _ _ _ (by omega)]
  have d21 : ∀ k, k < ln → (enC cb N ln x γ) 21 k = γ 21 k := fun k hk => by
    show (sg γ 21 ln (nI N)) 21 k = _
    rw [sg_ne _ _ _ (by omega)]
  refine ⟨h.rb.g3, h.rb.g4, rfl, h.rb.g6, rfl, by omega, h60, h.rb.t8, h.rb.t11, ?_, ?_⟩
  · unfold enM; rw [sg_same]
  · have hF : FL cb ln (enC cb N ln x γ) (enM N ln x a τ) := h.rb.fl.cong (by omega) (fun j hj => ⟨rfl, rfl, rfl, rfl, e103 _ (by omega) (by omega) (by omega)⟩) (fun k hk => ⟨d19 k hk, rfl, d21 k hk, rfl, rfl, e103 _ (by omega) (by omega) (by omega), e103 _ (by omega) (by omega) (by omega), e103 _ (by omega) (by omega) (by omega)⟩)
    obtain ⟨sz, tp, f1, f2⟩ := hF
    have es : ∀ k, k ≤ ln → sumN (fun j => if j = ln then N else sz j) k = sumN sz k := fun k hk => sumN_eq (fun j hj => if_neg (by omega))
    have ecb : cb = sumN (fun j => if j = ln then N else sz j) ln := by rw [es ln (Nat.le_refl _)]; exact f1
    refine ⟨fun j => if j = ln then N else sz j, fun j => if j = ln then x else tp j, ?_, fun k hk => ?_⟩
    · show cb + N = sumN (fun j => if j = ln then N else sz j) ln + (if ln = ln then N else sz ln)
      rw [if_pos rfl, ← ecb]
    · by_cases e : k = ln
      · subst e
        have ht : Tr (γ 15) (γ 16) (γ 17) (γ 18) (fun j => τ 103 (25 + cb + j)) trT cb (N - 1 - s + 1) s (N - 1) x := h.tr
        unfold PLn
        rw [← ecb]
        simp only [if_true]
        refine ⟨h.rb.ev.trans (e103 _ (by omega) (by omega) (by omega)).symm, h.rb.ev2, c21.trans e9.symm, e9, c19, e17, by omega, by omega, ?_, ?_, ?_⟩
        · have ht2 := ht.up 60 (by omega)
          rw [hs0] at ht2
          exact ht2.cong (fun j g1 g2 => ⟨rfl, rfl, rfl, rfl, e103 _ (by omega) (by omega) (by omega)⟩)
        · refine h.rb.nm.trans (bitR_cong N 0 0 (fun j g1 g2 => ?_)).symm
          exact e103 _ (by omega) (by omega) (by omega)
        · refine h.rb.tg.trans (bitR_cong N 0 0 (fun j g1 g2 => ?_)).symm
          exact e103 _ (by omega) (by omega) (by omega)
      · have hk2 : k < ln := by omega
        have hp := f2 k hk2
        unfold PLn at hp ⊢
        rw [es k (by omega)]
        simp only [if_neg e]
        exact hp
theorem ln_end (hl : len ≤ 150) (hX : RX cb N ln st s m x γ τ) (hb : brk st = 0) (hT : TX t len τ) (hS : SK t len res k γ) (h32 : ¬ t k = 32) (h7 : τ 97 7 = nI k) (h10 : γ 13 10 = 0) (h5 : γ 13 5 = 3) (h59 : t k = 59 ∨ (mainC (t k) γ).1 = false)
    (kL : ∀ k' γ' τ' cb', k < k' → CK t len res k' γ' → τ' 97 7 = nI k' → NF t len k' γ' → RLn cb' (ln + 1) γ' τ' → FR τ τ' → KV τ')
    (kF : ∀ τ', FT1 len res τ' → FR τ τ' → KV τ') : yR (d + 4) 113 96 [some (.ref 97), some (.int (nI ln)), some (.int 0)] [] τ (qV KV) := by
  have hk := hS.1
  have h8 := hX.rb.t8
  have l8 := hX.rb.l8
  have hlen := hX.len
  have h60 := hX.rb.n60
  have e9 : (9 : Int32) + nI ln = nI (9 + ln) := nI_add 9 ln
  have e17 : (17 : Int32) + nI ln = nI (17 + ln) := nI_add 17 ln
  refine w_113_96 ⟨fun z => absurd h8 z, fun _ => ⟨fun _ => sm_all st s m x γ τ hX (fun γ' τ' st' s' m' x' a1 a2 a3 a4 => ?_), fun z => absurd rfl z⟩⟩
  have ej := a4 69 (by omega)
  have hb' := a1.rb.b9
  have hst : st' = [] := by
    rcases a2 with h | ⟨p, r, h⟩
    · exact h
    · exfalso
      subst h
      have e : (sg γ' 13 5 3) 13 4 = γ 13 4 := by rw [← ej, jn_13 (by decide) (by decide) (by decide)]
      have e2 : γ' 13 4 = γ 13 4 := e
      rw [a1.rb.g4, hX.rb.g4, hb] at e2
      have e3 := (nI_eq (b := 0) (by omega) (by omega)).mp e2
      have : brk ((15, p) :: r) = 1 + brk r := rfl
      omega
  subst hst
  have h7' : τ' 97 7 = nI k := (a3.2 7 (by decide) (by decide)).trans h7
  refine sm_here1 hl (hT.fr a3.fr) h7' hk h32 ⟨fun n59 => ?_, fun e59 => ?_⟩
  · have hno : (mainC (t k) γ).1 = false := by
      rcases h59 with w | w
      · exact absurd w n59
      · exact w
    refine w_97_0 ⟨fun z => absurd a1.rb.t8 z, fun _ => ⟨fun z => absurd rfl z, fun _ => ?_⟩⟩
    rw [e9, e17, nI_clamp (by omega), nI_clamp (by omega)]
    refine ⟨vp_in_nI (by omega) (by decide), vp_in_nI (n := 0) (by omega) (by decide), vp_in_nI (by omega) (by decide), vp_in_nI (n := 0) (by omega) (by decide), kF _ ⟨k, by omega, hS.no hno, h7'⟩ (a3.fr.tr ?_)⟩
    exact ((((FR.rf.s97 (by omega) (by omega)).s97 (by omega) (by omega)).sc (by omega) (by omega)).sc (by omega) (by omega)).sc (by omega) (by omega)
  · obtain ⟨hs0, hm0⟩ : s' = 0 ∧ m' = 0 := a1.ws
    refine w_97_0 ⟨fun z => absurd a1.rb.t8 z, fun _ => ⟨fun _ => ?_, fun z => absurd z one_ne⟩⟩
    have e11 : τ' 97 11 - τ' 97 10 = nI N := by
      rw [a1.rb.t11, a1.rb.t10, pk_sub (by omega)]
      congr 1; omega
    have e104 : τ' 104 0 = nI x' := by rw [← hm0]; exact a1.pt
    rw [e9, e17, nI_clamp (by omega), nI_clamp (by omega), e11, e104, h7', nI_1]
    have e0 : (sg (sg (sg τ' 97 7 (nI (k + 1))) 103 (9 + ln) (nI N)) 103 (17 + ln) (nI x')) 103 0 + 1 = nI (ln + 1) := by
      rw [sg_ne _ _ _ (by omega), sg_ne _ _ _ (by omega), kp_sg (by decide), a1.rb.t0, nI_1]
    rw [e0]
    have em : mainC (t k) γ = (true, enC cb N ln x' γ') := by
      rw [rs_main h5, e59]
      unfold restC
      rw [ifF (by decide), ifF (by decide), ifT rfl]
      have hl' := hX.rb.l8
      have ej2 : joinC (γ 13 8) 1 γ = sg γ' 13 5 3 := by
        unfold joinC
        rw [sg_id rfl, ej]
      have e6 : (sg γ' 13 5 3) 13 6 - (sg γ' 13 5 3) 13 7 = nI N := by
        show γ' 13 6 - γ' 13 7 = nI N
        rw [a1.rb.g6, a1.rb.g7, pk_sub (by omega)]
        congr 1; omega
      have e14 : (sg γ' 13 5 3) 14 10 + 1 = nI (ln + 1) := by
        show γ' 14 10 + 1 = _
        rw [a1.rb.gl, nI_1]
      have e8 : (sg γ' 13 5 3) 13 8 = nI (cb + x') := a1.g8
      unfold endsC enC
      rw [hX.rb.g4, hb, ifF (by decide), hX.rb.gl, ifT (inNt (vp_in_nI hl' (by decide))), ej2, e6, e14, e8, nI_clamp (by omega)]
    have g10 : γ' 13 10 = 0 := by
      have e : (sg γ' 13 5 3) 13 10 = γ 13 10 := by rw [← ej, jn_13 (by decide) (by decide) (by decide)]
      exact e.trans h10
    refine ⟨vp_in_nI (by omega) (by decide), vp_in_nI (n := 0) (by omega) (by decide), vp_in_nI (by omega) (by decide), vp_in_nI (n := 0) (by omega) (by decide), kL (k + 1) _ _ (cb + N) (by omega) (hS.ok em) rfl (Or.inl ?_) (rl_end a1) (a3.fr.tr ?_)⟩
    · rw [show (enC cb N ln x' γ') 13 10 = γ' 13 10 from rfl, g10]; exact Int32.le_refl _
    · exact (((FR.rf.s97 (by omega) (by omega)).sc (by omega) (by omega)).sc (by omega) (by omega)).sc (by omega) (by omega)
theorem ln_endE (hl : len ≤ 150) (hX : RX cb N ln st s m x γ τ) (hT : TX t len τ) (h7 : τ 97 7 = nI len) (hr : res.1 = nI len)
    (kF : ∀ τ', FT1 len res τ' → FR τ τ' → KV τ') : yR (d + 4) 113 96 [some (.ref 97), some (.int (nI ln)), some (.int 0)] [] τ (qV KV) := by
  have h8 := hX.rb.t8
  have l8 := hX.rb.l8
  have e9 : (9 : Int32) + nI ln = nI (9 + ln) := nI_add 9 ln
  have e17 : (17 : Int32) + nI ln = nI (17 + ln) := nI_add 17 ln
  refine w_113_96 ⟨fun z => absurd h8 z, fun _ => ⟨fun _ => sm_all st s m x γ τ hX (fun γ' τ' st' s' m' x' a1 a2 a3 a4 => ?_), fun z => absurd rfl z⟩⟩
  have h7' : τ' 97 7 = nI len := (a3.2 7 (by decide) (by decide)).trans h7
  refine sm_here0 (hT.fr a3.fr) h7' ⟨fun n59 => ?_, fun e59 => absurd e59 (by decide)⟩
  refine w_97_0 ⟨fun z => absurd a1.rb.t8 z, fun _ => ⟨fun z => absurd rfl z, fun _ => ?_⟩⟩
  rw [e9, e17, nI_clamp (by omega), nI_clamp (by omega)]
  refine ⟨vp_in_nI (by omega) (by decide), vp_in_nI (n := 0) (by omega) (by decide), vp_in_nI (by omega) (by decide), vp_in_nI (n := 0) (by omega) (by decide), kF _ ⟨len, Nat.le_refl _, hr, h7'⟩ (a3.fr.tr ?_)⟩
  exact ((((FR.rf.s97 (by omega) (by omega)).s97 (by omega) (by omega)).sc (by omega) (by omega)).sc (by omega) (by omega)).sc (by omega) (by omega)
end LINE
