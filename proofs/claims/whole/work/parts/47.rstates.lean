/-! THE READERS' STATES: a node more, a sign more -/
theorem sg_comm {γ : yS} {a b i j : Nat} {v w : Int32} (h : a ≠ b ∨ i ≠ j) : sg (sg γ a i v) b j w = sg (sg γ b j w) a i v := by
  funext q k
  by_cases e : q = a
  · subst e
    by_cases e2 : q = b
    · subst e2
      have hij : i ≠ j := by
        rcases h with h | h
        · exact absurd rfl h
        · exact h
      by_cases e3 : k = j
      · subst e3
        rw [sg_same, sg_ne _ _ _ (Ne.symm hij), sg_same]
      · rw [sg_ne _ _ _ e3]
        by_cases e4 : k = i
        · subst e4; rw [sg_same, sg_same]
        · rw [sg_ne _ _ _ e4, sg_ne _ _ _ e4, sg_ne _ _ _ e3]
    · rw [kp_sg e2]
      by_cases e4 : k = i
      · subst e4; rw [sg_same, sg_same]
      · rw [sg_ne _ _ _ e4, sg_ne _ _ _ e4, kp_sg e2]
  · rw [kp_sg e]
    by_cases e2 : q = b
    · subst e2
      by_cases e3 : k = j
      · subst e3; rw [sg_same, sg_same]
      · rw [sg_ne _ _ _ e3, sg_ne _ _ _ e3, kp_sg e]
    · rw [kp_sg e2, kp_sg e2, kp_sg e]
/-- join passes by what it does not read -/
theorem pop_comm {γ : yS} {a i : Nat} {v : Int32} (h : (a = 18) ∨ (a = 13 ∧ i = 10)) : popC (sg γ a i v) = sg (popC γ) a i v := by
  have e3 : (sg γ a i v) 13 3 = γ 13 3 := by
    rcases h with rfl | ⟨rfl, rfl⟩
    · rw [kp_sg (by decide)]
    · rw [sg_ne _ _ _ (by decide)]
  have e25 : (sg γ a i v) 25 = γ 25 := kp_sg (by omega)
  have e8 : ∀ x, (sg (sg γ a i v) 13 3 x) 13 8 = (sg γ 13 3 x) 13 8 := fun x => by
    rw [sg_ne _ _ _ (by decide), sg_ne _ _ _ (by decide)]
    rcases h with rfl | ⟨rfl, rfl⟩
    · rw [kp_sg (by decide)]
    · rw [sg_ne _ _ _ (by decide)]
  unfold popC
  rw [e3, e25, e8]
  split
  · rw [sg_comm (a := a) (b := 13) (by omega), sg_comm (a := a) (b := 17) (by omega), sg_comm (a := a) (b := 13) (by omega)]
  · rw [sg_comm (a := a) (b := 13) (by omega)]
theorem jn_comm {lv : Int32} {a i : Nat} {v : Int32} (h : (a = 18) ∨ (a = 13 ∧ i = 10)) : ∀ (f : Nat) (γ : yS), jnC lv f (sg γ a i v) = sg (jnC lv f γ) a i v := by
  intro f
  induction f with
  | zero => intro γ; exact sg_comm (by omega)
  | succ f ih =>
    intro γ
    have e3 : (sg γ a i v) 13 3 = γ 13 3 := by
      rcases h with rfl | ⟨rfl, rfl⟩
      · rw [kp_sg (by decide)]
      · rw [sg_ne _ _ _ (by decide)]
    have e26 : (sg γ a i v) 26 = γ 26 := kp_sg (by omega)
    unfold jnC
    rw [e3, e26]
    split
    · exact sg_comm (by omega)
    · rw [pop_comm h]; exact ih _
theorem pop_kp {γ : yS} {c : Nat} (h1 : c ≠ 13) (h2 : c ≠ 17) : (popC γ) c = γ c := by
  unfold popC
  split
  · rw [kp_sg h1, kp_sg h2, kp_sg h1]
  · rw [kp_sg h1]
theorem pop_13 {γ : yS} {j : Nat} (h1 : j ≠ 3) (h2 : j ≠ 8) : (popC γ) 13 j = γ 13 j := by
  unfold popC
  split
  · rw [sg_ne _ _ _ h2, kp_sg (by decide), sg_ne _ _ _ h1]
  · rw [sg_ne _ _ _ h1]
theorem jn_kp {lv : Int32} {c : Nat} (h1 : c ≠ 13) (h2 : c ≠ 17) : ∀ (f : Nat) (γ : yS), (jnC lv f γ) c = γ c := by
  intro f
  induction f with
  | zero => intro γ; exact kp_sg h1
  | succ f ih =>
    intro γ
    unfold jnC
    split
    · exact kp_sg h1
    · exact (ih _).trans (pop_kp h1 h2)
theorem jn_13 {lv : Int32} {j : Nat} (h1 : j ≠ 3) (h2 : j ≠ 8) (h3 : j ≠ 5) : ∀ (f : Nat) (γ : yS), (jnC lv f γ) 13 j = γ 13 j := by
  intro f
  induction f with
  | zero => intro γ; exact sg_ne _ _ _ h3
  | succ f ih =>
    intro γ
    unfold jnC
    split
    · exact sg_ne _ _ _ h3
    · exact (ih _).trans (pop_13 h1 h2)
section STATES
variable {γ τ : yS} {cb N ln s m x q p : Nat} {st r : List (Nat × Nat)}
def ndC (i : Nat) (kd nb : Int32) (γ : yS) : yS := sg (sg (sg γ 15 i kd) 18 i nb) 13 6 (nI (i + 1))
def ndM (cb N : Nat) (W : Int32) (τ : yS) : yS := sg (sg τ 103 (25 + cb + N) W) 97 11 (nI (cb + N + 1))
theorem nw_eq {kd nb : Int32} {i : Nat} (h : γ 13 6 = nI i) (hi : i < 60) : nwC kd nb γ = ndC i kd nb γ := by
  unfold nwC ndC
  rw [h, if_pos (inNt (vp_in_nI hi (by decide))), nI_clamp (by omega), nI_1]
/-- a node more that has no bit -/
theorem rb_new {kd nb W : Int32} (h : RB cb N ln st γ τ) (hN : cb + N < 60) (hb : ∀ b, bitB b W = 0) : RB cb (N + 1) ln st (ndC (cb + N) kd nb γ) (ndM cb N W τ) := by
  have ew : ∀ j, j ≠ 25 + cb + N → (ndM cb N W τ) 103 j = τ 103 j := fun j hj => by
    unfold ndM; rw [kp_sg (by decide), sg_ne _ _ _ hj]
  have ewN : (ndM cb N W τ) 103 (25 + cb + N) = W := by unfold ndM; rw [kp_sg (by decide), sg_same]
  have bits : ∀ b, bitR b (fun j => (ndM cb N W τ) 103 (25 + cb + j)) (N + 1) 0 0 = bitR b (fun j => τ 103 (25 + cb + j)) N 0 0 := fun b => by
    rw [bitR_snoc, Nat.zero_add, ewN, hb, Int32.or_zero]
    exact bitR_cong N 0 0 (fun j _ hj => ew _ (by omega))
  have hl := h.l8
  refine ⟨h.g3, h.g4, rfl, h.g7, h.gl, h.l8, h.b9, by omega, h.t8, h.t10, rfl, h.t17, h.t18, (ew 0 (by omega)).trans h.t0, h.ev.trans (ew _ (by omega)).symm, h.ev2, by rw [bits]; exact h.nm, by rw [bits]; exact h.tg, h.sa.cong (fun _ _ => ⟨rfl, rfl, rfl, rfl⟩), h.fl.cong (by omega) (fun j hj => ⟨?_, rfl, rfl, ?_, ew _ (by omega)⟩) (fun k hk => ⟨rfl, rfl, rfl, rfl, rfl, ew _ (by omega), ew _ (by omega), ew _ (by omega)⟩)⟩
  · unfold ndC; rw [kp_sg (by decide), kp_sg (by decide), sg_ne _ _ _ (by omega)]
  · unfold ndC; rw [kp_sg (by decide), sg_ne _ _ _ (by omega), kp_sg (by decide)]
theorem ws_new {kd nb W : Int32} (h : WS (γ 15) (γ 16) (γ 17) (γ 18) (fun j => τ 103 (25 + cb + j)) (τ 104) cb st s m) (hs : s ≤ N) : WS ((ndC (cb + N) kd nb γ) 15) ((ndC (cb + N) kd nb γ) 16) ((ndC (cb + N) kd nb γ) 17) ((ndC (cb + N) kd nb γ) 18) (fun j => (ndM cb N W τ) 103 (25 + cb + j)) ((ndM cb N W τ) 104) cb st s m := by
  refine h.cong (fun j hj => ⟨?_, rfl, rfl, ?_, ?_⟩) (fun _ _ => rfl)
  · unfold ndC; rw [kp_sg (by decide), kp_sg (by decide), sg_ne _ _ _ (by omega)]
  · unfold ndC; rw [kp_sg (by decide), sg_ne _ _ _ (by omega), kp_sg (by decide)]
  · show (ndM cb N W τ) 103 (25 + cb + j) = _
    unfold ndM; rw [kp_sg (by decide), sg_ne _ _ _ (by omega)]
def plS (L : Nat) (e lv : Int32) (γ : yS) : yS := sg (sg (sg (sg γ 25 L e) 26 L lv) 13 3 (nI (L + 1))) 13 5 1
def psS (L : Nat) (q p : Int32) (τ : yS) : yS := sg (sg (sg τ 106 L q) 107 L p) 97 17 (nI (L + 1))
theorem pl_eq {e lv : Int32} {L : Nat} (h : γ 13 3 = nI L) (hL : L < 69) : plC e lv γ = (true, plS L e lv γ) := by
  unfold plC plS
  rw [h, if_pos (inNt (vp_in_nI hL (by decide))), nI_clamp (by omega), nI_1]
theorem sa_push {e lv y : Int32} (h : SA cb γ τ st) (hlv : lv = nI (lvS q)) (he : e = if q = 15 then -1 else nI (cb + p)) (hy : q ≠ 15 → y = nI p) : SA cb (plS st.length e lv γ) (psS st.length (nI q) y τ) ((q, p) :: st) := by
  refine ⟨?_, ?_, ?_, fun z => ?_, h.cong (fun j hj => ⟨?_, ?_, ?_, ?_⟩)⟩
  · unfold plS; rw [kp_sg (by decide), kp_sg (by decide), sg_same]; exact hlv
  · unfold plS; rw [kp_sg (by decide), kp_sg (by decide), kp_sg (by decide), sg_same]; exact he
  · unfold psS; rw [kp_sg (by decide), kp_sg (by decide), sg_same]
  · unfold psS; rw [kp_sg (by decide), sg_same]; exact hy z
  · unfold plS; rw [kp_sg (by decide), kp_sg (by decide), kp_sg (by decide), sg_ne _ _ _ (by omega)]
  · unfold plS; rw [kp_sg (by decide), kp_sg (by decide), sg_ne _ _ _ (by omega), kp_sg (by decide)]
  · unfold psS; rw [kp_sg (by decide), kp_sg (by decide), sg_ne _ _ _ (by omega)]
  · unfold psS; rw [kp_sg (by decide), sg_ne _ _ _ (by omega), kp_sg (by decide)]
theorem rb_push {e lv y : Int32} (h : RB cb N ln st γ τ) (hq : q ≠ 15) (hlv : lv = nI (lvS q)) (he : e = nI (cb + p)) (hy : y = nI p) : RB cb N ln ((q, p) :: st) (plS st.length e lv γ) (psS st.length (nI q) y τ) := by
  have ebr : brk ((q, p) :: st) = brk st := by
    show (if q = 15 then 1 else 0) + brk st = brk st
    rw [if_neg hq]; omega
  refine ⟨rfl, h.g4.trans (by rw [ebr]), h.g6, h.g7, h.gl, h.l8, by rw [ebr]; exact h.b9, h.n60, h.t8, h.t10, h.t11, rfl, h.t18.trans (by rw [ebr]), h.t0, h.ev, h.ev2, h.nm, h.tg, sa_push h.sa hlv (by rw [if_neg hq]; exact he) (fun _ => hy), h.fl⟩
/-- a ( more -/
theorem ru_open (h : RU cb N ln st m γ τ) (hb : brk st < 9) : RU cb N ln ((15, 0) :: st) m (plS st.length (-1) 0 (sg γ 13 4 (nI (brk st + 1)))) (psS st.length 15 0 (sg τ 97 18 (nI (brk st + 1)))) := by
  have ebr : brk ((15, 0) :: st) = brk st + 1 := by
    show 1 + brk st = brk st + 1
    omega
  have hs : SA cb (sg γ 13 4 (nI (brk st + 1))) (sg τ 97 18 (nI (brk st + 1))) st := h.rb.sa.cong (fun _ _ => ⟨rfl, rfl, rfl, rfl⟩)
  refine ⟨⟨rfl, by rw [ebr]; rfl, h.rb.g6, h.rb.g7, h.rb.gl, h.rb.l8, by rw [ebr]; omega, h.rb.n60, h.rb.t8, h.rb.t10, h.rb.t11, rfl, by rw [ebr]; rfl, h.rb.t0, h.rb.ev, h.rb.ev2, h.rb.nm, h.rb.tg, ?_, h.rb.fl⟩, rfl, h.t14, Or.inl ⟨rfl, h.ws⟩⟩
  exact sa_push (q := 15) (p := 0) hs rfl rfl (fun z => absurd rfl z)
/-- a ! more -/
theorem ru_not (h : RU cb N ln st m γ τ) (hN : cb + N < 60) : RU cb (N + 1) ln ((12, N) :: st) m (plS st.length (nI (cb + N)) 8 (ndC (cb + N) 33 0 γ)) (psS st.length 12 (nI N) (ndM cb N 12 τ)) := by
  have hb : ∀ b, bitB b 12 = 0 := fun b => by
    have := bit_mk (b := b) (q := 12) (n := 0) (f := 0) (g := 0) (by omega) (by omega) (by omega) (by omega)
    rw [if_neg (by omega)] at this
    exact this
  refine ⟨rb_push (q := 12) (p := N) (rb_new h.rb hN hb) (by decide) rfl rfl rfl, rfl, h.t14, Or.inr (Or.inl ⟨Or.inl rfl, rfl, ⟨?_, ?_, fun z => by omega⟩, fun z => absurd rfl z, ws_new h.ws (Nat.le_refl _)⟩)⟩
  · show (ndC (cb + N) 33 0 γ) 15 (cb + N) = 33
    unfold ndC; rw [kp_sg (by decide), kp_sg (by decide), sg_same]
  · show srt ((ndM cb N 12 τ) 103 (25 + cb + N)) = nI 12
    unfold ndM; rw [kp_sg (by decide), sg_same]; decide
/-- a number -/
def nuC (i v f : Nat) (γ : yS) : yS := sg (sg (sg (ndC i 48 (nI v) γ) 13 9 (nI i)) 13 10 (nI f)) 13 8 (nI i)
def ptS (m : Nat) (y b : Int32) (τ : yS) : yS := sg (sg (sg τ 104 m y) 105 m b) 97 14 (nI (m + 1))
theorem rx_num {v f : Nat} {W0 : Int32} (h : RU cb N ln st m γ τ) (hN : cb + N < 60) (hv : v < 1000) : RX cb (N + 1) ln st N m N (nuC (cb + N) v f γ) (ptS m (nI N) 0 (sg (ndM cb N W0 τ) 103 (25 + cb + N) (mkW 0 v 0 0))) := by
  have hb : ∀ b, bitB b (mkW 0 v 0 0) = 0 := fun b => by
    have := bit_mk (b := b) (q := 0) (n := v) (f := 0) (g := 0) (by omega) (by omega) (by omega) (by omega)
    rw [if_neg (by omega)] at this
    exact this
  have em : sg (ndM cb N W0 τ) 103 (25 + cb + N) (mkW 0 v 0 0) = ndM cb N (mkW 0 v 0 0) τ := by
    unfold ndM
    rw [sg_comm (a := 97) (b := 103) (by omega), sg_sg]
  rw [em]
  have hB := rb_new (kd := 48) (nb := nI v) (W := mkW 0 v 0 0) h.rb hN hb
  have hW := ws_new (kd := 48) (nb := nI v) (W := mkW 0 v 0 0) h.ws (Nat.le_refl _)
  have wN : (ndM cb N (mkW 0 v 0 0) τ) 103 (25 + cb + N) = mkW 0 v 0 0 := by unfold ndM; rw [kp_sg (by decide), sg_same]
  have k15 : (ndC (cb + N) 48 (nI v) γ) 15 (cb + N) = 48 := by unfold ndC; rw [kp_sg (by decide), kp_sg (by decide), sg_same]
  have k18 : (ndC (cb + N) 48 (nI v) γ) 18 (cb + N) = nI v := by unfold ndC; rw [kp_sg (by decide), sg_same]
  refine ⟨⟨hB.g3, hB.g4, hB.g6, hB.g7, hB.gl, hB.l8, hB.b9, hB.n60, hB.t8, hB.t10, hB.t11, hB.t17, hB.t18, hB.t0, hB.ev, hB.ev2, hB.nm, hB.tg, hB.sa.cong (fun _ _ => ⟨rfl, rfl, rfl, rfl⟩), hB.fl⟩, rfl, hW.cong (fun _ _ => ⟨rfl, rfl, rfl, rfl, rfl⟩) (fun j hj => ?_), by omega, ?_, rfl, ?_, Or.inr ⟨?_, ?_⟩⟩
  · unfold ptS; rw [kp_sg (by decide), kp_sg (by decide), sg_ne _ _ _ (by omega)]
  · unfold TrD
    rw [Nat.add_sub_cancel, Nat.sub_self]
    refine Or.inl ⟨rfl, rfl, Or.inl ⟨k15, ?_, ?_, ?_⟩⟩
    · show srt ((ndM cb N (mkW 0 v 0 0) τ) 103 (25 + cb + N)) = 0
      rw [wN, mk_srt (by omega) (by omega) (by omega) (by omega)]; rfl
    · show (ndC (cb + N) 48 (nI v) γ) 18 (cb + N) = nmb ((ndM cb N (mkW 0 v 0 0) τ) 103 (25 + cb + N))
      rw [wN, mk_nmb (by omega) (by omega) (by omega) (by omega), k18]
    · show Num (nmb ((ndM cb N (mkW 0 v 0 0) τ) 103 (25 + cb + N)))
      rw [wN, mk_nmb (by omega) (by omega) (by omega) (by omega)]
      unfold Num
      rw [nI_toInt (by omega)]; omega
  · unfold ptS; rw [kp_sg (by decide), kp_sg (by decide), sg_same]
  · unfold ptS; rw [kp_sg (by decide), sg_same]
  · show (ndC (cb + N) 48 (nI v) γ) 15 (cb + N) ≠ 97
    rw [k15]; decide
/-- a name -/
def naC (i ln : Nat) (v : Int32) (γ : yS) : yS := sg (sg (ndC i 97 v γ) 22 ln ((ndC i 97 v γ) 22 ln ||| (1 <<< (v &&& 31)))) 13 8 (nI i)
theorem rx_name {v : Nat} (h : RU cb N ln st m γ τ) (hN : cb + N < 60) (hv : v < 4) : RX cb (N + 1) ln st N m N (naC (cb + N) ln (nI v) γ) (ptS m (nI N) 1 (ndM cb N (mkW 1 v 0 0) τ)) := by
  have hbt : bitB true (mkW 1 v 0 0) = 1 <<< (nI v &&& 31) := by
    have := bit_mk (b := true) (q := 1) (n := v) (f := 0) (g := 0) (by omega) (by omega) (by omega) (by omega)
    rw [if_pos (Or.inr (Or.inr ⟨rfl, rfl⟩))] at this
    exact this
  have hbf : bitB false (mkW 1 v 0 0) = 0 := by
    have := bit_mk (b := false) (q := 1) (n := v) (f := 0) (g := 0) (by omega) (by omega) (by omega) (by omega)
    rw [if_neg (by decide)] at this
    exact this
  have hB := h.rb
  have hl := hB.l8
  have ew : ∀ j, j ≠ 25 + cb + N → (ndM cb N (mkW 1 v 0 0) τ) 103 j = τ 103 j := fun j hj => by
    unfold ndM; rw [kp_sg (by decide), sg_ne _ _ _ hj]
  have wN : (ndM cb N (mkW 1 v 0 0) τ) 103 (25 + cb + N) = mkW 1 v 0 0 := by unfold ndM; rw [kp_sg (by decide), sg_same]
  have bits : ∀ b, bitR b (fun j => (ndM cb N (mkW 1 v 0 0) τ) 103 (25 + cb + j)) (N + 1) 0 0 = bitR b (fun j => τ 103 (25 + cb + j)) N 0 0 ||| bitB b (mkW 1 v 0 0) := fun b => by
    rw [bitR_snoc, Nat.zero_add, wN]
    congr 1
    exact bitR_cong N 0 0 (fun j _ hj => ew _ (by omega))
  have hW := ws_new (kd := 97) (nb := nI v) (W := mkW 1 v 0 0) h.ws (Nat.le_refl _)
  have k15 : (ndC (cb + N) 97 (nI v) γ) 15 (cb + N) = 97 := by unfold ndC; rw [kp_sg (by decide), kp_sg (by decide), sg_same]
  have k18 : (ndC (cb + N) 97 (nI v) γ) 18 (cb + N) = nI v := by unfold ndC; rw [kp_sg (by decide), sg_same]
  refine ⟨⟨hB.g3, hB.g4, rfl, hB.g7, hB.gl, hB.l8, hB.b9, by omega, hB.t8, hB.t10, rfl, hB.t17, hB.t18, (ew 0 (by omega)).trans hB.t0, hB.ev.trans (ew _ (by omega)).symm, hB.ev2, ?_, ?_, hB.sa.cong (fun _ _ => ⟨rfl, rfl, rfl, rfl⟩), hB.fl.cong (by omega) (fun j hj => ⟨?_, rfl, rfl, ?_, ew _ (by omega)⟩) (fun k hk => ⟨rfl, rfl, rfl, ?_, rfl, ew _ (by omega), ew _ (by omega), ew _ (by omega)⟩)⟩, rfl, hW.cong (fun _ _ => ⟨rfl, rfl, rfl, rfl, rfl⟩) (fun j hj => ?_), by omega, ?_, rfl, ?_, Or.inl ⟨?_, ?_⟩⟩
  · show (naC (cb + N) ln (nI v) γ) 22 ln = bitR true (fun j => (ndM cb N (mkW 1 v 0 0) τ) 103 (25 + cb + j)) (N + 1) 0 0
    unfold naC
    rw [kp_sg (by decide), sg_same, bits, hbt]
    show γ 22 ln ||| _ = _
    rw [hB.nm]
  · show γ 23 ln = bitR false (fun j => (ndM cb N (mkW 1 v 0 0) τ) 103 (25 + cb + j)) (N + 1) 0 0
    rw [bits, hbf, Int32.or_zero]; exact hB.tg
  · unfold naC ndC; rw [kp_sg (by decide), kp_sg (by decide), kp_sg (by decide), kp_sg (by decide), sg_ne _ _ _ (by omega)]
  · unfold naC ndC; rw [kp_sg (by decide), kp_sg (by decide), kp_sg (by decide), sg_ne _ _ _ (by omega), kp_sg (by decide)]
  · unfold naC; rw [kp_sg (by decide), sg_ne _ _ _ (by omega)]; rfl
  · unfold ptS; rw [kp_sg (by decide), kp_sg (by decide), sg_ne _ _ _ (by omega)]
  · unfold TrD
    rw [Nat.add_sub_cancel, Nat.sub_self]
    refine Or.inl ⟨rfl, rfl, Or.inr ⟨k15, ?_, ?_, ?_⟩⟩
    · show srt ((ndM cb N (mkW 1 v 0 0) τ) 103 (25 + cb + N)) = 1
      rw [wN, mk_srt (by omega) (by omega) (by omega) (by omega)]; rfl
    · show (ndC (cb + N) 97 (nI v) γ) 18 (cb + N) = nmb ((ndM cb N (mkW 1 v 0 0) τ) 103 (25 + cb + N))
      rw [wN, mk_nmb (by omega) (by omega) (by omega) (by omega), k18]
    · show vp_in (nmb ((ndM cb N (mkW 1 v 0 0) τ) 103 (25 + cb + N))) 4
      rw [wN, mk_nmb (by omega) (by omega) (by omega) (by omega)]
      exact vp_in_nI hv (by decide)
  · unfold ptS; rw [kp_sg (by decide), kp_sg (by decide), sg_same]
  · unfold ptS; rw [kp_sg (by decide), sg_same]
  · exact k15
end STATES
