/-! MORE STATES of the readers: a \ , a : or ^ , a ) , a sign of two parts -/
section ST2
variable {γ τ γ' τ' : yS} {cb N ln s m x q p k : Nat} {st r : List (Nat × Nat)}
theorem RB.fr (h : RB cb N ln st γ τ) (g13 : ∀ j, j = 3 ∨ j = 4 ∨ j = 6 ∨ j = 7 → γ' 13 j = γ 13 j) (g14 : γ' 14 10 = γ 14 10)
    (t97 : ∀ j, j = 8 ∨ j = 10 ∨ j = 11 ∨ j = 17 ∨ j = 18 → τ' 97 j = τ 97 j) (g20 : γ' 20 ln = γ 20 ln)
    (tr : ∀ j, j < 25 → τ' 103 j = τ 103 j) (hnm : γ' 22 ln = bitR true (fun j => τ' 103 (25 + cb + j)) N 0 0) (htg : γ' 23 ln = bitR false (fun j => τ' 103 (25 + cb + j)) N 0 0)
    (sa : ∀ j, j < st.length → γ' 25 j = γ 25 j ∧ γ' 26 j = γ 26 j ∧ τ' 106 j = τ 106 j ∧ τ' 107 j = τ 107 j)
    (fl : ∀ j, j < cb → γ' 15 j = γ 15 j ∧ γ' 16 j = γ 16 j ∧ γ' 17 j = γ 17 j ∧ γ' 18 j = γ 18 j ∧ τ' 103 (25 + j) = τ 103 (25 + j))
    (fl2 : ∀ k, k < ln → γ' 19 k = γ 19 k ∧ γ' 20 k = γ 20 k ∧ γ' 21 k = γ 21 k ∧ γ' 22 k = γ 22 k ∧ γ' 23 k = γ 23 k) : RB cb N ln st γ' τ' := by
  have hl := h.l8
  have h60 := h.n60
  refine ⟨(g13 3 (by omega)).trans h.g3, (g13 4 (by omega)).trans h.g4, (g13 6 (by omega)).trans h.g6, (g13 7 (by omega)).trans h.g7, g14.trans h.gl, h.l8, h.b9, h.n60, (t97 8 (by omega)).trans h.t8, (t97 10 (by omega)).trans h.t10, (t97 11 (by omega)).trans h.t11, (t97 17 (by omega)).trans h.t17, (t97 18 (by omega)).trans h.t18, (tr 0 (by omega)).trans h.t0, g20.trans (h.ev.trans (tr _ (by omega)).symm), by rw [g20]; exact h.ev2, hnm, htg, h.sa.cong sa, h.fl.cong (by omega) fl (fun k hk => ?_)⟩
  obtain ⟨a1, a2, a3, a4, a5⟩ := fl2 k hk
  exact ⟨a1, a2, a3, a4, a5, tr _ (by omega), tr _ (by omega), tr _ (by omega)⟩
/-- the class behind \ and behind its figure -/
def fiC (i : Nat) (y : Int32) (γ : yS) : yS := sg (sg (sg (ndC i 92 0 γ) 17 i y) 13 8 (nI i)) 13 5 2
def fgC (i : Nat) (v : Int32) (γ : yS) : yS := sg (sg (sg γ 13 10 0) 18 i v) 13 5 3
def fiM (cb N m : Nat) (W : Int32) (τ : yS) : yS := sg (sg (sg (sg (sg τ 103 (25 + cb + N) W) 97 14 (nI m)) 104 m (nI N)) 105 m 0) 97 14 (nI (m + 1))
theorem rx_first {v : Nat} {a b : Int32} (h : RX cb N ln st s m x γ τ) (hN : cb + N < 60) (hv : v ≤ 9) : RX cb (N + 1) ln st s m N (fgC (cb + N) (nI v) (fiC (cb + N) (nI (cb + x)) γ)) (fiM cb N m (mkW 11 v x 0) (sg (sg (ndM cb N (mkW 11 0 0 0) τ) 97 7 a) 97 7 b)) := by
  have hx := Tr.bd h.tr
  have hs := h.sN
  have hb0 : ∀ b, bitB b (mkW 11 0 0 0) = 0 := fun b => by
    have := bit_mk (b := b) (q := 11) (n := 0) (f := 0) (g := 0) (by omega) (by omega) (by omega) (by omega)
    rw [if_neg (by omega)] at this
    exact this
  have hb1 : ∀ b, bitB b (mkW 11 v x 0) = 0 := fun b => by
    have := bit_mk (b := b) (q := 11) (n := v) (f := x) (g := 0) (by omega) (by omega) (by omega) (by omega)
    rw [if_neg (by omega)] at this
    exact this
  have hB := rb_new (kd := 92) (nb := 0) (W := mkW 11 0 0 0) h.rb hN hb0
  have hW := ws_new (kd := 92) (nb := 0) (W := mkW 11 0 0 0) h.ws (Nat.le_of_lt hs)
  have e103 : ∀ j, j ≠ 25 + cb + N → (fiM cb N m (mkW 11 v x 0) (sg (sg (ndM cb N (mkW 11 0 0 0) τ) 97 7 a) 97 7 b)) 103 j = (ndM cb N (mkW 11 0 0 0) τ) 103 j := fun j hj => by
    unfold fiM
    rw [kp_sg (by decide), kp_sg (by decide), kp_sg (by decide), kp_sg (by decide), sg_ne _ _ _ hj, kp_sg (by decide), kp_sg (by decide)]
  have e103' : ∀ j, j ≠ 25 + cb + N → (ndM cb N (mkW 11 0 0 0) τ) 103 j = τ 103 j := fun j hj => by
    unfold ndM; rw [kp_sg (by decide), sg_ne _ _ _ hj]
  have eN : (fiM cb N m (mkW 11 v x 0) (sg (sg (ndM cb N (mkW 11 0 0 0) τ) 97 7 a) 97 7 b)) 103 (25 + cb + N) = mkW 11 v x 0 := by
    unfold fiM
    rw [kp_sg (by decide), kp_sg (by decide), kp_sg (by decide), kp_sg (by decide), sg_same]
  have eN' : (ndM cb N (mkW 11 0 0 0) τ) 103 (25 + cb + N) = mkW 11 0 0 0 := by unfold ndM; rw [kp_sg (by decide), sg_same]
  have bits : ∀ b', bitR b' (fun j => (fiM cb N m (mkW 11 v x 0) (sg (sg (ndM cb N (mkW 11 0 0 0) τ) 97 7 a) 97 7 b)) 103 (25 + cb + j)) (N + 1) 0 0 = bitR b' (fun j => (ndM cb N (mkW 11 0 0 0) τ) 103 (25 + cb + j)) (N + 1) 0 0 := fun b' => bitR_same (fun i hi => by
    show bitB b' ((fiM cb N m (mkW 11 v x 0) (sg (sg (ndM cb N (mkW 11 0 0 0) τ) 97 7 a) 97 7 b)) 103 (25 + cb + i)) = bitB b' ((ndM cb N (mkW 11 0 0 0) τ) 103 (25 + cb + i))
    by_cases e : i = N
    · subst e; rw [eN, eN', hb1, hb0]
    · rw [e103 _ (by omega)])
  have e17 : ∀ j, j ≠ cb + N → (fgC (cb + N) (nI v) (fiC (cb + N) (nI (cb + x)) γ)) 17 j = γ 17 j := fun j hj => by
    unfold fgC fiC
    rw [kp_sg (by decide), kp_sg (by decide), kp_sg (by decide), kp_sg (by decide), kp_sg (by decide), sg_ne _ _ _ hj]; rfl
  have e18 : ∀ j, j ≠ cb + N → (fgC (cb + N) (nI v) (fiC (cb + N) (nI (cb + x)) γ)) 18 j = γ 18 j := fun j hj => by
    unfold fgC fiC ndC
    rw [kp_sg (by decide), sg_ne _ _ _ hj, kp_sg (by decide), kp_sg (by decide), kp_sg (by decide), kp_sg (by decide), kp_sg (by decide), sg_ne _ _ _ hj, kp_sg (by decide)]
  have e15 : ∀ j, j ≠ cb + N → (fgC (cb + N) (nI v) (fiC (cb + N) (nI (cb + x)) γ)) 15 j = γ 15 j := fun j hj => by
    show (ndC (cb + N) 92 0 γ) 15 j = γ 15 j
    unfold ndC
    rw [kp_sg (by decide), kp_sg (by decide), sg_ne _ _ _ hj]
  have e18N : (fgC (cb + N) (nI v) (fiC (cb + N) (nI (cb + x)) γ)) 18 (cb + N) = nI v := by
    unfold fgC; rw [kp_sg (by decide), sg_same]
  have e17N : (fgC (cb + N) (nI v) (fiC (cb + N) (nI (cb + x)) γ)) 17 (cb + N) = nI (cb + x) := by
    unfold fgC fiC
    rw [kp_sg (by decide), kp_sg (by decide), kp_sg (by decide), kp_sg (by decide), kp_sg (by decide), sg_same]
  have e15N : (fgC (cb + N) (nI v) (fiC (cb + N) (nI (cb + x)) γ)) 15 (cb + N) = 92 := by
    show (ndC (cb + N) 92 0 γ) 15 (cb + N) = 92
    unfold ndC; rw [kp_sg (by decide), kp_sg (by decide), sg_same]
  have d15 : ∀ j, j ≠ cb + N → (ndC (cb + N) 92 0 γ) 15 j = γ 15 j := fun j hj => by
    unfold ndC; rw [kp_sg (by decide), kp_sg (by decide), sg_ne _ _ _ hj]
  have d18 : ∀ j, j ≠ cb + N → (ndC (cb + N) 92 0 γ) 18 j = γ 18 j := fun j hj => by
    unfold ndC; rw [kp_sg (by decide), sg_ne _ _ _ hj, kp_sg (by decide)]
  have p104 : ∀ j, j ≠ m → (fiM cb N m (mkW 11 v x 0) (sg (sg (ndM cb N (mkW 11 0 0 0) τ) 97 7 a) 97 7 b)) 104 j = τ 104 j := fun j hj => by
    unfold fiM
    rw [kp_sg (by decide), kp_sg (by decide), sg_ne _ _ _ hj]; rfl
  refine ⟨hB.fr (fun j hj => ?_) rfl (fun j hj => ?_) rfl (fun j hj => e103 j (by omega)) ?_ ?_ (fun _ _ => ⟨rfl, rfl, rfl, rfl⟩) (fun j hj => ⟨rfl, rfl, ?_, ?_, e103 _ (by omega)⟩) (fun _ _ => ⟨rfl, rfl, rfl, rfl, rfl⟩), rfl, ?_, by omega, ?_, rfl, ?_, Or.inr ⟨?_, ?_⟩⟩
  · rcases hj with rfl | rfl | rfl | rfl <;> rfl
  · rcases hj with rfl | rfl | rfl | rfl | rfl <;> rfl
  · rw [bits]; exact hB.nm
  · rw [bits]; exact hB.tg
  · rw [e17 j (by omega)]; rfl
  · rw [e18 j (by omega), d18 j (by omega)]
  · exact hW.cong (fun j hj => ⟨rfl, rfl, by rw [e17 _ (by omega)]; rfl, by rw [e18 _ (by omega), d18 _ (by omega)], e103 _ (by omega)⟩) (fun j hj => by rw [p104 j (by omega)]; rfl)
  · unfold TrD
    rw [Nat.add_sub_cancel]
    refine Or.inr (Or.inr (Or.inl ⟨hs, rfl, ⟨e15N, ?_, ?_, v, hv, ?_⟩, x, ⟨e17N, ?_, trivial⟩, ?_⟩))
    · show srt ((fiM cb N m (mkW 11 v x 0) (sg (sg (ndM cb N (mkW 11 0 0 0) τ) 97 7 a) 97 7 b)) 103 (25 + cb + N)) = 11
      rw [eN, mk_srt (by omega) (by omega) (by omega) (by omega)]; rfl
    · show (fgC (cb + N) (nI v) (fiC (cb + N) (nI (cb + x)) γ)) 18 (cb + N) = nmb ((fiM cb N m (mkW 11 v x 0) (sg (sg (ndM cb N (mkW 11 0 0 0) τ) 97 7 a) 97 7 b)) 103 (25 + cb + N))
      rw [eN, e18N, mk_nmb (by omega) (by omega) (by omega) (by omega)]
    · show nmb ((fiM cb N m (mkW 11 v x 0) (sg (sg (ndM cb N (mkW 11 0 0 0) τ) 97 7 a) 97 7 b)) 103 (25 + cb + N)) = nI v
      rw [eN, mk_nmb (by omega) (by omega) (by omega) (by omega)]
    · show fst1 ((fiM cb N m (mkW 11 v x 0) (sg (sg (ndM cb N (mkW 11 0 0 0) τ) 97 7 a) 97 7 b)) 103 (25 + cb + N)) = nI x
      rw [eN, mk_fst (by omega) (by omega) (by omega) (by omega)]
    · have ht : Tr (γ 15) (γ 16) (γ 17) (γ 18) (fun j => τ 103 (25 + cb + j)) trT cb (N - 1 - s + 1) s (N - 1) x := h.tr
      rw [show N - 1 - s + 1 = N - s by omega] at ht
      exact ht.cong (fun j g1 g2 => ⟨e15 _ (by omega), rfl, e17 _ (by omega), e18 _ (by omega), (e103 _ (by omega)).trans (e103' _ (by omega))⟩)
  · unfold fiM; rw [kp_sg (by decide), kp_sg (by decide), sg_same]
  · unfold fiM; rw [kp_sg (by decide), sg_same]
  · rw [e15N]; decide
/-- a name is a leaf -/
theorem tr_name {kd lf rt nb w : Nat → Int32} {cb f lo hi i : Nat} (h : Tr kd lf rt nb w trT cb f lo hi i) (hk : kd (cb + i) = 97) : lo = i ∧ hi = i ∧ ndName kd nb w cb i := by
  cases f with
  | zero => exact h.elim
  | succ f =>
    rcases h with ⟨h1, h2, h3⟩ | ⟨h1, h2, h3, -⟩ | ⟨h1, h2, h3, -⟩ | ⟨h1, h2, h3, -⟩
    · rcases h3 with h3 | h3
      · exact absurd (hk.symm.trans h3.1) (by decide)
      · exact ⟨h1, h2, h3⟩
    · exfalso
      rcases h3 with h3 | h3 | h3
      · exact absurd (hk.symm.trans h3.1) (by decide)
      · exact absurd (hk.symm.trans h3.1) (by decide)
      · unfold ndTwo at h3
        rw [hk] at h3
        simp [twoN] at h3
    · exact absurd (hk.symm.trans h3.1) (by decide)
    · exfalso
      rcases h3 with h3 | h3
      · exact absurd (hk.symm.trans h3.1) (by decide)
      · rcases h3.1 with h4 | h4
        · exact absurd (hk.symm.trans h4.1) (by decide)
        · exact absurd (hk.symm.trans h4.1) (by decide)
/-- a name becomes : or ^ -/
def seC (i ln : Nat) (c v : Int32) (γ : yS) : yS := sg (sg γ 15 i c) 23 ln (γ 23 ln ||| (1 <<< (v &&& 31)))
def seM (cb m x : Nat) (W : Int32) (τ : yS) : yS := sg (sg τ 97 14 (nI m)) 103 (25 + cb + x) W
theorem ru_set {v : Nat} (h : RX cb N ln st s m x γ τ) (hn : nn st) (hq : q = 13 ∨ q = 14) (h97 : γ 15 (cb + x) = 97) (hv : v < 1024) (ev : nmb (τ 103 (25 + cb + x)) = nI v) : RU cb N ln ((q, x) :: st) m (plS st.length (nI (cb + x)) 1 (seC (cb + x) ln (nI (chS q)) (γ 18 (cb + x)) γ)) (psS st.length (nI q) (nI x) (seM cb m x (mkW q v 0 0) τ)) := by
  have hs := h.sN
  have hl := h.rb.l8
  have h60 := h.rb.n60
  obtain ⟨t1, t2, t3, t4, t5, t6⟩ := tr_name h.tr h97
  have t4' : srt (τ 103 (25 + cb + x)) = 1 := t4
  have t5' : γ 18 (cb + x) = nI v := t5.trans ev
  have hq16 : q < 16 := by omega
  have e103 : ∀ j, j ≠ 25 + cb + x → (seM cb m x (mkW q v 0 0) τ) 103 j = τ 103 j := fun j hj => by
    unfold seM; rw [sg_ne _ _ _ hj, kp_sg (by decide)]
  have eX : (seM cb m x (mkW q v 0 0) τ) 103 (25 + cb + x) = mkW q v 0 0 := by unfold seM; rw [sg_same]
  have hb1 : ∀ b, bitB b (mkW q v 0 0) = 1 <<< (nI v &&& 31) := fun b => by
    have := bit_mk (b := b) (q := q) (n := v) (f := 0) (g := 0) (by omega) (by omega) (by omega) (by omega)
    rw [if_pos (by omega)] at this
    exact this
  have hbt : bitB true (τ 103 (25 + cb + x)) = 1 <<< (nI v &&& 31) := by
    unfold bitB
    rw [t4', ev, if_pos (Or.inr (Or.inr ⟨rfl, rfl⟩))]
  have hbf : bitB false (τ 103 (25 + cb + x)) = 0 := by
    unfold bitB
    rw [t4', ev, if_neg (by decide)]
  have e15 : ∀ j, j ≠ cb + x → (seC (cb + x) ln (nI (chS q)) (γ 18 (cb + x)) γ) 15 j = γ 15 j := fun j hj => by
    unfold seC; rw [kp_sg (by decide), sg_ne _ _ _ hj]
  have hB : RB cb N ln st (seC (cb + x) ln (nI (chS q)) (γ 18 (cb + x)) γ) (seM cb m x (mkW q v 0 0) τ) := by
    refine h.rb.fr (fun j _ => rfl) rfl (fun j hj => ?_) rfl (fun j hj => e103 j (by omega)) ?_ ?_ (fun _ _ => ⟨rfl, rfl, rfl, rfl⟩) (fun j hj => ⟨e15 j (by omega), rfl, rfl, rfl, e103 _ (by omega)⟩) (fun k hk => ⟨rfl, rfl, rfl, rfl, ?_⟩)
    · rcases hj with rfl | rfl | rfl | rfl | rfl <;> rfl
    · show γ 22 ln = _
      rw [h.rb.nm]
      refine (bitR_same (fun i hi => ?_)).symm
      show bitB true ((seM cb m x (mkW q v 0 0) τ) 103 (25 + cb + i)) = bitB true (τ 103 (25 + cb + i))
      by_cases e : i = x
      · subst e; rw [eX, hb1, hbt]
      · rw [e103 _ (by omega)]
    · have : (seC (cb + x) ln (nI (chS q)) (γ 18 (cb + x)) γ) 23 ln = γ 23 ln ||| (1 <<< (nI v &&& 31)) := by
        unfold seC; rw [sg_same, t5']
      rw [this, h.rb.tg]
      refine (bitR_put (j := x) (w := fun j => τ 103 (25 + cb + j)) (w' := fun j => (seM cb m x (mkW q v 0 0) τ) 103 (25 + cb + j)) ?_ (fun i hi => e103 _ (by omega)) N 0 0 (by omega) (by omega)).symm
      show bitB false ((seM cb m x (mkW q v 0 0) τ) 103 (25 + cb + x)) = bitB false (τ 103 (25 + cb + x)) ||| _
      rw [eX, hb1, hbf, Int32.zero_or]
    · show (seC (cb + x) ln (nI (chS q)) (γ 18 (cb + x)) γ) 23 k = γ 23 k
      unfold seC; rw [sg_ne _ _ _ (by omega), kp_sg (by decide)]
  have hlv : (1 : Int32) = nI (lvS q) := by rcases hq with rfl | rfl <;> rfl
  refine ⟨rb_push (q := q) (p := x) hB (by omega) hlv rfl rfl, rfl, rfl, Or.inr (Or.inl ⟨by omega, by omega, ⟨?_, ?_, fun _ => ⟨?_, ?_⟩⟩, fun _ => hn, ?_⟩)⟩
  · show (seC (cb + x) ln (nI (chS q)) (γ 18 (cb + x)) γ) 15 (cb + x) = nI (chS q)
    unfold seC; rw [kp_sg (by decide), sg_same]
  · show srt ((seM cb m x (mkW q v 0 0) τ) 103 (25 + cb + x)) = nI q
    rw [eX, mk_srt hq16 hv (by omega) (by omega)]
  · show γ 18 (cb + x) = nmb ((seM cb m x (mkW q v 0 0) τ) 103 (25 + cb + x))
    rw [eX, mk_nmb hq16 hv (by omega) (by omega), t5']
  · show vp_in (nmb ((seM cb m x (mkW q v 0 0) τ) 103 (25 + cb + x))) 4
    rw [eX, mk_nmb hq16 hv (by omega) (by omega), ← ev]
    exact t6
  · have hw := h.ws
    rw [t1] at hw
    exact hw.cong (fun j hj => ⟨e15 _ (by omega), rfl, rfl, rfl, e103 _ (by omega)⟩) (fun _ _ => rfl)
/-- a ) -/
theorem rx_close {v : Int32} (h : RX cb N ln ((15, p) :: r) s m x γ τ) : RX cb N ln r s m x (sg (sg (sg γ 13 5 3) 13 3 (nI r.length)) 13 4 (nI (brk r))) (sg (sg (sg τ 97 17 (nI r.length)) 97 18 (nI (brk r))) 97 7 v) := by
  have hb := h.rb.b9
  have ebr : brk ((15, p) :: r) = 1 + brk r := rfl
  refine ⟨⟨rfl, rfl, h.rb.g6, h.rb.g7, h.rb.gl, h.rb.l8, by omega, h.rb.n60, h.rb.t8, h.rb.t10, h.rb.t11, rfl, rfl, h.rb.t0, h.rb.ev, h.rb.ev2, h.rb.nm, h.rb.tg, h.rb.sa.2.2.2.2.cong (fun _ _ => ⟨rfl, rfl, rfl, rfl⟩), h.rb.fl⟩, h.t14, ?_, h.sN, h.tr, h.g8, h.pt, h.nme⟩
  rcases h.ws with ⟨h1, h2⟩ | ⟨h1, -⟩ | ⟨h1, h2, -⟩
  · exact h2
  · omega
  · omega
/-- a sign of two parts -/
theorem ru_two {z : Nat} (h : RX cb N ln st s m x γ τ) (hn : nn st) (hz : 2 ≤ z ∧ z ≤ 10) (hN : cb + N < 60) : RU cb (N + 1) ln ((z, N) :: st) (m + 1) (plS st.length (nI (cb + N)) (nI (lvS z)) (sg (ndC (cb + N) (nI (chS z)) 0 (sg γ 13 5 3)) 16 (cb + N) (nI (cb + x)))) (psS st.length (nI z) (nI N) (ndM cb N (nI z) τ)) := by
  have hs := h.sN
  have hb0 : ∀ b, bitB b (nI z) = 0 := fun b => by
    have := bit_mk (b := b) (q := z) (n := 0) (f := 0) (g := 0) (by omega) (by omega) (by omega) (by omega)
    rw [if_neg (by omega)] at this
    exact this
  have hB := rb_new (kd := nI (chS z)) (nb := 0) (W := nI z) h.rb.d5 hN hb0 (γ := sg γ 13 5 3)
  have hW := ws_new (kd := nI (chS z)) (nb := 0) (W := nI z) (γ := sg γ 13 5 3) h.d5.ws (Nat.le_of_lt hs)
  have e16 : ∀ j, j ≠ cb + N → (sg (ndC (cb + N) (nI (chS z)) 0 (sg γ 13 5 3)) 16 (cb + N) (nI (cb + x))) 16 j = γ 16 j := fun j hj => by
    rw [sg_ne _ _ _ hj]; rfl
  have hB2 : RB cb (N + 1) ln st (sg (ndC (cb + N) (nI (chS z)) 0 (sg γ 13 5 3)) 16 (cb + N) (nI (cb + x))) (ndM cb N (nI z) τ) :=
    hB.fr (fun _ _ => rfl) rfl (fun _ _ => rfl) rfl (fun _ _ => rfl) hB.nm hB.tg (fun _ _ => ⟨rfl, rfl, rfl, rfl⟩) (fun j hj => ⟨rfl, by rw [e16 j (by omega)]; rfl, rfl, rfl, rfl⟩) (fun _ _ => ⟨rfl, rfl, rfl, rfl, rfl⟩)
  refine ⟨rb_push (q := z) (p := N) hB2 (by omega) rfl rfl rfl, rfl, h.t14, Or.inr (Or.inr ⟨hz.1, hz.2, rfl, ⟨?_, ?_, fun z' => by omega⟩, hn, s, x, hs, ?_, ?_, by omega, ?_, ?_⟩)⟩
  · show (ndC (cb + N) (nI (chS z)) 0 (sg γ 13 5 3)) 15 (cb + N) = nI (chS z)
    unfold ndC; rw [kp_sg (by decide), kp_sg (by decide), sg_same]
  · show srt ((ndM cb N (nI z) τ) 103 (25 + cb + N)) = nI z
    unfold ndM
    rw [kp_sg (by decide), sg_same]
    exact mk_srt (q := z) (n := 0) (f := 0) (g := 0) (by omega) (by omega) (by omega) (by omega)
  · have ht : Tr (γ 15) (γ 16) (γ 17) (γ 18) (fun j => τ 103 (25 + cb + j)) trT cb (N - 1 - s + 1) s (N - 1) x := h.tr
    refine ht.cong (fun j g1 g2 => ⟨?_, e16 _ (by omega), rfl, ?_, ?_⟩)
    · show (ndC (cb + N) (nI (chS z)) 0 (sg γ 13 5 3)) 15 (cb + j) = γ 15 (cb + j)
      unfold ndC; rw [kp_sg (by decide), kp_sg (by decide), sg_ne _ _ _ (by omega)]; rfl
    · show (ndC (cb + N) (nI (chS z)) 0 (sg γ 13 5 3)) 18 (cb + j) = γ 18 (cb + j)
      unfold ndC; rw [kp_sg (by decide), sg_ne _ _ _ (by omega)]; rfl
    · show (ndM cb N (nI z) τ) 103 (25 + cb + j) = τ 103 (25 + cb + j)
      unfold ndM; rw [kp_sg (by decide), sg_ne _ _ _ (by omega)]
  · show (sg (ndC (cb + N) (nI (chS z)) 0 (sg γ 13 5 3)) 16 (cb + N) (nI (cb + x))) 16 (cb + N) = nI (cb + x)
    rw [sg_same]
  · rw [Nat.add_sub_cancel]; exact h.pt
  · rw [Nat.add_sub_cancel]
    exact hW.cong (fun j hj => ⟨rfl, by rw [show (plS st.length (nI (cb + N)) (nI (lvS z)) (sg (ndC (cb + N) (nI (chS z)) 0 (sg γ 13 5 3)) 16 (cb + N) (nI (cb + x)))) 16 (cb + j) = (sg (ndC (cb + N) (nI (chS z)) 0 (sg γ 13 5 3)) 16 (cb + N) (nI (cb + x))) 16 (cb + j) from rfl, e16 _ (by omega)]; rfl, rfl, rfl, rfl⟩) (fun _ _ => rfl)
end ST2
