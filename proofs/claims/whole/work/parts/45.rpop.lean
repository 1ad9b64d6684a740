/-! ONE CLOSING: join's turn in the class, close in the reference -/
section POP2
variable {d : Nat} {γ τ : yS} {KV : yS → Prop} {K : Int32 → yS → Prop} {cb N ln s m x q p : Nat} {st r : List (Nat × Nat)}
theorem nmb_ex (w : Int32) : ∃ v : Nat, v < 1024 ∧ nmb w = nI v := by
  obtain ⟨j, hj, e⟩ := pk_andE (w >>> (4 &&& 31)) (m := 1023) 10 (by decide)
  exact ⟨j, by omega, e⟩
theorem pop_eq (h : RX cb N ln ((q, p) :: r) s m x γ τ) (hq : q ≠ 15) (hs : s = p + 1) : popC γ = sg (sg (sg γ 13 3 (nI r.length)) 17 (cb + p) (nI (cb + x))) 13 8 (nI (cb + p)) := by
  have hN := h.sN
  have h60 := h.rb.n60
  have hb := h.ws.bd
  have hl : r.length + 1 ≤ s + brk ((q, p) :: r) := hb.2
  have hb9 := h.rb.b9
  have e3 : γ 13 3 = nI (r.length + 1) := h.rb.g3
  have e1 : nI (r.length + 1) - 1 = nI r.length := pk_sub (a := r.length + 1) (b := 1) (by omega)
  have e25 : γ 25 r.length = nI (cb + p) := by
    have := h.rb.sa.2.1
    rw [if_neg hq] at this
    exact this
  unfold popC
  rw [e3, e1, nI_clamp (by omega), e25, if_pos (inNt (vp_in_nI (by omega) (by decide))), nI_clamp (by omega)]
  have e8 : (sg γ 13 3 (nI r.length)) 13 8 = nI (cb + x) := h.g8
  rw [e8]
theorem rx_cl {s' m' : Nat} {τ' : yS} {W : Int32} (h : RX cb N ln ((q, p) :: r) s m x γ τ) (hq : q ≠ 15) (hs : s = p + 1) (hW : ∀ b, bitB b W = bitB b (τ 103 (25 + cb + p))) (c : CLs cb τ τ' r.length m' p W) (hws : WS (γ 15) (γ 16) (γ 17) (γ 18) (fun j => τ 103 (25 + cb + j)) (τ 104) cb r s' m') (hs' : s' ≤ p) (hkd : γ 15 (cb + p) ≠ 97)
    (htr : TrD (γ 15) (γ 16) ((sg γ 17 (cb + p) (nI (cb + x))) 17) (γ 18) (fun j => τ' 103 (25 + cb + j)) cb s' (N - 1) p) : RX cb N ln r s' m' p (popC γ) τ' := by
  have hN := h.sN
  obtain ⟨cF, c17, c14, c103, c103', c104, c104', c105⟩ := c
  have ebr : brk ((q, p) :: r) = brk r := by
    show (if q = 15 then 1 else 0) + brk r = brk r
    rw [if_neg hq]; omega
  have ew : ∀ j, j ≠ p → τ' 103 (25 + cb + j) = τ 103 (25 + cb + j) := fun j hj => c103 _ (by omega)
  have hbit : ∀ b, bitR b (fun j => τ' 103 (25 + cb + j)) N 0 0 = bitR b (fun j => τ 103 (25 + cb + j)) N 0 0 := fun b => bitR_same (fun i hi => by
    show bitB b (τ' 103 (25 + cb + i)) = bitB b (τ 103 (25 + cb + i))
    by_cases e : i = p
    · subst e; rw [c103']; exact hW b
    · rw [ew i e])
  have k17 : ∀ j, j ≠ cb + p → (popC γ) 17 j = γ 17 j := fun j hj => by
    rw [pop_eq h hq hs, kp_sg (by decide), sg_ne _ _ _ hj, kp_sg (by decide)]
  have kk : ∀ c, c ≠ 13 → c ≠ 17 → (popC γ) c = γ c := fun c h1 h2 => by
    rw [pop_eq h hq hs, kp_sg h1, kp_sg h2, kp_sg h1]
  have k13 : ∀ j, j ≠ 3 → j ≠ 8 → (popC γ) 13 j = γ 13 j := fun j h1 h2 => by
    rw [pop_eq h hq hs, sg_ne _ _ _ h2, kp_sg (by decide), sg_ne _ _ _ h1]
  have p17 : (popC γ) 17 = (sg γ 17 (cb + p) (nI (cb + x))) 17 := by
    rw [pop_eq h hq hs, kp_sg (by decide)]
    funext j
    by_cases e : j = cb + p
    · subst e; rw [sg_same, sg_same]
    · rw [sg_ne _ _ _ e, sg_ne _ _ _ e, kp_sg (by decide)]
  have kp6 : ∀ c, c ≠ 97 → c ≠ 103 → c ≠ 104 → c ≠ 105 → τ' c = τ c := cF.1
  refine ⟨⟨?_, ?_, ?_, ?_, ?_, h.rb.l8, ?_, h.rb.n60, ?_, ?_, ?_, c17, ?_, ?_, ?_, ?_, ?_, ?_, ?_, ?_⟩, c14, ?_, by omega, ?_, ?_, c104', ?_⟩
  · rw [pop_eq h hq hs, sg_ne _ _ _ (by decide), kp_sg (by decide), sg_same]
  · rw [k13 4 (by decide) (by decide), h.rb.g4, ebr]
  · rw [k13 6 (by decide) (by decide)]; exact h.rb.g6
  · rw [k13 7 (by decide) (by decide)]; exact h.rb.g7
  · rw [kk 14 (by decide) (by decide)]; exact h.rb.gl
  · rw [← ebr]; exact h.rb.b9
  · rw [cF.2 8 (by decide) (by decide)]; exact h.rb.t8
  · rw [cF.2 10 (by decide) (by decide)]; exact h.rb.t10
  · rw [cF.2 11 (by decide) (by decide)]; exact h.rb.t11
  · rw [cF.2 18 (by decide) (by decide), ← ebr]; exact h.rb.t18
  · rw [c103 0 (by omega)]; exact h.rb.t0
  · rw [kk 20 (by decide) (by decide), c103 _ (by have := h.rb.l8; omega)]; exact h.rb.ev
  · rw [kk 20 (by decide) (by decide)]; exact h.rb.ev2
  · rw [kk 22 (by decide) (by decide), hbit]; exact h.rb.nm
  · rw [kk 23 (by decide) (by decide), hbit]; exact h.rb.tg
  · exact h.rb.sa.2.2.2.2.cong (fun j hj => by rw [kk 25 (by decide) (by decide), kk 26 (by decide) (by decide), kp6 106 (by decide) (by decide) (by decide) (by decide), kp6 107 (by decide) (by decide) (by decide) (by decide)]; exact ⟨rfl, rfl, rfl, rfl⟩)
  · refine h.rb.fl.cong (by have := h.rb.n60; omega) (fun j hj => ?_) (fun k hk => ?_)
    · rw [kk 15 (by decide) (by decide), kk 16 (by decide) (by decide), k17 j (by omega), kk 18 (by decide) (by decide), c103 _ (by omega)]
      exact ⟨rfl, rfl, rfl, rfl, rfl⟩
    · have := h.rb.l8
      rw [kk 19 (by decide) (by decide), kk 20 (by decide) (by decide), kk 21 (by decide) (by decide), kk 22 (by decide) (by decide), kk 23 (by decide) (by decide), c103 _ (by omega), c103 _ (by omega), c103 _ (by omega)]
      exact ⟨rfl, rfl, rfl, rfl, rfl, rfl, rfl, rfl⟩
  · rw [kk 15 (by decide) (by decide), kk 16 (by decide) (by decide), kk 18 (by decide) (by decide)]
    exact hws.cong (fun j hj => ⟨rfl, rfl, k17 _ (by omega), rfl, ew j (by omega)⟩) (fun j hj => c104 j (by omega))
  · rw [kk 15 (by decide) (by decide), kk 16 (by decide) (by decide), kk 18 (by decide) (by decide), p17]
    exact htr
  · rw [pop_eq h hq hs, sg_same]
  · rw [kk 15 (by decide) (by decide)]
    exact Or.inr ⟨c105, hkd⟩
theorem two_kind {k z : Int32} (h2 : 2 ≤ q) (h10 : q ≤ 10) (hk : k = nI (chS q)) (hz : z = nI q) : (k = 124 ∧ z = 3) ∨ (k = 126 ∧ z = 7) ∨ (k, z) ∈ twoN := by
  have : q = 2 ∨ q = 3 ∨ q = 4 ∨ q = 5 ∨ q = 6 ∨ q = 7 ∨ q = 8 ∨ q = 9 ∨ q = 10 := by omega
  subst hk; subst hz
  rcases this with rfl | rfl | rfl | rfl | rfl | rfl | rfl | rfl | rfl <;> decide
theorem ch_ne (h : (2 ≤ q ∧ q ≤ 10) ∨ q = 12 ∨ q = 13 ∨ q = 14) : nI (chS q) ≠ 97 := by
  have : q = 2 ∨ q = 3 ∨ q = 4 ∨ q = 5 ∨ q = 6 ∨ q = 7 ∨ q = 8 ∨ q = 9 ∨ q = 10 ∨ q = 12 ∨ q = 13 ∨ q = 14 := by omega
  rcases this with rfl | rfl | rfl | rfl | rfl | rfl | rfl | rfl | rfl | rfl | rfl | rfl <;> decide
theorem sm_pop (h : RX cb N ln ((q, p) :: r) s m x γ τ) (hq : q ≠ 15) (hK : ∀ τ' s' m', RX cb N ln r s' m' p (popC γ) τ' → FD τ τ' → (q ≠ 12 → nn r) → KV τ') : yR (d + 2) 104 0 [some (.ref 97), none, none, none] [] τ (qV KV) := by
  have hN := h.sN
  have h60 := h.rb.n60
  have hb := h.ws.bd
  have hl : r.length + 1 ≤ s + brk ((q, p) :: r) := hb.2
  have hb9 := h.rb.b9
  have hx := Tr.bd h.tr
  have s106 := h.rb.sa.2.2.1
  have s107 := h.rb.sa.2.2.2.1 hq
  have h17 : τ 97 17 = nI (r.length + 1) := h.rb.t17
  rcases h.ws with ⟨h1, -⟩ | ⟨h1, h2, h3, h4, h5⟩ | ⟨h1, h2, h3, h4, h5, b, l, h6, h7, h8, h9, h10, h11⟩
  · exact absurd h1 hq
  · obtain ⟨v, hv, ev⟩ := nmb_ex (τ 103 (25 + cb + p))
    refine sm_close1 (cb := cb) h17 h.t14 (by omega) (by omega) s106 s107 (by omega) (by omega) h.rb.t10 (by omega) ev h.pt hv (by omega) (fun τ' c => ?_)
    obtain ⟨k1, k2, k3⟩ := h3
    have c103' := c.2.2.2.2.1
    have c103 := c.2.2.2.1
    have hsrt : srt (mkW q v x 0) = nI q := mk_srt (by omega) hv (by omega) (by omega)
    have hnmb : nmb (mkW q v x 0) = nI v := mk_nmb (by omega) hv (by omega) (by omega)
    have hfst : fst1 (mkW q v x 0) = nI x := mk_fst (by omega) hv (by omega) (by omega)
    refine hK τ' p m (rx_cl h hq h2 (fun b => ?_) c h5 (Nat.le_refl _) (by rw [k1]; exact ch_ne (by omega)) ?_) c.1 h4
    · unfold bitB
      rw [hsrt, hnmb, show srt (τ 103 (25 + cb + p)) = nI q from k2, ev]
    · unfold TrD
      refine Or.inr (Or.inr (Or.inr ⟨rfl, by omega, ?_, x, ⟨sg_same _ _ _ _, ?_, trivial⟩, ?_⟩))
      · rcases h1 with rfl | h1
        · refine Or.inl ⟨k1, ?_⟩
          show srt (τ' 103 (25 + cb + p)) = 12
          rw [c103', hsrt]; rfl
        · obtain ⟨n1, n2⟩ := k3 h1
          refine Or.inr ⟨?_, ?_, ?_⟩
          · show (γ 15 (cb + p) = 58 ∧ srt (τ' 103 (25 + cb + p)) = 13) ∨ (γ 15 (cb + p) = 94 ∧ srt (τ' 103 (25 + cb + p)) = 14)
            rw [c103', hsrt, k1]
            rcases h1 with rfl | rfl
            · exact Or.inl ⟨rfl, rfl⟩
            · exact Or.inr ⟨rfl, rfl⟩
          · show γ 18 (cb + p) = nmb (τ' 103 (25 + cb + p))
            rw [c103', hnmb, n1]; exact ev
          · show vp_in (nmb (τ' 103 (25 + cb + p))) 4
            rw [c103', hnmb, ← ev]; exact n2
      · show fst1 (τ' 103 (25 + cb + p)) = nI x
        rw [c103', hfst]
      · have ht : Tr (γ 15) (γ 16) (γ 17) (γ 18) (fun j => τ 103 (25 + cb + j)) trT cb (N - 1 - s + 1) s (N - 1) x := h.tr
        rw [show N - 1 - s + 1 = N - 1 - p by omega, h2] at ht
        exact ht.cong (fun j g1 g2 => ⟨rfl, rfl, sg_ne _ _ _ (by omega), rfl, c103 _ (by omega)⟩)
  · obtain ⟨m1, rfl⟩ : ∃ m1, m = m1 + 1 := ⟨m - 1, by omega⟩
    rw [Nat.add_sub_cancel] at h10 h11
    have hl2 := Tr.bd h7
    refine sm_close2 (cb := cb) h17 h.t14 (by omega) (by omega) s106 s107 h1 h2 h.rb.t10 (by omega) h10 h.pt (by omega) (by omega) (fun τ' c => ?_)
    obtain ⟨k1, k2, k3⟩ := h4
    have c103' := c.2.2.2.2.1
    have c103 := c.2.2.2.1
    have hsrt : srt (mkW q 0 l x) = nI q := mk_srt (by omega) (by omega) (by omega) (by omega)
    have hfst : fst1 (mkW q 0 l x) = nI l := mk_fst (by omega) (by omega) (by omega) (by omega)
    have hsnd : snd1 (mkW q 0 l x) = nI x := mk_snd (by omega) (by omega) (by omega) (by omega)
    have k2' : srt (τ 103 (25 + cb + p)) = nI q := k2
    refine hK τ' b m1 (rx_cl h hq h3 (fun bb => ?_) c h11 (by omega) (by rw [k1]; exact ch_ne (by omega)) ?_) c.1 (fun _ => h5)
    · have no : ¬ (nI q = 13 ∨ nI q = 14 ∨ (bb = true ∧ nI q = 1)) := by
        rintro (z | z | z)
        · exact absurd ((nI_eq (a := q) (b := 13) (by omega) (by omega)).mp z) (by omega)
        · exact absurd ((nI_eq (a := q) (b := 14) (by omega) (by omega)).mp z) (by omega)
        · exact absurd ((nI_eq (a := q) (b := 1) (by omega) (by omega)).mp z.2) (by omega)
      unfold bitB
      rw [hsrt, k2', if_neg no, if_neg no]
    · unfold TrD
      refine Or.inr (Or.inl ⟨h6, by omega, ?_, l, x, ⟨h8, ?_, trivial⟩, ⟨sg_same _ _ _ _, ?_, trivial⟩, ?_, ?_⟩)
      · have := two_kind (q := q) (k := γ 15 (cb + p)) (z := srt (τ' 103 (25 + cb + p))) h1 h2 k1 (by rw [c103', hsrt])
        exact this
      · show fst1 (τ' 103 (25 + cb + p)) = nI l
        rw [c103', hfst]
      · show snd1 (τ' 103 (25 + cb + p)) = nI x
        rw [c103', hsnd]
      · have ht : Tr (γ 15) (γ 16) (γ 17) (γ 18) (fun j => τ 103 (25 + cb + j)) trT cb (p - 1 - b + 1) b (p - 1) l := h7
        exact (ht.up (N - 1 - b) (by omega)).cong (fun j g1 g2 => ⟨rfl, rfl, sg_ne _ _ _ (by omega), rfl, c103 _ (by omega)⟩)
      · have ht : Tr (γ 15) (γ 16) (γ 17) (γ 18) (fun j => τ 103 (25 + cb + j)) trT cb (N - 1 - s + 1) s (N - 1) x := h.tr
        rw [h3] at ht
        exact (ht.up (N - 1 - b) (by omega)).cong (fun j g1 g2 => ⟨rfl, rfl, sg_ne _ _ _ (by omega), rfl, c103 _ (by omega)⟩)
/-- the class's join, one turn -/
theorem jn_stop {lv : Int32} {f : Nat} (h : st = [] ∨ ∃ q p r, st = (q, p) :: r ∧ nI (lvS q) < lv) (hr : RX cb N ln st s m x γ τ) : jnC lv f γ = sg γ 13 5 3 := by
  cases f with
  | zero => rfl
  | succ f =>
    unfold jnC
    rcases h with rfl | ⟨q, p, r, rfl, h⟩
    · rw [if_pos (Or.inl (by rw [hr.rb.g3]; decide))]
    · have e3 : γ 13 3 = nI (r.length + 1) := hr.rb.g3
      have hb := hr.ws.bd
      have hl : r.length + 1 ≤ s + brk ((q, p) :: r) := hb.2
      have hb9 := hr.rb.b9
      have hN := hr.sN
      have h60 := hr.rb.n60
      have e1 : nI (r.length + 1) - 1 = nI r.length := pk_sub (a := r.length + 1) (b := 1) (by omega)
      rw [if_pos (Or.inr (Or.inr (by rw [e3, e1, nI_clamp (by omega), hr.rb.sa.1]; exact h)))]
theorem jn_go {lv : Int32} {f : Nat} (hr : RX cb N ln ((q, p) :: r) s m x γ τ) (h : ¬ nI (lvS q) < lv) : jnC lv (f + 1) γ = jnC lv f (popC γ) := by
  have e3 : γ 13 3 = nI (r.length + 1) := hr.rb.g3
  have hb := hr.ws.bd
  have hl : r.length + 1 ≤ s + brk ((q, p) :: r) := hb.2
  have hb9 := hr.rb.b9
  have hN := hr.sN
  have h60 := hr.rb.n60
  have e1 : nI (r.length + 1) - 1 = nI r.length := pk_sub (a := r.length + 1) (b := 1) (by omega)
  conv => lhs; unfold jnC
  rw [if_neg]
  rw [e3, e1, nI_clamp (by omega), hr.rb.sa.1]
  rintro (z | z | z)
  · exact nI_ge (a := 0) (b := r.length + 1) (by omega) (by omega) z
  · exact absurd ((nI_ltI (a := 69) (b := r.length + 1) (by omega) (by omega)).mp z) (by omega)
  · exact h z
end POP2
