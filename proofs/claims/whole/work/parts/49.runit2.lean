theorem WS.pl {kd lf rt nb w pt : Nat → Int32} {cb : Nat} : ∀ {st : List (Nat × Nat)} {s m : Nat}, WS kd lf rt nb w pt cb st s m → ∀ e, e ∈ st → e.1 = 12 → e.2 < s
  | [], _, _, _, e, he, _ => by cases he
  | (q, p) :: r, s, m, h, e, he, e12 => by
    rcases List.mem_cons.mp he with rfl | he
    · rcases h with ⟨h1, -⟩ | ⟨h1, h2, -⟩ | ⟨h1, h2, h3, -⟩
      · exact absurd (h1.symm.trans e12) (by decide)
      · show p < s; omega
      · show p < s; omega
    · rcases h with ⟨h1, h2⟩ | ⟨h1, h2, h3, h4, h5⟩ | ⟨h1, h2, h3, h4, h5, b, l, h6, h7, h8, h9, h10, h11⟩
      · exact h2.pl e he e12
      · have := h5.pl e he e12; omega
      · have := h11.pl e he e12; omega
theorem WS.le {kd lf rt nb w pt : Nat → Int32} {cb : Nat} : ∀ {st : List (Nat × Nat)} {s m : Nat}, WS kd lf rt nb w pt cb st s m → ∀ e, e ∈ st → e.1 ≤ 15
  | [], _, _, _, e, he => by cases he
  | (q, p) :: r, s, m, h, e, he => by
    rcases List.mem_cons.mp he with rfl | he
    · have := h.srt
      show q ≤ 15; omega
    · rcases h with ⟨h1, h2⟩ | ⟨h1, h2, h3, h4, h5⟩ | ⟨h1, h2, h3, h4, h5, b, l, h6, h7, h8, h9, h10, h11⟩
      · exact h2.le e he
      · exact h5.le e he
      · exact h11.le e he
def bdU (d : Nat) (K : Int32 → yS → Prop) (x1 : Int32) (σ1 : yS) : Prop := ((¬ (x1 = 40) → ((¬ (x1 = 33) → yR d 80 0 [some (.int x1), some (.int 48), some (.int 57)] [] σ1 (qI (fun x2 σ2 => (((x2 = 0) → yR d 80 0 [some (.int x1), some (.int 97), some (.int 100)] [] σ2 (qI (fun x3 σ3 => yR d 97 0 [some (.ref 97), some (.int x3)] [] σ3 (qV (fun σ4 => ((¬ ((σ4 97 8) = (-1999999)) → K 1 σ4) ∧ (((σ4 97 8) = (-1999999)) → yR d 89 0 [some (.int 1), some (.int (x1 - 97)), some (.int 0), some (.int 0)] [] σ4 (qI (fun x5 σ5 => yR d 100 0 [some (.ref 97), some (.int x5)] [] σ5 (qI (fun x6 σ6 => yR d 101 0 [some (.ref 97), some (.int x6), some (.int 1)] [] σ6 (qV (fun σ7 => yR d 105 0 [some (.ref 97)] [] (sg σ7 97 7 ((σ7 97 7) + 1)) (qV (fun σ8 => K 1 σ8))))))))))))))) ∧ (¬ (x2 = 0) → yR d 107 0 [some (.ref 97), none, none, none] [] σ2 (qV (fun σ9 => K 1 σ9))))))) ∧ ((x1 = 33) → yR d 100 0 [some (.ref 97), some (.int 12)] [] σ1 (qI (fun x10 σ10 => yR d 102 0 [some (.ref 97), some (.int 12), some (.int x10)] [] σ10 (qV (fun σ11 => K 0 (sg σ11 97 7 ((σ11 97 7) + 1))))))))) ∧ ((x1 = 40) → (((9 ≤ (σ1 97 18)) → yR d 97 0 [some (.ref 97), some (.int 0)] [] σ1 (qV (fun σ12 => yR d 102 0 [some (.ref 97), some (.int 15), some (.int 0)] [] (sg σ12 97 18 ((σ12 97 18) + 1)) (qV (fun σ13 => K 0 (sg σ13 97 7 ((σ13 97 7) + 1))))))) ∧ (¬ (9 ≤ (σ1 97 18)) → yR d 97 0 [some (.ref 97), some (.int 1)] [] σ1 (qV (fun σ14 => yR d 102 0 [some (.ref 97), some (.int 15), some (.int 0)] [] (sg σ14 97 18 ((σ14 97 18) + 1)) (qV (fun σ15 => K 0 (sg σ15 97 7 ((σ15 97 7) + 1))))))))))
section UNIT2
variable {t : Nat → Int32} {len : Nat} {res : Int32 × yS} {d : Nat} {γ τ : yS} {KV : yS → Prop} {K : Int32 → yS → Prop} {cb N ln s m x k : Nat} {st : List (Nat × Nat)}
theorem sm_closeF {L m p : Nat} (h17 : τ 97 17 = nI (L + 1)) (h14 : τ 97 14 = nI (m + 1)) (hL : L < 80) (hm : m < 62) (hq : τ 106 L = nI 12) (hp : τ 107 L = nI p) (h10 : τ 97 10 = nI cb) (hc : cb + p < 60) (hK : ∀ τ' W, CLs cb τ τ' L m p W → KV τ') : yR (d + 1 + 1) 104 0 [some (.ref 97), none, none, none] [] τ (qV KV) := by
  have e1 : nI (L + 1) - 1 = nI L := pk_sub (a := L + 1) (b := 1) (by omega)
  have e2 : nI (m + 1) - 1 = nI m := pk_sub (a := m + 1) (b := 1) (by omega)
  have e25 : (25 : Int32) + nI cb + nI p = nI (25 + cb + p) := by
    rw [show (25 : Int32) = nI 25 from rfl, nI_add, nI_add]
  refine w_104_0 ?_
  rw [h17, e1, nI_clamp (by omega), hq, hp, h10, e25, h14, e2]
  refine ⟨vp_in_nI hL (by decide), w_90_0 (sm_in (fun _ z => absurd z (by decide)) (fun _ => ⟨yB0, br_f2 ?_⟩))⟩
  rw [nI_clamp (by omega)]
  refine ⟨vp_in_nI (by omega) (by decide), w_86_0 ?_⟩
  have a14 : (sg (sg τ 97 17 (nI L)) 97 14 (nI m)) 97 14 = nI m := sg_same _ _ _ _
  rw [a14, nI_clamp (by omega)]
  refine ⟨vp_in_nI (by omega) (by decide), w_89_0 (w_101_0 ?_)⟩
  have b14 : ∀ W : Int32, (sg (sg (sg τ 97 17 (nI L)) 97 14 (nI m)) 103 (25 + cb + p) W) 97 14 = nI m := fun W => rfl
  rw [b14, nI_clamp (by omega), nI_1]
  refine ⟨vp_in_nI (by omega) (by decide), yB0, ?_⟩
  refine hK _ _ (cls_mk rfl ⟨fun c hc => ?_, fun j j1 j2 => ?_, ?_, ?_⟩)
  · rw [kp_sg hc, kp_sg hc]
  · rw [sg_ne _ _ _ j1, sg_ne _ _ _ j2]
  · rw [sg_ne _ _ _ (by decide), sg_same]
  · exact sg_same _ _ _ _
theorem sm_notsF (hm : m < 62) : ∀ (st : List (Nat × Nat)) (τ : yS), τ 97 17 = nI st.length → SA cb γ τ st → (∀ e, e ∈ st → e.1 ≤ 15) → (∀ e, e ∈ st → e.1 = 12 → cb + e.2 < 60) → st.length < 80 → τ 97 14 = nI (m + 1) → τ 97 10 = nI cb → (∀ τ', FD τ τ' → KV τ') → yR (d + 3) 105 0 [some (.ref 97)] [] τ (qV KV) := by
  intro st
  induction st with
  | nil =>
    intro τ h17 hs hq hp hl h14 h10 hK
    refine w_105_0 (sm_top h17 hs hl (fun _ => ⟨fun _ => hK τ FD.rf, fun z => absurd z (by decide)⟩) (fun q p r e => ?_))
    cases e
  | cons e r ih =>
    obtain ⟨q, p⟩ := e
    intro τ h17 hs hq hp hl h14 h10 hK
    have hl' : r.length + 1 < 80 := hl
    have hq15 : q ≤ 15 := hq (q, p) List.mem_cons_self
    refine w_105_0 (sm_top h17 hs hl (fun e => by cases e) (fun q' p' r' e => ?_))
    cases e
    by_cases e : q = 12
    · subst e
      refine ⟨fun z => absurd rfl z, fun _ => sm_closeF h17 h14 (by omega) hm hs.2.2.1 (hs.2.2.2.1 (by decide)) h10 (hp (12, p) List.mem_cons_self rfl) (fun τ' W c => ih τ' c.2.1 (hs.2.2.2.2.cong (fun j hj => ⟨rfl, rfl, ?_, ?_⟩)) (fun e he => hq e (List.mem_cons_of_mem _ he)) (fun e he => hp e (List.mem_cons_of_mem _ he)) (by omega) c.2.2.1 (by rw [c.1.2 10 (by decide) (by decide)]; exact h10) (fun τ'' hF => hK τ'' (c.1.tr hF)))⟩
      · rw [c.1.1 106 (by decide) (by decide) (by decide) (by decide)]
      · rw [c.1.1 107 (by decide) (by decide) (by decide) (by decide)]
    · exact ⟨fun _ => hK τ FD.rf, fun z => absurd ((nI_eq (a := q) (b := 12) (by omega) (by omega)).mp z) e⟩
theorem ndM_7 {W b : Int32} : sg (ndM cb N W τ) 97 7 b = ndM cb N W (sg τ 97 7 b) := by
  unfold ndM
  rw [sg_comm (a := 97) (i := 11) (b := 97) (j := 7) (by omega), sg_comm (a := 103) (b := 97) (by omega)]
/-- the class's ways with a unit -/
theorem un_main (h5 : γ 13 5 = 1) {c : Int32} : mainC c γ = unitC c γ := by
  unfold mainC
  rw [h5, ifF (by decide), ifT rfl]
theorem un_num {g : Nat} (h6 : γ 13 6 = nI (cb + N)) (hN : cb + N < 60) (hg : g ≤ 9) : unitC (nI (48 + g)) γ = (true, jnC 8 69 (nuC (cb + N) g 1 γ)) := by
  have hf : figC (nI (48 + g)) = true := fig_t (nI_le (a := 48) (by omega) (by omega)) (nI_le (b := 57) (by omega) (by omega))
  have e : nI (48 + g) - 48 = nI g := by
    have : nI (48 + g) - nI 48 = nI (48 + g - 48) := pk_sub (by omega)
    rw [show 48 + g - 48 = g by omega] at this
    exact this
  unfold unitC lefC
  rw [ifT hf, e, h6, ifT (inNt (vp_in_nI hN (by decide))), ifT rfl, nw_eq h6 hN]
  rfl
theorem un_name {v : Nat} (h6 : γ 13 6 = nI (cb + N)) (hN : cb + N < 60) (hl : γ 14 10 = nI ln) (l8 : ln < 8) (hv : v < 4) : unitC (nI (97 + v)) γ = (true, jnC 8 69 (naC (cb + N) ln (nI v) γ)) := by
  have hf : figC (nI (97 + v)) = false := fig_f (Or.inr (nI_lt (a := 57) (by omega) (by omega)))
  have e : nI (97 + v) - 97 = nI v := by
    have : nI (97 + v) - nI 97 = nI (97 + v - 97) := pk_sub (by omega)
    rw [show 97 + v - 97 = v by omega] at this
    exact this
  have e14 : (ndC (cb + N) 97 (nI v) γ) 14 10 = nI ln := hl
  unfold unitC lefC
  rw [ifF (by rw [hf]; decide), e, ifT ⟨nI_nlt (a := 97 + v) (b := 97) (by omega) (by omega), inNt (vp_in_nI hv (by decide))⟩, h6, ifT (inNt (vp_in_nI hN (by decide))), ifF (by decide), nw_eq h6 hN]
  unfold noteC
  rw [e14, ifT (inNt (vp_in_nI l8 (by decide))), nI_clamp (by omega)]
  rfl
theorem un_full {c : Int32} (h6 : γ 13 6 = nI 60) (h40 : ¬ c = 40) : (unitC c γ).1 = false := by
  have hn : ¬ inN (nI 60) 60 = true := by decide
  unfold unitC lefC
  rw [h6, ifF hn, ifF hn, ifF hn, ifF h40]
  split
  · rfl
  · split
    · rfl
    · split <;> rfl
theorem un_bad {c : Int32} (h1 : ¬ c = 40) (h2 : ¬ c = 33) (h3 : figC c = false) (h4 : c < 97 ∨ 100 < c) : (unitC c γ).1 = false := by
  have h5 : ¬ (¬ c < 97 ∧ inN (c - 97) 4 = true) := by
    rintro ⟨z1, z2⟩
    rcases h4 with z | z
    · exact z1 z
    · obtain ⟨j, hj, ej⟩ := vp_in_of (inN_t.mp z2) (by decide)
      have : c = nI (97 + j) := by
        have e : c = (c - 97) + 97 := by rw [Int32.sub_add_cancel]
        rw [e, ej, Int32.add_comm]
        exact nI_add 97 j
      rw [this] at z
      exact nI_nlt (a := 100) (b := 97 + j) (by omega) (by omega) z
  unfold unitC
  rw [ifF (by rw [h3]; decide), ifF h5, ifF h2, ifF h1]
theorem name_of {c : Int32} (h1 : (97 : Int32) ≤ c) (h2 : c ≤ 100) : ∃ v : Nat, v < 4 ∧ c = nI (97 + v) := by
  have z97 : (97 : Int32).toInt = 97 := by decide
  have z100 : (100 : Int32).toInt = 100 := by decide
  rw [Int32.le_iff_toInt_le] at h1 h2
  refine ⟨(c.toInt - 97).toNat, by omega, Int32.toInt_inj.mp ?_⟩
  rw [nI_toInt (by omega)]
  omega
theorem ft_here {a : Nat} (hS : SK t len res k γ) (hm : (mainC (t k) γ).1 = false) (h8 : τ 97 8 = nI k) (h7 : τ 97 7 = nI a) (ha : a ≤ len) : FT len res τ := ⟨k, a, by have := hS.1; omega, hS.no hm, h8, ha, h7⟩
end UNIT2
