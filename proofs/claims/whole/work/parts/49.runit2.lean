theorem WS.pl {kd lf rt nb w pt : Nat → Int32} {cb : Nat} : ∀ {st : List (Nat × Nat)} {s m : Nat}, WS kd lf rt nb w pt cb st s m → ∀ e, e ∈ st → e.1 = 12 → e.2 < s
  | [], _, _, _, e, he, _ => by cases he
  | (q, p) :: r, s, m, h, e, he, e12 => by
    rcases List.mem_cons.mp he with rfl | he
    · rcases h with ⟨h1, -⟩ | ⟨h1, h2, -⟩ | ⟨h1, h2, h3, -⟩
      · exact absurd (h1.symm.trans e12) (by decide)
      · show p < s; omega
      · show p < s; omega
    · rcases h with ⟨h1, h2⟩ | ⟨h1, h2, h3, h4, h5⟩ | ⟨h1, h2, h3, h4, h5, b, l, h6, h7, h8, h9, h10, h11⟩
      · exact h2.pl e he e12
      · have := h5.pl e he e12; omega
      · have := h11.pl e he e12; omega
section UNIT2
variable {t : Nat → Int32} {len : Nat} {res : Int32 × yS} {d : Nat} {γ τ : yS} {KV : yS → Prop} {K : Int32 → yS → Prop} {cb N ln s m x k : Nat} {st : List (Nat × Nat)}
theorem sm_closeF {L m p : Nat} (h17 : τ 97 17 = nI (L + 1)) (h14 : τ 97 14 = nI (m + 1)) (hL : L < 80) (hm : m < 62) (hq : τ 106 L = nI 12) (hp : τ 107 L = nI p) (h10 : τ 97 10 = nI cb) (hc : cb + p < 60) (hK : ∀ τ' W, CLs cb τ τ' L m p W → KV τ') : yR (d + 1 + 1) 104 0 [some (.ref 97), none, none, none] [] τ (qV KV) := by
  have e1 : nI (L + 1) - 1 = nI L := pk_sub (a := L + 1) (b := 1) (by omega)
  have e2 : nI (m + 1) - 1 = nI m := pk_sub (a := m + 1) (b := 1) (by omega)
  have e25 : (25 : Int32) + nI cb + nI p = nI (25 + cb + p) := by
    rw [show (25 : Int32) = nI 25 from rfl, nI_add, nI_add]
  refine w_104_0 ?_
  rw [h17, e1, nI_clamp (by omega), hq, hp, h10, e25, h14, e2]
  refine ⟨vp_in_nI hL (by decide), w_90_0 (sm_in (fun _ z => absurd z (by decide)) (fun _ => ⟨yB0, br_f2 ?_⟩))⟩
  rw [nI_clamp (by omega)]
  refine ⟨vp_in_nI (by omega) (by decide), w_86_0 ?_⟩
  have a14 : (sg (sg τ 97 17 (nI L)) 97 14 (nI m)) 97 14 = nI m := sg_same _ _ _ _
  rw [a14, nI_clamp (by omega)]
  refine ⟨vp_in_nI (by omega) (by decide), w_89_0 (w_101_0 ?_)⟩
  have b14 : ∀ W : Int32, (sg (sg (sg τ 97 17 (nI L)) 97 14 (nI m)) 103 (25 + cb + p) W) 97 14 = nI m := fun W => rfl
  rw [b14, nI_clamp (by omega), nI_1]
  refine ⟨vp_in_nI (by omega) (by decide), yB0, ?_⟩
  refine hK _ _ (cls_mk rfl ⟨fun c hc => ?_, fun j j1 j2 => ?_, ?_, ?_⟩)
  · rw [kp_sg hc, kp_sg hc]
  · rw [sg_ne _ _ _ j1, sg_ne _ _ _ j2]
  · rw [sg_ne _ _ _ (by decide), sg_same]
  · exact sg_same _ _ _ _
theorem sm_notsF (hm : m < 62) : ∀ (st : List (Nat × Nat)) (τ : yS), τ 97 17 = nI st.length → SA cb γ τ st → (∀ e, e ∈ st → e.1 = 12 → cb + e.2 < 60) → st.length < 80 → τ 97 14 = nI (m + 1) → τ 97 10 = nI cb → (∀ τ', FD τ τ' → KV τ') → yR (d + 3) 105 0 [some (.ref 97)] [] τ (qV KV) := by
  intro st
  induction st with
  | nil =>
    intro τ h17 hs hp hl h14 h10 hK
    refine w_105_0 (sm_top h17 hs hl (fun _ => ⟨fun _ => hK τ FD.rf, fun z => absurd z (by decide)⟩) (fun q p r e => ?_))
    cases e
  | cons e r ih =>
    obtain ⟨q, p⟩ := e
    intro τ h17 hs hp hl h14 h10 hK
    have hl' : r.length + 1 < 80 := hl
    refine w_105_0 (sm_top h17 hs hl (fun e => by cases e) (fun q' p' r' e => ?_))
    cases e
    by_cases e : q = 12
    · subst e
      refine ⟨fun z => absurd rfl z, fun _ => sm_closeF h17 h14 (by omega) hm hs.2.2.1 (hs.2.2.2.1 (by decide)) h10 (hp (12, p) List.mem_cons_self rfl) (fun τ' W c => ih τ' c.2.1 (hs.2.2.2.2.cong (fun j hj => ⟨rfl, rfl, ?_, ?_⟩)) (fun e he => hp e (List.mem_cons_of_mem _ he)) (by omega) c.2.2.1 (by rw [c.1.2 10 (by decide) (by decide)]; exact h10) (fun τ'' hF => hK τ'' (c.1.tr hF)))⟩
      · rw [c.1.1 106 (by decide) (by decide) (by decide) (by decide)]
      · rw [c.1.1 107 (by decide) (by decide) (by decide) (by decide)]
    · refine ⟨fun _ => hK τ FD.rf, fun z => ?_⟩

      exfalso
      have hb : q < 2 ^ 31 ∨ 2 ^ 31 ≤ q := by omega
      rcases hb with hb | hb
      · exact e ((nI_eq (a := q) (b := 12) hb (by omega)).mp z)
      · exact (hp (q, p) List.mem_cons_self |> fun _ => by exact absurd hb (hq q p r hs)).elim
end UNIT2
