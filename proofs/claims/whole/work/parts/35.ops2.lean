section OPS2
variable {d : Nat} {σ τ : yS} {K : Int32 → yS → Prop} {KV : yS → Prop}
theorem four {x : Int32} (q1 : ¬ x < 0) (q2 : x < 4) : x = 0 ∨ x = 1 ∨ x = 2 ∨ x = 3 := by
  rw [Int32.lt_iff_toInt_lt] at q1 q2
  have y0 : (0 : Int32).toInt = 0 := by decide
  have y1 : (1 : Int32).toInt = 1 := by decide
  have y2 : (2 : Int32).toInt = 2 := by decide
  have y3 : (3 : Int32).toInt = 3 := by decide
  have y4 : (4 : Int32).toInt = 4 := by decide
  have : x.toInt = 0 ∨ x.toInt = 1 ∨ x.toInt = 2 ∨ x.toInt = 3 := by omega
  rcases this with e | e | e | e
  · exact Or.inl (Int32.toInt_inj.mp (by omega))
  · exact Or.inr (Or.inl (Int32.toInt_inj.mp (by omega)))
  · exact Or.inr (Or.inr (Or.inl (Int32.toInt_inj.mp (by omega))))
  · exact Or.inr (Or.inr (Or.inr (Int32.toInt_inj.mp (by omega))))
/-- did, of the class -/
def didC (σ : yS) (j : Nat) (what : Int32) : Int32 := if what = 0 then σ 92 j else if what = 1 then σ 93 j else if what = 2 then σ 94 j else σ 95 j
theorem sp_did {j : Nat} {what : Int32} (hj : j < 8) (h : K (didC σ j what) σ) : yR d 69 0 [some (.ref 0), some (.int (nI j)), some (.int what)] [] σ (qI K) := by
  have hv : vp_in (nI j) 8 := vp_in_nI hj (by decide)
  have ec : (nI j).toNatClampNeg = j := nI_clamp (by omega)
  unfold didC at h
  refine w_69_0 ?_
  rw [ec]
  refine ⟨fun e => ⟨hv, ?_⟩, fun e0 => ⟨fun e => ⟨hv, ?_⟩, fun e1 => ⟨fun e => ⟨hv, ?_⟩, fun e2 => ⟨hv, ?_⟩⟩⟩⟩
  · rw [if_pos e] at h; exact h
  · rw [if_neg e0, if_pos e] at h; exact h
  · rw [if_neg e0, if_neg e1, if_pos e] at h; exact h
  · rw [if_neg e0, if_neg e1, if_neg e2] at h; exact h
theorem sm_did {n j : Nat} {what : Int32} (hn : n ≤ 8) (hO : OE n τ) (hj : j < n) (hw : what = 0 ∨ what = 1 ∨ what = 2 ∨ what = 3) (h : K (didC τ j what) τ) : yR d 139 0 [some (.ref 97), some (.int (nI j)), some (.int what), none, none] [] τ (qI K) := by
  obtain ⟨cnt, o1, o2, o3, o4, o5, o6⟩ := hO
  obtain ⟨b1, b2, b3, b4, b5, b6⟩ := o5 j hj
  have hv : vp_in (nI j) 8 := vp_in_nI (by omega) (by decide)
  have ec : (nI j).toNatClampNeg = j := nI_clamp (by omega)
  have hs := sumN_30 o1
  unfold didC at h
  rcases hw with rfl | rfl | rfl | rfl
  · rw [if_pos rfl] at h
    refine w_139_0 ⟨fun q => absurd q (by decide), fun _ => ⟨fun q => absurd rfl q, fun _ => ⟨hv, ?_⟩⟩⟩
    rw [ec, b2, ← b1]; exact h
  · rw [if_neg (by decide), if_pos rfl] at h
    refine w_139_0 ⟨fun q => absurd q (by decide), fun _ => ⟨fun _ => ⟨fun q => absurd rfl q, fun _ => ⟨hv, ?_⟩⟩, fun q => absurd q (by decide)⟩⟩
    rw [ec, ← b3]; exact h
  · rw [if_neg (by decide), if_neg (by decide), if_pos rfl] at h
    refine w_139_0 ⟨fun q => absurd q (by decide), fun _ => ⟨fun _ => ⟨fun _ => ⟨hv, ?_⟩, fun q => absurd q (by decide)⟩, fun q => absurd q (by decide)⟩⟩
    rw [ec, ← b4]
    refine ⟨fun z => by rw [z] at h; exact h, fun z => ?_⟩
    rcases b5 with e | e
    · exact absurd e z
    · rw [e] at h; exact h
  · rw [if_neg (by decide), if_neg (by decide), if_neg (by decide), b6] at h
    have loop : ∀ m i : Nat, i + m = j + 1 → yR d 139 52 [some (.ref 97), some (.int (nI j)), some (.int 3), some (.int (nI (sumN cnt i))), some (.int (nI i))] [] τ (qI K) := by
      intro m
      induction m with
      | zero =>
        intro i hi
        have e : i = j + 1 := by omega
        subst e
        refine w_139_52 ⟨fun _ => ⟨hv, ?_⟩, fun q => absurd (nI_lt (by omega) (by omega)) q⟩
        rw [ec, b2]
        have hc := o1 j hj
        have ej : sumN cnt (j + 1) = sumN cnt j + cnt j := rfl
        have hle : sumN cnt (j + 1) ≤ sumN cnt n := sumN_le (by omega)
        refine ⟨fun z => ?_, fun z => ?_⟩
        · have zc : ¬ cnt j = 0 := fun e => z (by rw [e]; exact nI_0)
          rw [if_neg zc] at h
          have e1 : nI (sumN cnt (j + 1)) - 1 = nI (sumN cnt (j + 1) - 1) := pk_sub (a := sumN cnt (j + 1)) (b := 1) (by omega)
          rw [e1, nI_clamp (by omega)]
          exact ⟨vp_in_nI (by omega) (by decide), h⟩
        · have zc : cnt j = 0 := by
            have := (nI_eq (a := cnt j) (b := 0) (by omega) (by omega)).mp (z.trans nI_0.symm)
            exact this
          rw [if_pos zc] at h; exact h
      | succ m ih =>
        intro i hi
        refine w_139_52 ⟨fun q => absurd q (nI_nlt (by omega) (by omega)), fun _ => ⟨vp_in_nI (by omega) (by decide), ?_⟩⟩
        rw [nI_clamp (by omega), (o5 i (by omega)).2.1, nI_add, nI_1]
        exact ih (i + 1) (by omega)
    have := loop (j + 1) 0 (by omega)
    rw [show nI (sumN cnt 0) = 0 from nI_0, nI_0] at this
    exact w_139_0 ⟨fun _ => this, fun q => absurd (by decide) q⟩
theorem op_did {k what : Int32} (h : Inv σ) : yR (d + 200) 60 0 [some (.ref 0), some (.int k), some (.int what)] [] σ (qI (fun r σ1 => yR (d + 200) 140 0 [some (.ref 97), some (.int k), some (.int what)] [] σ1 (qI (fun r' σ2 => r = r' ∧ Inv σ2)))) := by
  obtain ⟨n, cb, sz, tp, hP⟩ := h.2.2.1
  have hn := hP.1
  refine w_60_0 (sp_isLine hn hP.2.1 (fun j hj ej => br_t2 (sp_below (fun q1 q2 => br_t1 (sp_make hn hP.2.1 ?_)) (fun q => br_f1 (sp_bad ?_)))) (fun hno => br_f2 (sp_bad (w_140_0 (sm_isLine hn hP.2.2.1 (fun j hj ej => absurd ej (hno j hj)) (fun _ => br_f2 (bad2 h)))))))
  · subst ej
    obtain ⟨j1, j2, j3⟩ := make_inv h hP
    generalize makeC n σ = σ1 at *
    have hP1 : PRc σ1 2 (σ1 98) n cb sz tp := hP.fr (fun c a b => j3 c (by omega)) (j3 98 (by omega))
    refine sp_did (by omega) (w_140_0 (sm_isLine hn hP1.2.2.1 (fun i hi ei => br_t2 (sm_in (fun _ _ => br_t1 (sm_run j1 j2 hP1 (fun τ i1 i2 i3 => sm_did hn i2 hj (four q1 q2) ⟨?_, i1⟩))) (fun z => ?_))) (fun hno => absurd rfl (hno j hj))))
    · unfold didC
      rw [i3.1 92 (by omega), i3.1 93 (by omega), i3.1 94 (by omega), i3.1 95 (by omega)]
    · rcases z with z | z
      · exact absurd z q1
      · exact absurd (n3.mp q2) (Int32.not_le.mpr z)
  · subst ej
    refine w_140_0 (sm_isLine hn hP.2.2.1 (fun i hi ei => br_t2 (sm_in (fun q1 q2 => ?_) (fun _ => br_f1 (bad2 h)))) (fun hno => absurd rfl (hno j hj)))
    rcases q with q | q
    · exact absurd q1 (Int32.not_le.mpr q)
    · exact absurd (n3.mpr q2) (Int32.not_lt.mpr q)
/-- line, of the class -/
def lineC (σ : yS) (j : Nat) (what : Int32) : Int32 := if what = 0 then σ 8 j else if what = 1 then σ 9 j else if what = 2 then σ 10 j else σ 11 j
theorem sp_line {j : Nat} {what : Int32} (hj : j < 8) (h : K (lineC σ j what) σ) : yR d 67 0 [some (.ref 0), some (.int (nI j)), some (.int what)] [] σ (qI K) := by
  have hv : vp_in (nI j) 8 := vp_in_nI hj (by decide)
  have ec : (nI j).toNatClampNeg = j := nI_clamp (by omega)
  unfold lineC at h
  refine w_67_0 ?_
  rw [ec]
  refine ⟨fun e => ⟨hv, ?_⟩, fun e0 => ⟨fun e => ⟨hv, ?_⟩, fun e1 => ⟨fun e => ⟨hv, ?_⟩, fun e2 => ⟨hv, ?_⟩⟩⟩⟩
  · rw [if_pos e] at h; exact h
  · rw [if_neg e0, if_pos e] at h; exact h
  · rw [if_neg e0, if_neg e1, if_pos e] at h; exact h
  · rw [if_neg e0, if_neg e1, if_neg e2] at h; exact h
theorem sm_ofLine {n j : Nat} {cb sz tp : Nat → Nat} {what : Int32} (hP : PRc τ 2 (τ 98) n cb sz tp) (hj : j < n) (hw : what = 0 ∨ what = 1 ∨ what = 2 ∨ what = 3) (h : K (lineC τ j what) τ) : yR (d + 1) 117 0 [some (.ref 97), some (.int (nI j)), some (.int what), none, none, none, none] [] τ (qI K) := by
  obtain ⟨hn, -, -, hsum, hL, -⟩ := hP
  obtain ⟨l1, l2, l3, l4, l5, l6, l7, l8, l9, l10, l11⟩ := hL j hj
  have e9 : (9 : Int32) + nI j = nI (9 + j) := nI_add 9 j
  have e1 : (1 : Int32) + nI j = nI (1 + j) := nI_add 1 j
  have hsz : sumN sz j + sz j ≤ 60 := by
    have : sumN sz (j + 1) ≤ sumN sz n := sumN_le (by omega)
    have e : sumN sz (j + 1) = sumN sz j + sz j := rfl
    omega
  have hbeg : ∀ {K' : Int32 → yS → Prop}, K' (nI (25 + sumN sz j)) τ → yR d 91 0 [some (.ref 97), some (.int (nI j)), none, none] [] τ (qI K') := fun hk => sm_begin (by omega) (fun i hi => (hL i (by omega)).2.2.2.1) hk
  -- the bits
  have loop : ∀ (b : Bool) (wh : Int32), (b = true → wh = 2) → (b = false → ¬ wh = 2) → ∀ m i : Nat, i + m = sz j → ∀ a : Int32, K (bitR b (fun t => τ 98 (25 + sumN sz j + t)) m i a) τ → yR (d + 1) 117 32 [some (.ref 97), some (.int (nI j)), some (.int wh), some (.int a), some (.int (nI (25 + sumN sz j + i))), none, none] [] τ (qI K) := by
    intro b wh hb1 hb2 m
    induction m with
    | zero =>
      intro i hi a hK
      refine w_117_32 (hbeg ⟨by rw [e9]; exact vp_in_nI (by omega) (by decide), ?_⟩)
      rw [e9, nI_clamp (by omega), l4, nI_add]
      have e : i = sz j := by omega
      subst e
      exact ⟨fun _ => hK, fun q => absurd (Int32.le_refl _) q⟩
    | succ m ih =>
      intro i hi a hK
      have hK' : K (bitR b (fun t => τ 98 (25 + sumN sz j + t)) m (i + 1) (a ||| bitB b (τ 98 (25 + sumN sz j + i)))) τ := hK
      have go := ih (i + 1) (by omega) _ hK'
      rw [show 25 + sumN sz j + (i + 1) = 25 + sumN sz j + i + 1 by omega, ← nI_1] at go
      refine w_117_32 (hbeg ⟨by rw [e9]; exact vp_in_nI (by omega) (by decide), ?_⟩)
      rw [e9, nI_clamp (by omega), nI_clamp (by omega), l4, nI_add]
      refine ⟨fun q => absurd q (nI_ge (by omega) (by omega)), fun _ => ⟨vp_in_nI (by omega) (by decide), w_85_0 ?_⟩⟩
      unfold bitB at go
      refine ⟨fun s => w_86_0 ?_, fun s1 => ⟨fun s => w_86_0 ?_, fun s2 => ⟨fun hw => ?_, fun hw => ⟨fun s => ?_, fun s => w_86_0 ?_⟩⟩⟩⟩
      · rw [if_pos (Or.inl (show srt (τ 98 (25 + sumN sz j + i)) = 13 from s))] at go; exact go
      · rw [if_pos (Or.inr (Or.inl (show srt (τ 98 (25 + sumN sz j + i)) = 14 from s)))] at go; exact go
      · have hb : b = false := by cases b with
          | true => exact absurd (hb1 rfl) hw
          | false => rfl
        rw [if_neg (by
          rintro (z | z | z)
          · exact s1 z
          · exact s2 z
          · rw [hb] at z; exact absurd z.1 (by decide))] at go
        exact go
      · rw [if_neg (by
          rintro (z | z | z)
          · exact s1 z
          · exact s2 z
          · exact s z.2)] at go
        exact go
      · have hb : b = true := by cases b with
          | true => rfl
          | false => exact absurd hw (hb2 rfl)
        rw [if_pos (Or.inr (Or.inr ⟨hb, s⟩))] at go
        exact go
  unfold lineC at h
  rcases hw with rfl | rfl | rfl | rfl
  · rw [if_pos rfl] at h
    refine w_117_0 ⟨fun q => absurd q (by decide), fun _ => ⟨fun q => absurd rfl q, fun _ => ⟨by rw [e1]; exact vp_in_nI (by omega) (by decide), ?_⟩⟩⟩
    rw [e1, nI_clamp (by omega), ← l1]; exact h
  · rw [if_neg (by decide), if_pos rfl] at h
    refine w_117_0 ⟨fun q => absurd q (by decide), fun _ => ⟨fun _ => ⟨by rw [e9]; exact vp_in_nI (by omega) (by decide), ?_⟩, fun q => absurd q (by decide)⟩⟩
    rw [e9, nI_clamp (by omega), ← l3]; exact h
  · rw [if_neg (by decide), if_neg (by decide), if_pos rfl, l10] at h
    refine w_117_0 ⟨fun _ => hbeg ?_, fun q => absurd (by decide) q⟩
    exact loop true 2 (fun _ => rfl) (fun z => absurd z (by decide)) (sz j) 0 (by omega) 0 h
  · rw [if_neg (by decide), if_neg (by decide), if_neg (by decide), l11] at h
    refine w_117_0 ⟨fun _ => hbeg ?_, fun q => absurd (by decide) q⟩
    exact loop false 3 (fun z => absurd z (by decide)) (fun _ => by decide) (sz j) 0 (by omega) 0 h
theorem op_line {k what : Int32} (h : Inv σ) : yR (d + 200) 57 0 [some (.ref 0), some (.int k), some (.int what)] [] σ (qI (fun r σ1 => yR (d + 200) 118 0 [some (.ref 97), some (.int k), some (.int what)] [] σ1 (qI (fun r' σ2 => r = r' ∧ Inv σ2)))) := by
  obtain ⟨n, cb, sz, tp, hP⟩ := h.2.2.1
  have hn := hP.1
  refine w_57_0 (sp_isLine hn hP.2.1 (fun j hj ej => br_t2 (sp_below (fun q1 q2 => br_t1 ?_) (fun q => br_f1 (sp_bad ?_)))) (fun hno => br_f2 (sp_bad (w_118_0 (sm_isLine hn hP.2.2.1 (fun j hj ej => absurd ej (hno j hj)) (fun _ => br_f2 (bad2 h)))))))
  · subst ej
    refine sp_line (by omega) (w_118_0 (sm_isLine hn hP.2.2.1 (fun i hi ei => br_t2 (sm_in (fun _ _ => br_t2 (sm_ofLine hP hj (four q1 q2) ⟨rfl, h⟩)) (fun z => ?_))) (fun hno => absurd rfl (hno j hj))))
    rcases z with z | z
    · exact absurd z q1
    · exact absurd (n3.mp q2) (Int32.not_le.mpr z)
  · subst ej
    refine w_118_0 (sm_isLine hn hP.2.2.1 (fun i hi ei => br_t2 (sm_in (fun q1 q2 => ?_) (fun _ => br_f2 (bad2 h)))) (fun hno => absurd rfl (hno j hj)))
    rcases q with q | q
    · exact absurd q1 (Int32.not_le.mpr q)
    · exact absurd (n3.mpr q2) (Int32.not_lt.mpr q)
end OPS2
