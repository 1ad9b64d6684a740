/-! THE REFERENCE'S MACHINE: one turn of its loop (method 132 at 10), by sort and phase of the node where it stands -/
def srt (w : Int32) : Int32 := w &&& 15
def nmb (w : Int32) : Int32 := (w >>> (4 &&& 31)) &&& 1023
def fst1 (w : Int32) : Int32 := (w >>> (14 &&& 31)) &&& 63
def snd1 (w : Int32) : Int32 := (w >>> (20 &&& 31)) &&& 63
def mLP (d : Nat) (v : Int32) (K : Int32 → yS → Prop) (τ : yS) : Prop := yR (d + 5) 132 10 [some (.ref 97), some (.int v)] [] τ (qI K)
def mYield (v : Int32) (τ : yS) : yS := sg (sg (sg (sg (sg τ 97 25 (τ 97 25 + 1)) 97 29 1) 97 30 v) 97 28 0) 97 27 (τ 108 (τ 97 27).toNatClampNeg)
def mNone (τ : yS) : yS := sg (sg (sg τ 97 29 0) 97 28 0) 97 27 (τ 108 (τ 97 27).toNatClampNeg)
def mAsk (p : Int32) (τ : yS) : yS := sg (sg τ 97 27 p) 97 28 1
def mAskN (p : Int32) (τ : yS) : yS := sg (sg (sg τ 97 27 p) 97 28 1) 109 p.toNatClampNeg 0
theorem sg_self (σ : yS) (c k : Nat) : sg σ c k (σ c k) = σ := by
  funext c' k'
  unfold sg upd
  by_cases h : c' = c
  · subst h; simp only [if_true]
    by_cases h2 : k' = k
    · subst h2; simp
    · simp [h2]
  · simp [h]
theorem sg_fix {σ : yS} {c k : Nat} {v : Int32} (h : σ c k = v) : sg σ c k v = σ := by rw [← h]; exact sg_self σ c k
theorem sg_same (σ : yS) (c k : Nat) (v : Int32) : sg σ c k v c k = v := by simp [sg, upd]
theorem sg_cell (σ : yS) {c c' : Nat} (k : Nat) (v : Int32) (h : c' ≠ c) : sg σ c k v c' = σ c' := by simp [sg, h]
theorem sg_ne (σ : yS) (c : Nat) {k k' : Nat} (v : Int32) (h : k' ≠ k) : sg σ c k v c k' = σ c k' := by simp [sg, upd, h]
section MT
variable {d : Nat} {τ : yS} {K : Int32 → yS → Prop} {KV : yS → Prop} {v : Int32} {i mb : Nat}
theorem sm_node (hb : τ 97 24 = nI mb) (hi : mb + i < 89) (h : K (τ 98 (mb + i)) τ) : yR d 119 0 [some (.ref 97), some (.int (nI i))] [] τ (qI K) := by
  have e : τ 97 24 + nI i = nI (mb + i) := by rw [hb, nI_add]
  refine w_119_0 ⟨by rw [e]; exact vp_in_nI hi (by decide), ?_⟩
  rw [e, nI_clamp (by omega)]
  exact h
theorem sm_yields (hh : τ 97 27 = nI i) (hi : i < 60) (h : (τ 97 25 = 1000 → KV (sg τ 97 26 1)) ∧ (¬ τ 97 25 = 1000 → KV (mYield v τ))) : yR d 121 0 [some (.ref 97), some (.int v)] [] τ (qV KV) :=
  w_121_0 ⟨fun q => ⟨by rw [hh]; exact vp_in_nI hi (by decide), h.2 q⟩, h.1⟩
theorem sm_none (hh : τ 97 27 = nI i) (hi : i < 60) (h : KV (mNone τ)) : yR d 122 0 [some (.ref 97)] [] τ (qV KV) :=
  w_122_0 ⟨by rw [hh]; exact vp_in_nI hi (by decide), h⟩
theorem sm_ask {p : Int32} (h : KV (mAsk p τ)) : yR d 120 0 [some (.ref 97), some (.int p), some (.int 0)] [] τ (qV KV) := w_120_0 (br_f2 h)
theorem sm_askN {p : Int32} (hp : vp_in p 60) (h : KV (mAskN p τ)) : yR d 120 0 [some (.ref 97), some (.int p), some (.int 1)] [] τ (qV KV) := w_120_0 (br_t2 ⟨hp, h⟩)
theorem sm_in {x a b : Int32} (h1 : a ≤ x → x ≤ b → K 1 τ) (h0 : (x < a ∨ b < x) → K 0 τ) : yR d 80 0 [some (.int x), some (.int a), some (.int b)] [] τ (qI K) :=
  w_80_0 ⟨fun q => h0 (Or.inl q), fun q => ⟨fun q2 => h0 (Or.inr q2), fun q2 => h1 (Int32.not_lt.mp q) (Int32.not_lt.mp q2)⟩⟩
/-- standing at node i, with the word w there -/
def mAt (τ : yS) (mb i : Nat) (w : Int32) : Prop := τ 97 27 = nI i ∧ i < 60 ∧ τ 97 26 = 0 ∧ τ 97 24 = nI mb ∧ mb + i < 89 ∧ τ 98 (mb + i) = w
/-- what a yielded result leads to -/
def mYl (d : Nat) (v0 : Int32) (K : Int32 → yS → Prop) (v : Int32) (τ : yS) : Prop := (τ 97 25 = 1000 → mLP d v0 K (sg τ 97 26 1)) ∧ (¬ τ 97 25 = 1000 → mLP d v0 K (mYield v τ))
theorem nI_nn {i : Nat} (h : i < 60) : ¬ nI i = -1999999 := by
  intro e
  have h1 : (nI i).toInt = (i : Int) := nI_toInt (by omega)
  rw [e] at h1
  have h2 : (-1999999 : Int32).toInt = -1999999 := by decide
  rw [h2] at h1
  omega
theorem lp_asked {w : Int32} (ha : mAt τ mb i w) (h1 : τ 97 28 = 1) (h : yR (d + 4) 125 0 [some (.ref 97), some (.int (nI i)), none, none] [] τ (qV (mLP d v K))) : mLP d v K τ := by
  obtain ⟨e1, e2, e3, -⟩ := ha
  refine w_132_10 ⟨fun q => absurd (e1.symm.trans q) (nI_nn e2), fun _ => ⟨fun q => absurd e3 q, fun _ => ⟨fun q => absurd (h1.symm.trans q) one_ne, fun _ => ?_⟩⟩⟩
  rw [e1]
  exact h
theorem lp_told {w : Int32} (ha : mAt τ mb i w) (h0 : τ 97 28 = 0) (h1 : τ 97 29 = 1) (h : yR (d + 4) 128 0 [some (.ref 97), some (.int (nI i)), some (.int (τ 97 30)), none, none] [] τ (qV (mLP d v K))) : mLP d v K τ := by
  obtain ⟨e1, e2, e3, -⟩ := ha
  refine w_132_10 ⟨fun q => absurd (e1.symm.trans q) (nI_nn e2), fun _ => ⟨fun q => absurd e3 q, fun _ => ⟨fun _ => ⟨fun q => absurd (h1.symm.trans q) one_ne, fun _ => ?_⟩, fun q => absurd h0 q⟩⟩⟩
  rw [e1]
  exact h
theorem lp_ended {w : Int32} (ha : mAt τ mb i w) (h0 : τ 97 28 = 0) (h1 : τ 97 29 = 0) (h : yR (d + 4) 130 0 [some (.ref 97), some (.int (nI i)), none, none] [] τ (qV (mLP d v K))) : mLP d v K τ := by
  obtain ⟨e1, e2, e3, -⟩ := ha
  refine w_132_10 ⟨fun q => absurd (e1.symm.trans q) (nI_nn e2), fun _ => ⟨fun q => absurd e3 q, fun _ => ⟨fun _ => ⟨fun _ => ?_, fun q => absurd h1 q⟩, fun q => absurd h0 q⟩⟩⟩
  rw [e1]
  exact h
theorem ta_num {w : Int32} (ha : mAt τ mb i w) (h1 : τ 97 28 = 1) (hs : srt w = 0) (hp : τ 109 i = 0) (h : mYl d v K (nmb w) (sg τ 109 i 1)) : mLP d v K τ := by
  refine lp_asked ha h1 ?_
  obtain ⟨e1, e2, e3, e4, e5, e6⟩ := ha
  have ec : (nI i).toNatClampNeg = i := nI_clamp (by omega)
  have hs' : w &&& 15 = 0 := hs
  refine w_125_0 (sm_node e4 e5 ?_)
  rw [e6]
  refine ⟨vp_in_nI e2 (by decide), w_85_0 ?_⟩
  rw [hs', ec]
  exact ⟨fun _ => ⟨fun q => absurd hp q, fun _ => w_85_0 (by rw [hs']; exact br_f1 (w_86_0 (sm_yields (τ := sg τ 109 i 1) e1 e2 h)))⟩, fun q => absurd rfl q⟩
theorem ta_name {w : Int32} (ha : mAt τ mb i w) (h1 : τ 97 28 = 1) (hs : srt w = 1) (hp : τ 109 i = 0) (hn : vp_in (nmb w) 4) (h : mYl d v K (τ 112 (nmb w).toNatClampNeg) (sg τ 109 i 1)) : mLP d v K τ := by
  refine lp_asked ha h1 ?_
  obtain ⟨e1, e2, e3, e4, e5, e6⟩ := ha
  have ec : (nI i).toNatClampNeg = i := nI_clamp (by omega)
  have hs' : w &&& 15 = 1 := hs
  refine w_125_0 (sm_node e4 e5 ?_)
  rw [e6]
  refine ⟨vp_in_nI e2 (by decide), w_85_0 ?_⟩
  rw [hs', ec]
  exact ⟨fun q => absurd q (by decide), fun _ => ⟨fun _ => ⟨fun q => absurd hp q, fun _ => w_85_0 (by rw [hs']; exact br_t1 (w_86_0 ⟨hn, sm_yields (τ := sg τ 109 i 1) e1 e2 h⟩))⟩, fun q => absurd rfl q⟩⟩
theorem ta_leaf1_0 {w : Int32} (ha : mAt τ mb i w) (h1 : τ 97 28 = 1) (hs : srt w = 0) (hp : ¬ τ 109 i = 0) (h : mLP d v K (mNone (sg τ 109 i 1))) : mLP d v K τ := by
  refine lp_asked ha h1 ?_
  obtain ⟨e1, e2, e3, e4, e5, e6⟩ := ha
  have ec : (nI i).toNatClampNeg = i := nI_clamp (by omega)
  have hs' : w &&& 15 = 0 := hs
  refine w_125_0 (sm_node e4 e5 ?_)
  rw [e6]
  refine ⟨vp_in_nI e2 (by decide), w_85_0 ?_⟩
  rw [hs', ec]
  exact ⟨fun _ => ⟨fun _ => sm_none (τ := sg τ 109 i 1) e1 e2 h, fun q => absurd q hp⟩, fun q => absurd rfl q⟩
theorem ta_leaf1_1 {w : Int32} (ha : mAt τ mb i w) (h1 : τ 97 28 = 1) (hs : srt w = 1) (hp : ¬ τ 109 i = 0) (h : mLP d v K (mNone (sg τ 109 i 1))) : mLP d v K τ := by
  refine lp_asked ha h1 ?_
  obtain ⟨e1, e2, e3, e4, e5, e6⟩ := ha
  have ec : (nI i).toNatClampNeg = i := nI_clamp (by omega)
  have hs' : w &&& 15 = 1 := hs
  refine w_125_0 (sm_node e4 e5 ?_)
  rw [e6]
  refine ⟨vp_in_nI e2 (by decide), w_85_0 ?_⟩
  rw [hs', ec]
  exact ⟨fun q => absurd q (by decide), fun _ => ⟨fun _ => ⟨fun _ => sm_none (τ := sg τ 109 i 1) e1 e2 h, fun q => absurd q hp⟩, fun q => absurd rfl q⟩⟩
theorem ta_two0_2 {w : Int32} (ha : mAt τ mb i w) (h1 : τ 97 28 = 1) (hs : srt w = 2) (hp : τ 109 i = 0) (hf : vp_in (fst1 w) 60) (h : mLP d v K (mAskN (fst1 w) (sg τ 109 i 1))) : mLP d v K τ := by
  refine lp_asked ha h1 ?_
  obtain ⟨e1, e2, e3, e4, e5, e6⟩ := ha
  have ec : (nI i).toNatClampNeg = i := nI_clamp (by omega)
  have hs' : w &&& 15 = 2 := hs
  refine w_125_0 (sm_node e4 e5 ?_)
  rw [e6]
  refine ⟨vp_in_nI e2 (by decide), w_85_0 ?_⟩
  rw [hs', ec]
  exact ⟨fun q => absurd q (by decide), fun _ => ⟨fun q => absurd q (by decide), fun _ => ⟨fun _ => ⟨fun q => absurd hp q, fun _ => ⟨fun _ => w_87_0 (sm_askN hf h), fun q => absurd (hp.symm.trans q) (by decide)⟩⟩, fun q => absurd rfl q⟩⟩⟩
theorem ta_two2_2 {w : Int32} (ha : mAt τ mb i w) (h1 : τ 97 28 = 1) (hs : srt w = 2) (hp : τ 109 i = 2) (h : mLP d v K (mAsk (snd1 w) τ)) : mLP d v K τ := by
  refine lp_asked ha h1 ?_
  obtain ⟨e1, e2, e3, e4, e5, e6⟩ := ha
  have ec : (nI i).toNatClampNeg = i := nI_clamp (by omega)
  have hs' : w &&& 15 = 2 := hs
  refine w_125_0 (sm_node e4 e5 ?_)
  rw [e6]
  refine ⟨vp_in_nI e2 (by decide), w_85_0 ?_⟩
  rw [hs', ec]
  exact ⟨fun q => absurd q (by decide), fun _ => ⟨fun q => absurd q (by decide), fun _ => ⟨fun _ => ⟨fun _ => ⟨fun q => absurd hp q, fun _ => w_88_0 (sm_ask (by rw [sg_self]; exact h))⟩, fun q => absurd (hp.symm.trans q) (by decide)⟩, fun q => absurd rfl q⟩⟩⟩
theorem ta_two1_2 {w : Int32} (ha : mAt τ mb i w) (h1 : τ 97 28 = 1) (hs : srt w = 2) (hp : τ 109 i = 1) (h : mLP d v K (mAsk (fst1 w) τ)) : mLP d v K τ := by
  refine lp_asked ha h1 ?_
  obtain ⟨e1, e2, e3, e4, e5, e6⟩ := ha
  have ec : (nI i).toNatClampNeg = i := nI_clamp (by omega)
  have hs' : w &&& 15 = 2 := hs
  refine w_125_0 (sm_node e4 e5 ?_)
  rw [e6]
  refine ⟨vp_in_nI e2 (by decide), w_85_0 ?_⟩
  rw [hs', ec]
  exact ⟨fun q => absurd q (by decide), fun _ => ⟨fun q => absurd q (by decide), fun _ => ⟨fun _ => ⟨fun _ => ⟨fun _ => w_87_0 (sm_ask (by rw [sg_self]; exact h)), fun q => absurd (hp.symm.trans q) (by decide)⟩, fun q => absurd (hp.symm.trans q) (by decide)⟩, fun q => absurd rfl q⟩⟩⟩
theorem ta_two0_3 {w : Int32} (ha : mAt τ mb i w) (h1 : τ 97 28 = 1) (hs : srt w = 3) (hp : τ 109 i = 0) (hf : vp_in (fst1 w) 60) (h : mLP d v K (mAskN (fst1 w) (sg τ 109 i 1))) : mLP d v K τ := by
  refine lp_asked ha h1 ?_
  obtain ⟨e1, e2, e3, e4, e5, e6⟩ := ha
  have ec : (nI i).toNatClampNeg = i := nI_clamp (by omega)
  have hs' : w &&& 15 = 3 := hs
  refine w_125_0 (sm_node e4 e5 ?_)
  rw [e6]
  refine ⟨vp_in_nI e2 (by decide), w_85_0 ?_⟩
  rw [hs', ec]
  exact ⟨fun q => absurd q (by decide), fun _ => ⟨fun q => absurd q (by decide), fun _ => ⟨fun q => absurd q (by decide), fun _ => ⟨fun _ => ⟨fun q => absurd hp q, fun _ => ⟨fun _ => w_87_0 (sm_askN hf h), fun q => absurd (hp.symm.trans q) (by decide)⟩⟩, fun q => absurd rfl q⟩⟩⟩⟩
theorem ta_two2_3 {w : Int32} (ha : mAt τ mb i w) (h1 : τ 97 28 = 1) (hs : srt w = 3) (hp : τ 109 i = 2) (h : mLP d v K (mAsk (snd1 w) τ)) : mLP d v K τ := by
  refine lp_asked ha h1 ?_
  obtain ⟨e1, e2, e3, e4, e5, e6⟩ := ha
  have ec : (nI i).toNatClampNeg = i := nI_clamp (by omega)
  have hs' : w &&& 15 = 3 := hs
  refine w_125_0 (sm_node e4 e5 ?_)
  rw [e6]
  refine ⟨vp_in_nI e2 (by decide), w_85_0 ?_⟩
  rw [hs', ec]
  exact ⟨fun q => absurd q (by decide), fun _ => ⟨fun q => absurd q (by decide), fun _ => ⟨fun q => absurd q (by decide), fun _ => ⟨fun _ => ⟨fun _ => ⟨fun q => absurd hp q, fun _ => w_88_0 (sm_ask (by rw [sg_self]; exact h))⟩, fun q => absurd (hp.symm.trans q) (by decide)⟩, fun q => absurd rfl q⟩⟩⟩⟩
theorem ta_two1_3 {w : Int32} (ha : mAt τ mb i w) (h1 : τ 97 28 = 1) (hs : srt w = 3) (hp : τ 109 i = 1) (h : mLP d v K (mAsk (fst1 w) τ)) : mLP d v K τ := by
  refine lp_asked ha h1 ?_
  obtain ⟨e1, e2, e3, e4, e5, e6⟩ := ha
  have ec : (nI i).toNatClampNeg = i := nI_clamp (by omega)
  have hs' : w &&& 15 = 3 := hs
  refine w_125_0 (sm_node e4 e5 ?_)
  rw [e6]
  refine ⟨vp_in_nI e2 (by decide), w_85_0 ?_⟩
  rw [hs', ec]
  exact ⟨fun q => absurd q (by decide), fun _ => ⟨fun q => absurd q (by decide), fun _ => ⟨fun q => absurd q (by decide), fun _ => ⟨fun _ => ⟨fun _ => ⟨fun _ => w_87_0 (sm_ask (by rw [sg_self]; exact h)), fun q => absurd (hp.symm.trans q) (by decide)⟩, fun q => absurd (hp.symm.trans q) (by decide)⟩, fun q => absurd rfl q⟩⟩⟩⟩
theorem ta_two0_4 {w : Int32} (ha : mAt τ mb i w) (h1 : τ 97 28 = 1) (hs : srt w = 4) (hp : τ 109 i = 0) (hf : vp_in (fst1 w) 60) (h : mLP d v K (mAskN (fst1 w) (sg τ 109 i 1))) : mLP d v K τ := by
  refine lp_asked ha h1 ?_
  obtain ⟨e1, e2, e3, e4, e5, e6⟩ := ha
  have ec : (nI i).toNatClampNeg = i := nI_clamp (by omega)
  have hs' : w &&& 15 = 4 := hs
  refine w_125_0 (sm_node e4 e5 ?_)
  rw [e6]
  refine ⟨vp_in_nI e2 (by decide), w_85_0 ?_⟩
  rw [hs', ec]
  exact ⟨fun q => absurd q (by decide), fun _ => ⟨fun q => absurd q (by decide), fun _ => ⟨fun q => absurd q (by decide), fun _ => ⟨fun q => absurd q (by decide), fun _ => ⟨fun _ => ⟨fun q => absurd hp q, fun _ => ⟨fun _ => w_87_0 (sm_askN hf h), fun q => absurd (hp.symm.trans q) (by decide)⟩⟩, fun q => absurd rfl q⟩⟩⟩⟩⟩
theorem ta_two2_4 {w : Int32} (ha : mAt τ mb i w) (h1 : τ 97 28 = 1) (hs : srt w = 4) (hp : τ 109 i = 2) (h : mLP d v K (mAsk (snd1 w) τ)) : mLP d v K τ := by
  refine lp_asked ha h1 ?_
  obtain ⟨e1, e2, e3, e4, e5, e6⟩ := ha
  have ec : (nI i).toNatClampNeg = i := nI_clamp (by omega)
  have hs' : w &&& 15 = 4 := hs
  refine w_125_0 (sm_node e4 e5 ?_)
  rw [e6]
  refine ⟨vp_in_nI e2 (by decide), w_85_0 ?_⟩
  rw [hs', ec]
  exact ⟨fun q => absurd q (by decide), fun _ => ⟨fun q => absurd q (by decide), fun _ => ⟨fun q => absurd q (by decide), fun _ => ⟨fun q => absurd q (by decide), fun _ => ⟨fun _ => ⟨fun _ => ⟨fun q => absurd hp q, fun _ => w_88_0 (sm_ask (by rw [sg_self]; exact h))⟩, fun q => absurd (hp.symm.trans q) (by decide)⟩, fun q => absurd rfl q⟩⟩⟩⟩⟩
theorem ta_two1_4 {w : Int32} (ha : mAt τ mb i w) (h1 : τ 97 28 = 1) (hs : srt w = 4) (hp : τ 109 i = 1) (h : mLP d v K (mAsk (fst1 w) τ)) : mLP d v K τ := by
  refine lp_asked ha h1 ?_
  obtain ⟨e1, e2, e3, e4, e5, e6⟩ := ha
  have ec : (nI i).toNatClampNeg = i := nI_clamp (by omega)
  have hs' : w &&& 15 = 4 := hs
  refine w_125_0 (sm_node e4 e5 ?_)
  rw [e6]
  refine ⟨vp_in_nI e2 (by decide), w_85_0 ?_⟩
  rw [hs', ec]
  exact ⟨fun q => absurd q (by decide), fun _ => ⟨fun q => absurd q (by decide), fun _ => ⟨fun q => absurd q (by decide), fun _ => ⟨fun q => absurd q (by decide), fun _ => ⟨fun _ => ⟨fun _ => ⟨fun _ => w_87_0 (sm_ask (by rw [sg_self]; exact h)), fun q => absurd (hp.symm.trans q) (by decide)⟩, fun q => absurd (hp.symm.trans q) (by decide)⟩, fun q => absurd rfl q⟩⟩⟩⟩⟩
theorem ta_two0_5 {w : Int32} (ha : mAt τ mb i w) (h1 : τ 97 28 = 1) (hs : srt w = 5) (hp : τ 109 i = 0) (hf : vp_in (fst1 w) 60) (h : mLP d v K (mAskN (fst1 w) (sg τ 109 i 1))) : mLP d v K τ := by
  refine lp_asked ha h1 ?_
  obtain ⟨e1, e2, e3, e4, e5, e6⟩ := ha
  have ec : (nI i).toNatClampNeg = i := nI_clamp (by omega)
  have hs' : w &&& 15 = 5 := hs
  refine w_125_0 (sm_node e4 e5 ?_)
  rw [e6]
  refine ⟨vp_in_nI e2 (by decide), w_85_0 ?_⟩
  rw [hs', ec]
  exact ⟨fun q => absurd q (by decide), fun _ => ⟨fun q => absurd q (by decide), fun _ => ⟨fun q => absurd q (by decide), fun _ => ⟨fun q => absurd q (by decide), fun _ => ⟨fun q => absurd q (by decide), fun _ => ⟨fun _ => ⟨fun q => absurd hp q, fun _ => ⟨fun _ => w_87_0 (sm_askN hf h), fun q => absurd (hp.symm.trans q) (by decide)⟩⟩, fun q => absurd rfl q⟩⟩⟩⟩⟩⟩
theorem ta_two2_5 {w : Int32} (ha : mAt τ mb i w) (h1 : τ 97 28 = 1) (hs : srt w = 5) (hp : τ 109 i = 2) (h : mLP d v K (mAsk (snd1 w) τ)) : mLP d v K τ := by
  refine lp_asked ha h1 ?_
  obtain ⟨e1, e2, e3, e4, e5, e6⟩ := ha
  have ec : (nI i).toNatClampNeg = i := nI_clamp (by omega)
  have hs' : w &&& 15 = 5 := hs
  refine w_125_0 (sm_node e4 e5 ?_)
  rw [e6]
  refine ⟨vp_in_nI e2 (by decide), w_85_0 ?_⟩
  rw [hs', ec]
  exact ⟨fun q => absurd q (by decide), fun _ => ⟨fun q => absurd q (by decide), fun _ => ⟨fun q => absurd q (by decide), fun _ => ⟨fun q => absurd q (by decide), fun _ => ⟨fun q => absurd q (by decide), fun _ => ⟨fun _ => ⟨fun _ => ⟨fun q => absurd hp q, fun _ => w_88_0 (sm_ask (by rw [sg_self]; exact h))⟩, fun q => absurd (hp.symm.trans q) (by decide)⟩, fun q => absurd rfl q⟩⟩⟩⟩⟩⟩
theorem ta_two1_5 {w : Int32} (ha : mAt τ mb i w) (h1 : τ 97 28 = 1) (hs : srt w = 5) (hp : τ 109 i = 1) (h : mLP d v K (mAsk (fst1 w) τ)) : mLP d v K τ := by
  refine lp_asked ha h1 ?_
  obtain ⟨e1, e2, e3, e4, e5, e6⟩ := ha
  have ec : (nI i).toNatClampNeg = i := nI_clamp (by omega)
  have hs' : w &&& 15 = 5 := hs
  refine w_125_0 (sm_node e4 e5 ?_)
  rw [e6]
  refine ⟨vp_in_nI e2 (by decide), w_85_0 ?_⟩
  rw [hs', ec]
  exact ⟨fun q => absurd q (by decide), fun _ => ⟨fun q => absurd q (by decide), fun _ => ⟨fun q => absurd q (by decide), fun _ => ⟨fun q => absurd q (by decide), fun _ => ⟨fun q => absurd q (by decide), fun _ => ⟨fun _ => ⟨fun _ => ⟨fun _ => w_87_0 (sm_ask (by rw [sg_self]; exact h)), fun q => absurd (hp.symm.trans q) (by decide)⟩, fun q => absurd (hp.symm.trans q) (by decide)⟩, fun q => absurd rfl q⟩⟩⟩⟩⟩⟩
theorem ta_two0_6 {w : Int32} (ha : mAt τ mb i w) (h1 : τ 97 28 = 1) (hs : srt w = 6) (hp : τ 109 i = 0) (hf : vp_in (fst1 w) 60) (h : mLP d v K (mAskN (fst1 w) (sg τ 109 i 1))) : mLP d v K τ := by
  refine lp_asked ha h1 ?_
  obtain ⟨e1, e2, e3, e4, e5, e6⟩ := ha
  have ec : (nI i).toNatClampNeg = i := nI_clamp (by omega)
  have hs' : w &&& 15 = 6 := hs
  refine w_125_0 (sm_node e4 e5 ?_)
  rw [e6]
  refine ⟨vp_in_nI e2 (by decide), w_85_0 ?_⟩
  rw [hs', ec]
  exact ⟨fun q => absurd q (by decide), fun _ => ⟨fun q => absurd q (by decide), fun _ => ⟨fun q => absurd q (by decide), fun _ => ⟨fun q => absurd q (by decide), fun _ => ⟨fun q => absurd q (by decide), fun _ => ⟨fun q => absurd q (by decide), fun _ => ⟨fun _ => ⟨fun q => absurd hp q, fun _ => ⟨fun _ => w_87_0 (sm_askN hf h), fun q => absurd (hp.symm.trans q) (by decide)⟩⟩, fun q => absurd rfl q⟩⟩⟩⟩⟩⟩⟩
theorem ta_two2_6 {w : Int32} (ha : mAt τ mb i w) (h1 : τ 97 28 = 1) (hs : srt w = 6) (hp : τ 109 i = 2) (h : mLP d v K (mAsk (snd1 w) τ)) : mLP d v K τ := by
  refine lp_asked ha h1 ?_
  obtain ⟨e1, e2, e3, e4, e5, e6⟩ := ha
  have ec : (nI i).toNatClampNeg = i := nI_clamp (by omega)
  have hs' : w &&& 15 = 6 := hs
  refine w_125_0 (sm_node e4 e5 ?_)
  rw [e6]
  refine ⟨vp_in_nI e2 (by decide), w_85_0 ?_⟩
  rw [hs', ec]
  exact ⟨fun q => absurd q (by decide), fun _ => ⟨fun q => absurd q (by decide), fun _ => ⟨fun q => absurd q (by decide), fun _ => ⟨fun q => absurd q (by decide), fun _ => ⟨fun q => absurd q (by decide), fun _ => ⟨fun q => absurd q (by decide), fun _ => ⟨fun _ => ⟨fun _ => ⟨fun q => absurd hp q, fun _ => w_88_0 (sm_ask (by rw [sg_self]; exact h))⟩, fun q => absurd (hp.symm.trans q) (by decide)⟩, fun q => absurd rfl q⟩⟩⟩⟩⟩⟩⟩
theorem ta_two1_6 {w : Int32} (ha : mAt τ mb i w) (h1 : τ 97 28 = 1) (hs : srt w = 6) (hp : τ 109 i = 1) (h : mLP d v K (mAsk (fst1 w) τ)) : mLP d v K τ := by
  refine lp_asked ha h1 ?_
  obtain ⟨e1, e2, e3, e4, e5, e6⟩ := ha
  have ec : (nI i).toNatClampNeg = i := nI_clamp (by omega)
  have hs' : w &&& 15 = 6 := hs
  refine w_125_0 (sm_node e4 e5 ?_)
  rw [e6]
  refine ⟨vp_in_nI e2 (by decide), w_85_0 ?_⟩
  rw [hs', ec]
  exact ⟨fun q => absurd q (by decide), fun _ => ⟨fun q => absurd q (by decide), fun _ => ⟨fun q => absurd q (by decide), fun _ => ⟨fun q => absurd q (by decide), fun _ => ⟨fun q => absurd q (by decide), fun _ => ⟨fun q => absurd q (by decide), fun _ => ⟨fun _ => ⟨fun _ => ⟨fun _ => w_87_0 (sm_ask (by rw [sg_self]; exact h)), fun q => absurd (hp.symm.trans q) (by decide)⟩, fun q => absurd (hp.symm.trans q) (by decide)⟩, fun q => absurd rfl q⟩⟩⟩⟩⟩⟩⟩
theorem ta_two0_8 {w : Int32} (ha : mAt τ mb i w) (h1 : τ 97 28 = 1) (hs : srt w = 8) (hp : τ 109 i = 0) (hf : vp_in (fst1 w) 60) (h : mLP d v K (mAskN (fst1 w) (sg τ 109 i 1))) : mLP d v K τ := by
  refine lp_asked ha h1 ?_
  obtain ⟨e1, e2, e3, e4, e5, e6⟩ := ha
  have ec : (nI i).toNatClampNeg = i := nI_clamp (by omega)
  have hs' : w &&& 15 = 8 := hs
  refine w_125_0 (sm_node e4 e5 ?_)
  rw [e6]
  refine ⟨vp_in_nI e2 (by decide), w_85_0 ?_⟩
  rw [hs', ec]
  exact ⟨fun q => absurd q (by decide), fun _ => ⟨fun q => absurd q (by decide), fun _ => ⟨fun q => absurd q (by decide), fun _ => ⟨fun q => absurd q (by decide), fun _ => ⟨fun q => absurd q (by decide), fun _ => ⟨fun q => absurd q (by decide), fun _ => ⟨fun q => absurd q (by decide), fun _ => ⟨fun q => absurd q (by decide), fun _ => ⟨fun _ => ⟨fun q => absurd hp q, fun _ => ⟨fun _ => w_87_0 (sm_askN hf h), fun q => absurd (hp.symm.trans q) (by decide)⟩⟩, fun q => absurd rfl q⟩⟩⟩⟩⟩⟩⟩⟩⟩
theorem ta_two2_8 {w : Int32} (ha : mAt τ mb i w) (h1 : τ 97 28 = 1) (hs : srt w = 8) (hp : τ 109 i = 2) (h : mLP d v K (mAsk (snd1 w) τ)) : mLP d v K τ := by
  refine lp_asked ha h1 ?_
  obtain ⟨e1, e2, e3, e4, e5, e6⟩ := ha
  have ec : (nI i).toNatClampNeg = i := nI_clamp (by omega)
  have hs' : w &&& 15 = 8 := hs
  refine w_125_0 (sm_node e4 e5 ?_)
  rw [e6]
  refine ⟨vp_in_nI e2 (by decide), w_85_0 ?_⟩
  rw [hs', ec]
  exact ⟨fun q => absurd q (by decide), fun _ => ⟨fun q => absurd q (by decide), fun _ => ⟨fun q => absurd q (by decide), fun _ => ⟨fun q => absurd q (by decide), fun _ => ⟨fun q => absurd q (by decide), fun _ => ⟨fun q => absurd q (by decide), fun _ => ⟨fun q => absurd q (by decide), fun _ => ⟨fun q => absurd q (by decide), fun _ => ⟨fun _ => ⟨fun _ => ⟨fun q => absurd hp q, fun _ => w_88_0 (sm_ask (by rw [sg_self]; exact h))⟩, fun q => absurd (hp.symm.trans q) (by decide)⟩, fun q => absurd rfl q⟩⟩⟩⟩⟩⟩⟩⟩⟩
theorem ta_two1_8 {w : Int32} (ha : mAt τ mb i w) (h1 : τ 97 28 = 1) (hs : srt w = 8) (hp : τ 109 i = 1) (h : mLP d v K (mAsk (fst1 w) τ)) : mLP d v K τ := by
  refine lp_asked ha h1 ?_
  obtain ⟨e1, e2, e3, e4, e5, e6⟩ := ha
  have ec : (nI i).toNatClampNeg = i := nI_clamp (by omega)
  have hs' : w &&& 15 = 8 := hs
  refine w_125_0 (sm_node e4 e5 ?_)
  rw [e6]
  refine ⟨vp_in_nI e2 (by decide), w_85_0 ?_⟩
  rw [hs', ec]
  exact ⟨fun q => absurd q (by decide), fun _ => ⟨fun q => absurd q (by decide), fun _ => ⟨fun q => absurd q (by decide), fun _ => ⟨fun q => absurd q (by decide), fun _ => ⟨fun q => absurd q (by decide), fun _ => ⟨fun q => absurd q (by decide), fun _ => ⟨fun q => absurd q (by decide), fun _ => ⟨fun q => absurd q (by decide), fun _ => ⟨fun _ => ⟨fun _ => ⟨fun _ => w_87_0 (sm_ask (by rw [sg_self]; exact h)), fun q => absurd (hp.symm.trans q) (by decide)⟩, fun q => absurd (hp.symm.trans q) (by decide)⟩, fun q => absurd rfl q⟩⟩⟩⟩⟩⟩⟩⟩⟩
theorem ta_two0_9 {w : Int32} (ha : mAt τ mb i w) (h1 : τ 97 28 = 1) (hs : srt w = 9) (hp : τ 109 i = 0) (hf : vp_in (fst1 w) 60) (h : mLP d v K (mAskN (fst1 w) (sg τ 109 i 1))) : mLP d v K τ := by
  refine lp_asked ha h1 ?_
  obtain ⟨e1, e2, e3, e4, e5, e6⟩ := ha
  have ec : (nI i).toNatClampNeg = i := nI_clamp (by omega)
  have hs' : w &&& 15 = 9 := hs
  refine w_125_0 (sm_node e4 e5 ?_)
  rw [e6]
  refine ⟨vp_in_nI e2 (by decide), w_85_0 ?_⟩
  rw [hs', ec]
  exact ⟨fun q => absurd q (by decide), fun _ => ⟨fun q => absurd q (by decide), fun _ => ⟨fun q => absurd q (by decide), fun _ => ⟨fun q => absurd q (by decide), fun _ => ⟨fun q => absurd q (by decide), fun _ => ⟨fun q => absurd q (by decide), fun _ => ⟨fun q => absurd q (by decide), fun _ => ⟨fun q => absurd q (by decide), fun _ => ⟨fun q => absurd q (by decide), fun _ => ⟨fun _ => ⟨fun q => absurd hp q, fun _ => ⟨fun _ => w_87_0 (sm_askN hf h), fun q => absurd (hp.symm.trans q) (by decide)⟩⟩, fun q => absurd rfl q⟩⟩⟩⟩⟩⟩⟩⟩⟩⟩
theorem ta_two2_9 {w : Int32} (ha : mAt τ mb i w) (h1 : τ 97 28 = 1) (hs : srt w = 9) (hp : τ 109 i = 2) (h : mLP d v K (mAsk (snd1 w) τ)) : mLP d v K τ := by
  refine lp_asked ha h1 ?_
  obtain ⟨e1, e2, e3, e4, e5, e6⟩ := ha
  have ec : (nI i).toNatClampNeg = i := nI_clamp (by omega)
  have hs' : w &&& 15 = 9 := hs
  refine w_125_0 (sm_node e4 e5 ?_)
  rw [e6]
  refine ⟨vp_in_nI e2 (by decide), w_85_0 ?_⟩
  rw [hs', ec]
  exact ⟨fun q => absurd q (by decide), fun _ => ⟨fun q => absurd q (by decide), fun _ => ⟨fun q => absurd q (by decide), fun _ => ⟨fun q => absurd q (by decide), fun _ => ⟨fun q => absurd q (by decide), fun _ => ⟨fun q => absurd q (by decide), fun _ => ⟨fun q => absurd q (by decide), fun _ => ⟨fun q => absurd q (by decide), fun _ => ⟨fun q => absurd q (by decide), fun _ => ⟨fun _ => ⟨fun _ => ⟨fun q => absurd hp q, fun _ => w_88_0 (sm_ask (by rw [sg_self]; exact h))⟩, fun q => absurd (hp.symm.trans q) (by decide)⟩, fun q => absurd rfl q⟩⟩⟩⟩⟩⟩⟩⟩⟩⟩
theorem ta_two1_9 {w : Int32} (ha : mAt τ mb i w) (h1 : τ 97 28 = 1) (hs : srt w = 9) (hp : τ 109 i = 1) (h : mLP d v K (mAsk (fst1 w) τ)) : mLP d v K τ := by
  refine lp_asked ha h1 ?_
  obtain ⟨e1, e2, e3, e4, e5, e6⟩ := ha
  have ec : (nI i).toNatClampNeg = i := nI_clamp (by omega)
  have hs' : w &&& 15 = 9 := hs
  refine w_125_0 (sm_node e4 e5 ?_)
  rw [e6]
  refine ⟨vp_in_nI e2 (by decide), w_85_0 ?_⟩
  rw [hs', ec]
  exact ⟨fun q => absurd q (by decide), fun _ => ⟨fun q => absurd q (by decide), fun _ => ⟨fun q => absurd q (by decide), fun _ => ⟨fun q => absurd q (by decide), fun _ => ⟨fun q => absurd q (by decide), fun _ => ⟨fun q => absurd q (by decide), fun _ => ⟨fun q => absurd q (by decide), fun _ => ⟨fun q => absurd q (by decide), fun _ => ⟨fun q => absurd q (by decide), fun _ => ⟨fun _ => ⟨fun _ => ⟨fun _ => w_87_0 (sm_ask (by rw [sg_self]; exact h)), fun q => absurd (hp.symm.trans q) (by decide)⟩, fun q => absurd (hp.symm.trans q) (by decide)⟩, fun q => absurd rfl q⟩⟩⟩⟩⟩⟩⟩⟩⟩⟩
theorem ta_two0_10 {w : Int32} (ha : mAt τ mb i w) (h1 : τ 97 28 = 1) (hs : srt w = 10) (hp : τ 109 i = 0) (hf : vp_in (fst1 w) 60) (h : mLP d v K (mAskN (fst1 w) (sg τ 109 i 1))) : mLP d v K τ := by
  refine lp_asked ha h1 ?_
  obtain ⟨e1, e2, e3, e4, e5, e6⟩ := ha
  have ec : (nI i).toNatClampNeg = i := nI_clamp (by omega)
  have hs' : w &&& 15 = 10 := hs
  refine w_125_0 (sm_node e4 e5 ?_)
  rw [e6]
  refine ⟨vp_in_nI e2 (by decide), w_85_0 ?_⟩
  rw [hs', ec]
  exact ⟨fun q => absurd q (by decide), fun _ => ⟨fun q => absurd q (by decide), fun _ => ⟨fun q => absurd q (by decide), fun _ => ⟨fun q => absurd q (by decide), fun _ => ⟨fun q => absurd q (by decide), fun _ => ⟨fun q => absurd q (by decide), fun _ => ⟨fun q => absurd q (by decide), fun _ => ⟨fun q => absurd q (by decide), fun _ => ⟨fun q => absurd q (by decide), fun _ => ⟨fun q => absurd q (by decide), fun _ => ⟨fun _ => ⟨fun q => absurd hp q, fun _ => ⟨fun _ => w_87_0 (sm_askN hf h), fun q => absurd (hp.symm.trans q) (by decide)⟩⟩, fun q => absurd rfl q⟩⟩⟩⟩⟩⟩⟩⟩⟩⟩⟩
theorem ta_two2_10 {w : Int32} (ha : mAt τ mb i w) (h1 : τ 97 28 = 1) (hs : srt w = 10) (hp : τ 109 i = 2) (h : mLP d v K (mAsk (snd1 w) τ)) : mLP d v K τ := by
  refine lp_asked ha h1 ?_
  obtain ⟨e1, e2, e3, e4, e5, e6⟩ := ha
  have ec : (nI i).toNatClampNeg = i := nI_clamp (by omega)
  have hs' : w &&& 15 = 10 := hs
  refine w_125_0 (sm_node e4 e5 ?_)
  rw [e6]
  refine ⟨vp_in_nI e2 (by decide), w_85_0 ?_⟩
  rw [hs', ec]
  exact ⟨fun q => absurd q (by decide), fun _ => ⟨fun q => absurd q (by decide), fun _ => ⟨fun q => absurd q (by decide), fun _ => ⟨fun q => absurd q (by decide), fun _ => ⟨fun q => absurd q (by decide), fun _ => ⟨fun q => absurd q (by decide), fun _ => ⟨fun q => absurd q (by decide), fun _ => ⟨fun q => absurd q (by decide), fun _ => ⟨fun q => absurd q (by decide), fun _ => ⟨fun q => absurd q (by decide), fun _ => ⟨fun _ => ⟨fun _ => ⟨fun q => absurd hp q, fun _ => w_88_0 (sm_ask (by rw [sg_self]; exact h))⟩, fun q => absurd (hp.symm.trans q) (by decide)⟩, fun q => absurd rfl q⟩⟩⟩⟩⟩⟩⟩⟩⟩⟩⟩
theorem ta_two1_10 {w : Int32} (ha : mAt τ mb i w) (h1 : τ 97 28 = 1) (hs : srt w = 10) (hp : τ 109 i = 1) (h : mLP d v K (mAsk (fst1 w) τ)) : mLP d v K τ := by
  refine lp_asked ha h1 ?_
  obtain ⟨e1, e2, e3, e4, e5, e6⟩ := ha
  have ec : (nI i).toNatClampNeg = i := nI_clamp (by omega)
  have hs' : w &&& 15 = 10 := hs
  refine w_125_0 (sm_node e4 e5 ?_)
  rw [e6]
  refine ⟨vp_in_nI e2 (by decide), w_85_0 ?_⟩
  rw [hs', ec]
  exact ⟨fun q => absurd q (by decide), fun _ => ⟨fun q => absurd q (by decide), fun _ => ⟨fun q => absurd q (by decide), fun _ => ⟨fun q => absurd q (by decide), fun _ => ⟨fun q => absurd q (by decide), fun _ => ⟨fun q => absurd q (by decide), fun _ => ⟨fun q => absurd q (by decide), fun _ => ⟨fun q => absurd q (by decide), fun _ => ⟨fun q => absurd q (by decide), fun _ => ⟨fun q => absurd q (by decide), fun _ => ⟨fun _ => ⟨fun _ => ⟨fun _ => w_87_0 (sm_ask (by rw [sg_self]; exact h)), fun q => absurd (hp.symm.trans q) (by decide)⟩, fun q => absurd (hp.symm.trans q) (by decide)⟩, fun q => absurd rfl q⟩⟩⟩⟩⟩⟩⟩⟩⟩⟩⟩
theorem ta_rng0 {w : Int32} (ha : mAt τ mb i w) (h1 : τ 97 28 = 1) (hs : srt w = 7) (hp : τ 109 i = 0) (hf : vp_in (fst1 w) 60) (h : mLP d v K (mAskN (fst1 w) (sg τ 109 i 1))) : mLP d v K τ := by
  refine lp_asked ha h1 ?_
  obtain ⟨e1, e2, e3, e4, e5, e6⟩ := ha
  have ec : (nI i).toNatClampNeg = i := nI_clamp (by omega)
  have hs' : w &&& 15 = 7 := hs
  refine w_125_0 (sm_node e4 e5 ?_)
  rw [e6]
  refine ⟨vp_in_nI e2 (by decide), w_85_0 ?_⟩
  rw [hs', ec]
  exact ⟨fun q => absurd q (by decide), fun _ => ⟨fun q => absurd q (by decide), fun _ => ⟨fun q => absurd q (by decide), fun _ => ⟨fun q => absurd q (by decide), fun _ => ⟨fun q => absurd q (by decide), fun _ => ⟨fun q => absurd q (by decide), fun _ => ⟨fun q => absurd q (by decide), fun _ => ⟨fun _ => (by rw [hp]; exact w_127_0 ⟨fun _ => ⟨vp_in_nI e2 (by decide), sm_node (τ := sg τ 109 (nI i).toNatClampNeg 1) (i := i) e4 e5 (by rw [ec]; show yR _ _ _ [some (.int (τ 98 (mb + i)))] _ _ _; rw [e6]; exact w_87_0 (br_f1 (sm_askN hf h)))⟩, fun q => absurd q (by decide)⟩), fun q => absurd rfl q⟩⟩⟩⟩⟩⟩⟩⟩
theorem ta_rng3m {w : Int32} (ha : mAt τ mb i w) (h1 : τ 97 28 = 1) (hs : srt w = 7) (hp : τ 109 i = 3) (hl : ¬ τ 111 i ≤ τ 110 i) (h : mYl d v K (τ 110 i + 1) (sg τ 110 i (τ 110 i + 1))) : mLP d v K τ := by
  refine lp_asked ha h1 ?_
  obtain ⟨e1, e2, e3, e4, e5, e6⟩ := ha
  have ec : (nI i).toNatClampNeg = i := nI_clamp (by omega)
  have hs' : w &&& 15 = 7 := hs
  refine w_125_0 (sm_node e4 e5 ?_)
  rw [e6]
  refine ⟨vp_in_nI e2 (by decide), w_85_0 ?_⟩
  rw [hs', ec]
  exact ⟨fun q => absurd q (by decide), fun _ => ⟨fun q => absurd q (by decide), fun _ => ⟨fun q => absurd q (by decide), fun _ => ⟨fun q => absurd q (by decide), fun _ => ⟨fun q => absurd q (by decide), fun _ => ⟨fun q => absurd q (by decide), fun _ => ⟨fun q => absurd q (by decide), fun _ => ⟨fun _ => (by rw [hp]; exact w_127_0 ⟨fun q => absurd rfl q, fun _ => ⟨vp_in_nI e2 (by decide), by rw [ec]; exact ⟨fun q => absurd q hl, fun _ => sm_yields (τ := sg τ 110 i (τ 110 i + 1)) e1 e2 (by rw [sg_same]; exact h)⟩⟩⟩), fun q => absurd rfl q⟩⟩⟩⟩⟩⟩⟩⟩
theorem ta_rng3e {w : Int32} (ha : mAt τ mb i w) (h1 : τ 97 28 = 1) (hs : srt w = 7) (hp : τ 109 i = 3) (hl : τ 111 i ≤ τ 110 i) (h : mLP d v K (mAsk (snd1 w) (sg τ 109 i 2))) : mLP d v K τ := by
  refine lp_asked ha h1 ?_
  obtain ⟨e1, e2, e3, e4, e5, e6⟩ := ha
  have ec : (nI i).toNatClampNeg = i := nI_clamp (by omega)
  have hs' : w &&& 15 = 7 := hs
  refine w_125_0 (sm_node e4 e5 ?_)
  rw [e6]
  refine ⟨vp_in_nI e2 (by decide), w_85_0 ?_⟩
  rw [hs', ec]
  exact ⟨fun q => absurd q (by decide), fun _ => ⟨fun q => absurd q (by decide), fun _ => ⟨fun q => absurd q (by decide), fun _ => ⟨fun q => absurd q (by decide), fun _ => ⟨fun q => absurd q (by decide), fun _ => ⟨fun q => absurd q (by decide), fun _ => ⟨fun q => absurd q (by decide), fun _ => ⟨fun _ => (by rw [hp]; exact w_127_0 ⟨fun q => absurd rfl q, fun _ => ⟨vp_in_nI e2 (by decide), by rw [ec]; exact ⟨fun _ => sm_node (τ := sg τ 109 i 2) (i := i) e4 e5 (by show yR _ _ _ [some (.int (τ 98 (mb + i)))] _ _ _; rw [e6]; exact w_88_0 (sm_ask h)), fun q => absurd hl q⟩⟩⟩), fun q => absurd rfl q⟩⟩⟩⟩⟩⟩⟩⟩
theorem ta_fst0 {w : Int32} (ha : mAt τ mb i w) (h1 : τ 97 28 = 1) (hs : srt w = 11) (hp : τ 109 i = 0) (hf : vp_in (fst1 w) 60) (hz : ¬ 0 = nmb w) (h : mLP d v K (mAskN (fst1 w) (sg (sg τ 110 i 0) 109 i 1))) : mLP d v K τ := by
  refine lp_asked ha h1 ?_
  obtain ⟨e1, e2, e3, e4, e5, e6⟩ := ha
  have ec : (nI i).toNatClampNeg = i := nI_clamp (by omega)
  have hs' : w &&& 15 = 11 := hs
  refine w_125_0 (sm_node e4 e5 ?_)
  rw [e6]
  refine ⟨vp_in_nI e2 (by decide), w_85_0 ?_⟩
  rw [hs', ec]
  exact ⟨fun q => absurd q (by decide), fun _ => ⟨fun q => absurd q (by decide), fun _ => ⟨fun q => absurd q (by decide), fun _ => ⟨fun q => absurd q (by decide), fun _ => ⟨fun q => absurd q (by decide), fun _ => ⟨fun q => absurd q (by decide), fun _ => ⟨fun q => absurd q (by decide), fun _ => ⟨fun q => absurd q (by decide), fun _ => ⟨fun q => absurd q (by decide), fun _ => ⟨fun q => absurd q (by decide), fun _ => ⟨fun q => absurd q (by decide), fun _ => ⟨fun _ => (by rw [hp]; exact w_126_0 ⟨fun q => absurd rfl q, fun _ => ⟨vp_in_nI e2 (by decide), by rw [ec]; exact sm_node (τ := sg (sg τ 110 i 0) 109 i 1) (i := i) e4 e5 (by show yR _ _ _ [some (.int (τ 98 (mb + i)))] _ _ _; rw [e6]; exact w_86_0 ⟨fun _ => sm_node (τ := sg (sg τ 110 i 0) 109 i 1) (i := i) e4 e5 (by show yR _ _ _ [some (.int (τ 98 (mb + i)))] _ _ _; rw [e6]; exact w_87_0 (sm_askN hf h)), fun q => absurd ((sg_same τ 110 i 0).symm.trans q) hz⟩)⟩⟩), fun q => absurd rfl q⟩⟩⟩⟩⟩⟩⟩⟩⟩⟩⟩⟩
theorem ta_fst0z {w : Int32} (ha : mAt τ mb i w) (h1 : τ 97 28 = 1) (hs : srt w = 11) (hp : τ 109 i = 0) (hz : 0 = nmb w) (h : mLP d v K (mNone (sg (sg τ 110 i 0) 109 i 1))) : mLP d v K τ := by
  refine lp_asked ha h1 ?_
  obtain ⟨e1, e2, e3, e4, e5, e6⟩ := ha
  have ec : (nI i).toNatClampNeg = i := nI_clamp (by omega)
  have hs' : w &&& 15 = 11 := hs
  refine w_125_0 (sm_node e4 e5 ?_)
  rw [e6]
  refine ⟨vp_in_nI e2 (by decide), w_85_0 ?_⟩
  rw [hs', ec]
  exact ⟨fun q => absurd q (by decide), fun _ => ⟨fun q => absurd q (by decide), fun _ => ⟨fun q => absurd q (by decide), fun _ => ⟨fun q => absurd q (by decide), fun _ => ⟨fun q => absurd q (by decide), fun _ => ⟨fun q => absurd q (by decide), fun _ => ⟨fun q => absurd q (by decide), fun _ => ⟨fun q => absurd q (by decide), fun _ => ⟨fun q => absurd q (by decide), fun _ => ⟨fun q => absurd q (by decide), fun _ => ⟨fun q => absurd q (by decide), fun _ => ⟨fun _ => (by rw [hp]; exact w_126_0 ⟨fun q => absurd rfl q, fun _ => ⟨vp_in_nI e2 (by decide), by rw [ec]; exact sm_node (τ := sg (sg τ 110 i 0) 109 i 1) (i := i) e4 e5 (by show yR _ _ _ [some (.int (τ 98 (mb + i)))] _ _ _; rw [e6]; exact w_86_0 ⟨fun q => absurd ((sg_same τ 110 i 0).trans hz) q, fun _ => sm_none (τ := sg (sg τ 110 i 0) 109 i 1) e1 e2 h⟩)⟩⟩), fun q => absurd rfl q⟩⟩⟩⟩⟩⟩⟩⟩⟩⟩⟩⟩
theorem ta_fst1 {w : Int32} (ha : mAt τ mb i w) (h1 : τ 97 28 = 1) (hs : srt w = 11) (hp : τ 109 i = 1) (hz : ¬ τ 110 i = nmb w) (h : mLP d v K (mAsk (fst1 w) τ)) : mLP d v K τ := by
  refine lp_asked ha h1 ?_
  obtain ⟨e1, e2, e3, e4, e5, e6⟩ := ha
  have ec : (nI i).toNatClampNeg = i := nI_clamp (by omega)
  have hs' : w &&& 15 = 11 := hs
  refine w_125_0 (sm_node e4 e5 ?_)
  rw [e6]
  refine ⟨vp_in_nI e2 (by decide), w_85_0 ?_⟩
  rw [hs', ec]
  exact ⟨fun q => absurd q (by decide), fun _ => ⟨fun q => absurd q (by decide), fun _ => ⟨fun q => absurd q (by decide), fun _ => ⟨fun q => absurd q (by decide), fun _ => ⟨fun q => absurd q (by decide), fun _ => ⟨fun q => absurd q (by decide), fun _ => ⟨fun q => absurd q (by decide), fun _ => ⟨fun q => absurd q (by decide), fun _ => ⟨fun q => absurd q (by decide), fun _ => ⟨fun q => absurd q (by decide), fun _ => ⟨fun q => absurd q (by decide), fun _ => ⟨fun _ => (by rw [hp]; exact w_126_0 ⟨fun _ => ⟨vp_in_nI e2 (by decide), by rw [ec, sg_self]; exact sm_node (τ := sg τ 109 i 1) (i := i) e4 e5 (by show yR _ _ _ [some (.int (τ 98 (mb + i)))] _ _ _; rw [e6]; exact w_86_0 ⟨fun _ => sm_node (τ := sg τ 109 i 1) (i := i) e4 e5 (by show yR _ _ _ [some (.int (τ 98 (mb + i)))] _ _ _; rw [e6]; exact w_87_0 (sm_ask (by rw [sg_fix hp]; exact h))), fun q => absurd q hz⟩)⟩, fun q => absurd q (by decide)⟩), fun q => absurd rfl q⟩⟩⟩⟩⟩⟩⟩⟩⟩⟩⟩⟩
theorem ta_fst1z {w : Int32} (ha : mAt τ mb i w) (h1 : τ 97 28 = 1) (hs : srt w = 11) (hp : τ 109 i = 1) (hz : τ 110 i = nmb w) (h : mLP d v K (mNone (sg τ 109 i 1))) : mLP d v K τ := by
  refine lp_asked ha h1 ?_
  obtain ⟨e1, e2, e3, e4, e5, e6⟩ := ha
  have ec : (nI i).toNatClampNeg = i := nI_clamp (by omega)
  have hs' : w &&& 15 = 11 := hs
  refine w_125_0 (sm_node e4 e5 ?_)
  rw [e6]
  refine ⟨vp_in_nI e2 (by decide), w_85_0 ?_⟩
  rw [hs', ec]
  exact ⟨fun q => absurd q (by decide), fun _ => ⟨fun q => absurd q (by decide), fun _ => ⟨fun q => absurd q (by decide), fun _ => ⟨fun q => absurd q (by decide), fun _ => ⟨fun q => absurd q (by decide), fun _ => ⟨fun q => absurd q (by decide), fun _ => ⟨fun q => absurd q (by decide), fun _ => ⟨fun q => absurd q (by decide), fun _ => ⟨fun q => absurd q (by decide), fun _ => ⟨fun q => absurd q (by decide), fun _ => ⟨fun q => absurd q (by decide), fun _ => ⟨fun _ => (by rw [hp]; exact w_126_0 ⟨fun _ => ⟨vp_in_nI e2 (by decide), by rw [ec, sg_self]; exact sm_node (τ := sg τ 109 i 1) (i := i) e4 e5 (by show yR _ _ _ [some (.int (τ 98 (mb + i)))] _ _ _; rw [e6]; exact w_86_0 ⟨fun q => absurd hz q, fun _ => sm_none (τ := sg τ 109 i 1) e1 e2 h⟩)⟩, fun q => absurd q (by decide)⟩), fun q => absurd rfl q⟩⟩⟩⟩⟩⟩⟩⟩⟩⟩⟩⟩
theorem ta_not0 {w : Int32} (ha : mAt τ mb i w) (h1 : τ 97 28 = 1) (hs : srt w = 12) (hp : τ 109 i = 0) (hf : vp_in (fst1 w) 60) (h : mLP d v K (mAskN (fst1 w) (sg τ 109 i 1))) : mLP d v K τ := by
  refine lp_asked ha h1 ?_
  obtain ⟨e1, e2, e3, e4, e5, e6⟩ := ha
  have ec : (nI i).toNatClampNeg = i := nI_clamp (by omega)
  have hs' : w &&& 15 = 12 := hs
  refine w_125_0 (sm_node e4 e5 ?_)
  rw [e6]
  refine ⟨vp_in_nI e2 (by decide), w_85_0 ?_⟩
  rw [hs', ec]
  exact ⟨fun q => absurd q (by decide), fun _ => ⟨fun q => absurd q (by decide), fun _ => ⟨fun q => absurd q (by decide), fun _ => ⟨fun q => absurd q (by decide), fun _ => ⟨fun q => absurd q (by decide), fun _ => ⟨fun q => absurd q (by decide), fun _ => ⟨fun q => absurd q (by decide), fun _ => ⟨fun q => absurd q (by decide), fun _ => ⟨fun q => absurd q (by decide), fun _ => ⟨fun q => absurd q (by decide), fun _ => ⟨fun q => absurd q (by decide), fun _ => ⟨fun q => absurd q (by decide), fun _ => ⟨fun _ => ⟨fun q => absurd hp q, fun _ => w_87_0 (sm_askN hf h)⟩, fun q => absurd rfl q⟩⟩⟩⟩⟩⟩⟩⟩⟩⟩⟩⟩⟩
theorem ta_not1 {w : Int32} (ha : mAt τ mb i w) (h1 : τ 97 28 = 1) (hs : srt w = 12) (hp : ¬ τ 109 i = 0) (h : mLP d v K (mNone (sg τ 109 i 1))) : mLP d v K τ := by
  refine lp_asked ha h1 ?_
  obtain ⟨e1, e2, e3, e4, e5, e6⟩ := ha
  have ec : (nI i).toNatClampNeg = i := nI_clamp (by omega)
  have hs' : w &&& 15 = 12 := hs
  refine w_125_0 (sm_node e4 e5 ?_)
  rw [e6]
  refine ⟨vp_in_nI e2 (by decide), w_85_0 ?_⟩
  rw [hs', ec]
  exact ⟨fun q => absurd q (by decide), fun _ => ⟨fun q => absurd q (by decide), fun _ => ⟨fun q => absurd q (by decide), fun _ => ⟨fun q => absurd q (by decide), fun _ => ⟨fun q => absurd q (by decide), fun _ => ⟨fun q => absurd q (by decide), fun _ => ⟨fun q => absurd q (by decide), fun _ => ⟨fun q => absurd q (by decide), fun _ => ⟨fun q => absurd q (by decide), fun _ => ⟨fun q => absurd q (by decide), fun _ => ⟨fun q => absurd q (by decide), fun _ => ⟨fun q => absurd q (by decide), fun _ => ⟨fun _ => ⟨fun _ => sm_none (τ := sg τ 109 i 1) e1 e2 h, fun q => absurd q hp⟩, fun q => absurd rfl q⟩⟩⟩⟩⟩⟩⟩⟩⟩⟩⟩⟩⟩
theorem ta_set0 {w : Int32} (ha : mAt τ mb i w) (h1 : τ 97 28 = 1) (hs : srt w = 13) (hp : τ 109 i = 0) (hf : vp_in (fst1 w) 60) (h : mLP d v K (mAskN (fst1 w) (sg τ 109 i 1))) : mLP d v K τ := by
  refine lp_asked ha h1 ?_
  obtain ⟨e1, e2, e3, e4, e5, e6⟩ := ha
  have ec : (nI i).toNatClampNeg = i := nI_clamp (by omega)
  have hs' : w &&& 15 = 13 := hs
  refine w_125_0 (sm_node e4 e5 ?_)
  rw [e6]
  refine ⟨vp_in_nI e2 (by decide), w_85_0 ?_⟩
  rw [hs', ec]
  exact ⟨fun q => absurd q (by decide), fun _ => ⟨fun q => absurd q (by decide), fun _ => ⟨fun q => absurd q (by decide), fun _ => ⟨fun q => absurd q (by decide), fun _ => ⟨fun q => absurd q (by decide), fun _ => ⟨fun q => absurd q (by decide), fun _ => ⟨fun q => absurd q (by decide), fun _ => ⟨fun q => absurd q (by decide), fun _ => ⟨fun q => absurd q (by decide), fun _ => ⟨fun q => absurd q (by decide), fun _ => ⟨fun q => absurd q (by decide), fun _ => ⟨fun q => absurd q (by decide), fun _ => ⟨fun q => absurd q (by decide), fun _ => ⟨fun _ => w_87_0 ⟨fun q => absurd hp q, fun _ => sm_askN hf h⟩, fun q => absurd rfl q⟩⟩⟩⟩⟩⟩⟩⟩⟩⟩⟩⟩⟩⟩
theorem ta_set1 {w : Int32} (ha : mAt τ mb i w) (h1 : τ 97 28 = 1) (hs : srt w = 13) (hp : ¬ τ 109 i = 0) (h : mLP d v K (mAsk (fst1 w) (sg τ 109 i 1))) : mLP d v K τ := by
  refine lp_asked ha h1 ?_
  obtain ⟨e1, e2, e3, e4, e5, e6⟩ := ha
  have ec : (nI i).toNatClampNeg = i := nI_clamp (by omega)
  have hs' : w &&& 15 = 13 := hs
  refine w_125_0 (sm_node e4 e5 ?_)
  rw [e6]
  refine ⟨vp_in_nI e2 (by decide), w_85_0 ?_⟩
  rw [hs', ec]
  exact ⟨fun q => absurd q (by decide), fun _ => ⟨fun q => absurd q (by decide), fun _ => ⟨fun q => absurd q (by decide), fun _ => ⟨fun q => absurd q (by decide), fun _ => ⟨fun q => absurd q (by decide), fun _ => ⟨fun q => absurd q (by decide), fun _ => ⟨fun q => absurd q (by decide), fun _ => ⟨fun q => absurd q (by decide), fun _ => ⟨fun q => absurd q (by decide), fun _ => ⟨fun q => absurd q (by decide), fun _ => ⟨fun q => absurd q (by decide), fun _ => ⟨fun q => absurd q (by decide), fun _ => ⟨fun q => absurd q (by decide), fun _ => ⟨fun _ => w_87_0 ⟨fun _ => sm_ask h, fun q => absurd q hp⟩, fun q => absurd rfl q⟩⟩⟩⟩⟩⟩⟩⟩⟩⟩⟩⟩⟩⟩
theorem ta_lend0 {w : Int32} (ha : mAt τ mb i w) (h1 : τ 97 28 = 1) (hs : srt w = 14) (hp : τ 109 i = 0) (hf : vp_in (fst1 w) 60) (h : mLP d v K (mAskN (fst1 w) (sg τ 109 i 1))) : mLP d v K τ := by
  refine lp_asked ha h1 ?_
  obtain ⟨e1, e2, e3, e4, e5, e6⟩ := ha
  have ec : (nI i).toNatClampNeg = i := nI_clamp (by omega)
  have hs' : w &&& 15 = 14 := hs
  refine w_125_0 (sm_node e4 e5 ?_)
  rw [e6]
  refine ⟨vp_in_nI e2 (by decide), w_85_0 ?_⟩
  rw [hs', ec]
  exact ⟨fun q => absurd q (by decide), fun _ => ⟨fun q => absurd q (by decide), fun _ => ⟨fun q => absurd q (by decide), fun _ => ⟨fun q => absurd q (by decide), fun _ => ⟨fun q => absurd q (by decide), fun _ => ⟨fun q => absurd q (by decide), fun _ => ⟨fun q => absurd q (by decide), fun _ => ⟨fun q => absurd q (by decide), fun _ => ⟨fun q => absurd q (by decide), fun _ => ⟨fun q => absurd q (by decide), fun _ => ⟨fun q => absurd q (by decide), fun _ => ⟨fun q => absurd q (by decide), fun _ => ⟨fun q => absurd q (by decide), fun _ => ⟨fun q => absurd q (by decide), fun _ => ⟨fun _ => ⟨fun _ => w_87_0 ⟨fun q => absurd hp q, fun _ => sm_askN hf h⟩, fun q => absurd (hp.symm.trans q) (by decide)⟩, fun q => absurd rfl q⟩⟩⟩⟩⟩⟩⟩⟩⟩⟩⟩⟩⟩⟩⟩
theorem ta_lend1 {w : Int32} (ha : mAt τ mb i w) (h1 : τ 97 28 = 1) (hs : srt w = 14) (hp : τ 109 i = 1) (hn : vp_in (nmb w) 4) (h : mLP d v K (mAsk (fst1 w) (sg (sg τ 112 (nmb w).toNatClampNeg (τ 110 i)) 109 i 1))) : mLP d v K τ := by
  refine lp_asked ha h1 ?_
  obtain ⟨e1, e2, e3, e4, e5, e6⟩ := ha
  have ec : (nI i).toNatClampNeg = i := nI_clamp (by omega)
  have hs' : w &&& 15 = 14 := hs
  refine w_125_0 (sm_node e4 e5 ?_)
  rw [e6]
  refine ⟨vp_in_nI e2 (by decide), w_85_0 ?_⟩
  rw [hs', ec]
  exact ⟨fun q => absurd q (by decide), fun _ => ⟨fun q => absurd q (by decide), fun _ => ⟨fun q => absurd q (by decide), fun _ => ⟨fun q => absurd q (by decide), fun _ => ⟨fun q => absurd q (by decide), fun _ => ⟨fun q => absurd q (by decide), fun _ => ⟨fun q => absurd q (by decide), fun _ => ⟨fun q => absurd q (by decide), fun _ => ⟨fun q => absurd q (by decide), fun _ => ⟨fun q => absurd q (by decide), fun _ => ⟨fun q => absurd q (by decide), fun _ => ⟨fun q => absurd q (by decide), fun _ => ⟨fun q => absurd q (by decide), fun _ => ⟨fun q => absurd q (by decide), fun _ => ⟨fun _ => ⟨fun q => absurd hp q, fun _ => w_86_0 ⟨hn, w_87_0 ⟨fun _ => sm_ask h, fun q => absurd (hp.symm.trans q) (by decide)⟩⟩⟩, fun q => absurd rfl q⟩⟩⟩⟩⟩⟩⟩⟩⟩⟩⟩⟩⟩⟩⟩
theorem tt_alt {w : Int32} (ha : mAt τ mb i w) (h0 : τ 97 28 = 0) (h1 : τ 97 29 = 1) (hs : srt w = 3)  (h : mYl d v K (τ 97 30) τ) : mLP d v K τ := by
  refine lp_told ha h0 h1 ?_
  obtain ⟨e1, e2, e3, e4, e5, e6⟩ := ha
  have ec : (nI i).toNatClampNeg = i := nI_clamp (by omega)
  have hs' : w &&& 15 = 3 := hs
  refine w_128_0 (sm_node e4 e5 ?_)
  rw [e6]
  refine w_85_0 ?_
  rw [hs']
  exact ⟨fun q => absurd rfl q, fun _ => sm_yields e1 e2 h⟩
theorem tt_fst {w : Int32} (ha : mAt τ mb i w) (h0 : τ 97 28 = 0) (h1 : τ 97 29 = 1) (hs : srt w = 11)  (h : mYl d v K (τ 97 30) (sg τ 110 i (τ 110 i + 1))) : mLP d v K τ := by
  refine lp_told ha h0 h1 ?_
  obtain ⟨e1, e2, e3, e4, e5, e6⟩ := ha
  have ec : (nI i).toNatClampNeg = i := nI_clamp (by omega)
  have hs' : w &&& 15 = 11 := hs
  refine w_128_0 (sm_node e4 e5 ?_)
  rw [e6]
  refine w_85_0 ?_
  rw [hs']
  exact ⟨fun _ => ⟨fun q => absurd rfl q, fun _ => ⟨vp_in_nI e2 (by decide), by rw [ec]; exact sm_yields (τ := sg τ 110 i (τ 110 i + 1)) e1 e2 h⟩⟩, fun q => absurd q (by decide)⟩
theorem tt_not {w : Int32} (ha : mAt τ mb i w) (h0 : τ 97 28 = 0) (h1 : τ 97 29 = 1) (hs : srt w = 12)  (h : mLP d v K (mNone τ)) : mLP d v K τ := by
  refine lp_told ha h0 h1 ?_
  obtain ⟨e1, e2, e3, e4, e5, e6⟩ := ha
  have ec : (nI i).toNatClampNeg = i := nI_clamp (by omega)
  have hs' : w &&& 15 = 12 := hs
  refine w_128_0 (sm_node e4 e5 ?_)
  rw [e6]
  refine w_85_0 ?_
  rw [hs']
  exact ⟨fun _ => ⟨fun _ => ⟨fun q => absurd rfl q, fun _ => sm_none e1 e2 h⟩, fun q => absurd q (by decide)⟩, fun q => absurd q (by decide)⟩
theorem tt_set_13 {w : Int32} (ha : mAt τ mb i w) (h0 : τ 97 28 = 0) (h1 : τ 97 29 = 1) (hs : srt w = 13) (hn : vp_in (nmb w) 4) (h : mYl d v K (τ 97 30) (sg (sg τ 110 i (τ 112 (nmb w).toNatClampNeg)) 112 (nmb w).toNatClampNeg (τ 97 30))) : mLP d v K τ := by
  refine lp_told ha h0 h1 ?_
  obtain ⟨e1, e2, e3, e4, e5, e6⟩ := ha
  have ec : (nI i).toNatClampNeg = i := nI_clamp (by omega)
  have hs' : w &&& 15 = 13 := hs
  refine w_128_0 (sm_node e4 e5 ?_)
  rw [e6]
  refine w_85_0 ?_
  rw [hs']
  exact ⟨fun _ => ⟨fun _ => ⟨fun _ => ⟨fun _ => w_86_0 ⟨hn, vp_in_nI e2 (by decide), by rw [ec]; exact w_86_0 ⟨hn, sm_yields (τ := sg (sg τ 110 i (τ 112 (nmb w).toNatClampNeg)) 112 (nmb w).toNatClampNeg (τ 97 30)) e1 e2 h⟩⟩, fun q => absurd rfl q⟩, fun q => absurd q (by decide)⟩, fun q => absurd q (by decide)⟩, fun q => absurd q (by decide)⟩
theorem tt_set_14 {w : Int32} (ha : mAt τ mb i w) (h0 : τ 97 28 = 0) (h1 : τ 97 29 = 1) (hs : srt w = 14) (hn : vp_in (nmb w) 4) (h : mYl d v K (τ 97 30) (sg (sg τ 110 i (τ 112 (nmb w).toNatClampNeg)) 112 (nmb w).toNatClampNeg (τ 97 30))) : mLP d v K τ := by
  refine lp_told ha h0 h1 ?_
  obtain ⟨e1, e2, e3, e4, e5, e6⟩ := ha
  have ec : (nI i).toNatClampNeg = i := nI_clamp (by omega)
  have hs' : w &&& 15 = 14 := hs
  refine w_128_0 (sm_node e4 e5 ?_)
  rw [e6]
  refine w_85_0 ?_
  rw [hs']
  exact ⟨fun _ => ⟨fun _ => ⟨fun _ => ⟨fun q => absurd q (by decide), fun _ => ⟨fun q => absurd rfl q, fun _ => w_86_0 ⟨hn, vp_in_nI e2 (by decide), by rw [ec]; exact w_86_0 ⟨hn, sm_yields (τ := sg (sg τ 110 i (τ 112 (nmb w).toNatClampNeg)) 112 (nmb w).toNatClampNeg (τ 97 30)) e1 e2 h⟩⟩⟩⟩, fun q => absurd q (by decide)⟩, fun q => absurd q (by decide)⟩, fun q => absurd q (by decide)⟩
theorem tt_one_2 {w : Int32} (ha : mAt τ mb i w) (h0 : τ 97 28 = 0) (h1 : τ 97 29 = 1) (hs : srt w = 2) (hp : τ 109 i = 1) (hf : vp_in (snd1 w) 60) (h : mLP d v K (mAskN (snd1 w) (sg (sg τ 113 i (τ 97 30)) 109 i 2))) : mLP d v K τ := by
  refine lp_told ha h0 h1 ?_
  obtain ⟨e1, e2, e3, e4, e5, e6⟩ := ha
  have ec : (nI i).toNatClampNeg = i := nI_clamp (by omega)
  have hs' : w &&& 15 = 2 := hs
  refine w_128_0 (sm_node e4 e5 ?_)
  rw [e6]
  refine w_85_0 ?_
  rw [hs']
  exact ⟨fun _ => ⟨fun _ => ⟨fun _ => ⟨fun q => absurd q (by decide), fun _ => ⟨fun _ => ⟨vp_in_nI e2 (by decide), by rw [ec]; exact ⟨fun q => absurd hp q, fun _ => w_88_0 (sm_askN hf h)⟩⟩, fun q => absurd q (by decide)⟩⟩, fun q => absurd q (by decide)⟩, fun q => absurd q (by decide)⟩, fun q => absurd q (by decide)⟩
theorem tt_one_4 {w : Int32} (ha : mAt τ mb i w) (h0 : τ 97 28 = 0) (h1 : τ 97 29 = 1) (hs : srt w = 4) (hp : τ 109 i = 1) (hf : vp_in (snd1 w) 60) (h : mLP d v K (mAskN (snd1 w) (sg (sg τ 113 i (τ 97 30)) 109 i 2))) : mLP d v K τ := by
  refine lp_told ha h0 h1 ?_
  obtain ⟨e1, e2, e3, e4, e5, e6⟩ := ha
  have ec : (nI i).toNatClampNeg = i := nI_clamp (by omega)
  have hs' : w &&& 15 = 4 := hs
  refine w_128_0 (sm_node e4 e5 ?_)
  rw [e6]
  refine w_85_0 ?_
  rw [hs']
  exact ⟨fun _ => ⟨fun _ => ⟨fun _ => ⟨fun q => absurd q (by decide), fun _ => ⟨fun _ => ⟨vp_in_nI e2 (by decide), by rw [ec]; exact ⟨fun q => absurd hp q, fun _ => w_88_0 (sm_askN hf h)⟩⟩, fun q => absurd q (by decide)⟩⟩, fun q => absurd q (by decide)⟩, fun q => absurd q (by decide)⟩, fun q => absurd q (by decide)⟩
theorem tt_one_5 {w : Int32} (ha : mAt τ mb i w) (h0 : τ 97 28 = 0) (h1 : τ 97 29 = 1) (hs : srt w = 5) (hp : τ 109 i = 1) (hf : vp_in (snd1 w) 60) (h : mLP d v K (mAskN (snd1 w) (sg (sg τ 113 i (τ 97 30)) 109 i 2))) : mLP d v K τ := by
  refine lp_told ha h0 h1 ?_
  obtain ⟨e1, e2, e3, e4, e5, e6⟩ := ha
  have ec : (nI i).toNatClampNeg = i := nI_clamp (by omega)
  have hs' : w &&& 15 = 5 := hs
  refine w_128_0 (sm_node e4 e5 ?_)
  rw [e6]
  refine w_85_0 ?_
  rw [hs']
  exact ⟨fun _ => ⟨fun _ => ⟨fun _ => ⟨fun q => absurd q (by decide), fun _ => ⟨fun _ => ⟨vp_in_nI e2 (by decide), by rw [ec]; exact ⟨fun q => absurd hp q, fun _ => w_88_0 (sm_askN hf h)⟩⟩, fun q => absurd q (by decide)⟩⟩, fun q => absurd q (by decide)⟩, fun q => absurd q (by decide)⟩, fun q => absurd q (by decide)⟩
theorem tt_one_6 {w : Int32} (ha : mAt τ mb i w) (h0 : τ 97 28 = 0) (h1 : τ 97 29 = 1) (hs : srt w = 6) (hp : τ 109 i = 1) (hf : vp_in (snd1 w) 60) (h : mLP d v K (mAskN (snd1 w) (sg (sg τ 113 i (τ 97 30)) 109 i 2))) : mLP d v K τ := by
  refine lp_told ha h0 h1 ?_
  obtain ⟨e1, e2, e3, e4, e5, e6⟩ := ha
  have ec : (nI i).toNatClampNeg = i := nI_clamp (by omega)
  have hs' : w &&& 15 = 6 := hs
  refine w_128_0 (sm_node e4 e5 ?_)
  rw [e6]
  refine w_85_0 ?_
  rw [hs']
  exact ⟨fun _ => ⟨fun _ => ⟨fun _ => ⟨fun q => absurd q (by decide), fun _ => ⟨fun _ => ⟨vp_in_nI e2 (by decide), by rw [ec]; exact ⟨fun q => absurd hp q, fun _ => w_88_0 (sm_askN hf h)⟩⟩, fun q => absurd q (by decide)⟩⟩, fun q => absurd q (by decide)⟩, fun q => absurd q (by decide)⟩, fun q => absurd q (by decide)⟩
theorem tt_one_7 {w : Int32} (ha : mAt τ mb i w) (h0 : τ 97 28 = 0) (h1 : τ 97 29 = 1) (hs : srt w = 7) (hp : τ 109 i = 1) (hf : vp_in (snd1 w) 60) (h : mLP d v K (mAskN (snd1 w) (sg (sg τ 113 i (τ 97 30)) 109 i 2))) : mLP d v K τ := by
  refine lp_told ha h0 h1 ?_
  obtain ⟨e1, e2, e3, e4, e5, e6⟩ := ha
  have ec : (nI i).toNatClampNeg = i := nI_clamp (by omega)
  have hs' : w &&& 15 = 7 := hs
  refine w_128_0 (sm_node e4 e5 ?_)
  rw [e6]
  refine w_85_0 ?_
  rw [hs']
  exact ⟨fun _ => ⟨fun _ => ⟨fun _ => ⟨fun q => absurd q (by decide), fun _ => ⟨fun _ => ⟨vp_in_nI e2 (by decide), by rw [ec]; exact ⟨fun q => absurd hp q, fun _ => w_88_0 (sm_askN hf h)⟩⟩, fun q => absurd q (by decide)⟩⟩, fun q => absurd q (by decide)⟩, fun q => absurd q (by decide)⟩, fun q => absurd q (by decide)⟩
theorem tt_one_8 {w : Int32} (ha : mAt τ mb i w) (h0 : τ 97 28 = 0) (h1 : τ 97 29 = 1) (hs : srt w = 8) (hp : τ 109 i = 1) (hf : vp_in (snd1 w) 60) (h : mLP d v K (mAskN (snd1 w) (sg (sg τ 113 i (τ 97 30)) 109 i 2))) : mLP d v K τ := by
  refine lp_told ha h0 h1 ?_
  obtain ⟨e1, e2, e3, e4, e5, e6⟩ := ha
  have ec : (nI i).toNatClampNeg = i := nI_clamp (by omega)
  have hs' : w &&& 15 = 8 := hs
  refine w_128_0 (sm_node e4 e5 ?_)
  rw [e6]
  refine w_85_0 ?_
  rw [hs']
  exact ⟨fun _ => ⟨fun _ => ⟨fun _ => ⟨fun q => absurd q (by decide), fun _ => ⟨fun _ => ⟨vp_in_nI e2 (by decide), by rw [ec]; exact ⟨fun q => absurd hp q, fun _ => w_88_0 (sm_askN hf h)⟩⟩, fun q => absurd q (by decide)⟩⟩, fun q => absurd q (by decide)⟩, fun q => absurd q (by decide)⟩, fun q => absurd q (by decide)⟩
theorem tt_one_9 {w : Int32} (ha : mAt τ mb i w) (h0 : τ 97 28 = 0) (h1 : τ 97 29 = 1) (hs : srt w = 9) (hp : τ 109 i = 1) (hf : vp_in (snd1 w) 60) (h : mLP d v K (mAskN (snd1 w) (sg (sg τ 113 i (τ 97 30)) 109 i 2))) : mLP d v K τ := by
  refine lp_told ha h0 h1 ?_
  obtain ⟨e1, e2, e3, e4, e5, e6⟩ := ha
  have ec : (nI i).toNatClampNeg = i := nI_clamp (by omega)
  have hs' : w &&& 15 = 9 := hs
  refine w_128_0 (sm_node e4 e5 ?_)
  rw [e6]
  refine w_85_0 ?_
  rw [hs']
  exact ⟨fun _ => ⟨fun _ => ⟨fun _ => ⟨fun q => absurd q (by decide), fun _ => ⟨fun _ => ⟨vp_in_nI e2 (by decide), by rw [ec]; exact ⟨fun q => absurd hp q, fun _ => w_88_0 (sm_askN hf h)⟩⟩, fun q => absurd q (by decide)⟩⟩, fun q => absurd q (by decide)⟩, fun q => absurd q (by decide)⟩, fun q => absurd q (by decide)⟩
theorem tt_one_10 {w : Int32} (ha : mAt τ mb i w) (h0 : τ 97 28 = 0) (h1 : τ 97 29 = 1) (hs : srt w = 10) (hp : τ 109 i = 1) (hf : vp_in (snd1 w) 60) (h : mLP d v K (mAskN (snd1 w) (sg (sg τ 113 i (τ 97 30)) 109 i 2))) : mLP d v K τ := by
  refine lp_told ha h0 h1 ?_
  obtain ⟨e1, e2, e3, e4, e5, e6⟩ := ha
  have ec : (nI i).toNatClampNeg = i := nI_clamp (by omega)
  have hs' : w &&& 15 = 10 := hs
  refine w_128_0 (sm_node e4 e5 ?_)
  rw [e6]
  refine w_85_0 ?_
  rw [hs']
  exact ⟨fun _ => ⟨fun _ => ⟨fun _ => ⟨fun q => absurd q (by decide), fun _ => ⟨fun _ => ⟨vp_in_nI e2 (by decide), by rw [ec]; exact ⟨fun q => absurd hp q, fun _ => w_88_0 (sm_askN hf h)⟩⟩, fun q => absurd q (by decide)⟩⟩, fun q => absurd q (by decide)⟩, fun q => absurd q (by decide)⟩, fun q => absurd q (by decide)⟩
theorem tt_and {w : Int32} (ha : mAt τ mb i w) (h0 : τ 97 28 = 0) (h1 : τ 97 29 = 1) (hs : srt w = 2) (hp : τ 109 i = 2) (h : mYl d v K (τ 97 30) τ) : mLP d v K τ := by
  refine lp_told ha h0 h1 ?_
  obtain ⟨e1, e2, e3, e4, e5, e6⟩ := ha
  have ec : (nI i).toNatClampNeg = i := nI_clamp (by omega)
  have hs' : w &&& 15 = 2 := hs
  refine w_128_0 (sm_node e4 e5 ?_)
  rw [e6]
  refine w_85_0 ?_
  rw [hs']
  exact ⟨fun _ => ⟨fun _ => ⟨fun _ => ⟨fun q => absurd q (by decide), fun _ => ⟨fun _ => ⟨vp_in_nI e2 (by decide), by rw [ec]; exact ⟨fun _ => w_129_0 ⟨fun q => absurd rfl q, fun _ => sm_yields e1 e2 h⟩, fun q => absurd (hp.symm.trans q) (by decide)⟩⟩, fun q => absurd q (by decide)⟩⟩, fun q => absurd q (by decide)⟩, fun q => absurd q (by decide)⟩, fun q => absurd q (by decide)⟩
theorem tt_rngY {w : Int32} (ha : mAt τ mb i w) (h0 : τ 97 28 = 0) (h1 : τ 97 29 = 1) (hs : srt w = 7) (hp : τ 109 i = 2) (hl : ¬ τ 97 30 < τ 113 i) (h : mYl d v K (τ 113 i) (sg (sg (sg τ 109 i 3) 110 i (τ 113 i)) 111 i (τ 97 30))) : mLP d v K τ := by
  refine lp_told ha h0 h1 ?_
  obtain ⟨e1, e2, e3, e4, e5, e6⟩ := ha
  have ec : (nI i).toNatClampNeg = i := nI_clamp (by omega)
  have hs' : w &&& 15 = 7 := hs
  refine w_128_0 (sm_node e4 e5 ?_)
  rw [e6]
  refine w_85_0 ?_
  rw [hs']
  exact ⟨fun _ => ⟨fun _ => ⟨fun _ => ⟨fun q => absurd q (by decide), fun _ => ⟨fun _ => ⟨vp_in_nI e2 (by decide), by rw [ec]; exact ⟨fun _ => w_129_0 ⟨fun _ => ⟨fun q => absurd rfl q, fun _ => ⟨vp_in_nI e2 (by decide), by rw [ec]; exact ⟨fun q => absurd q hl, fun _ => sm_yields (τ := sg (sg (sg τ 109 i 3) 110 i (τ 113 i)) 111 i (τ 97 30)) e1 e2 (by rw [sg_same]; exact h)⟩⟩⟩, fun q => absurd q (by decide)⟩, fun q => absurd (hp.symm.trans q) (by decide)⟩⟩, fun q => absurd q (by decide)⟩⟩, fun q => absurd q (by decide)⟩, fun q => absurd q (by decide)⟩, fun q => absurd q (by decide)⟩
theorem tt_rngN {w : Int32} (ha : mAt τ mb i w) (h0 : τ 97 28 = 0) (h1 : τ 97 29 = 1) (hs : srt w = 7) (hp : τ 109 i = 2) (hl : τ 97 30 < τ 113 i) (h : mLP d v K (mAsk (snd1 w) τ)) : mLP d v K τ := by
  refine lp_told ha h0 h1 ?_
  obtain ⟨e1, e2, e3, e4, e5, e6⟩ := ha
  have ec : (nI i).toNatClampNeg = i := nI_clamp (by omega)
  have hs' : w &&& 15 = 7 := hs
  refine w_128_0 (sm_node e4 e5 ?_)
  rw [e6]
  refine w_85_0 ?_
  rw [hs']
  exact ⟨fun _ => ⟨fun _ => ⟨fun _ => ⟨fun q => absurd q (by decide), fun _ => ⟨fun _ => ⟨vp_in_nI e2 (by decide), by rw [ec]; exact ⟨fun _ => w_129_0 ⟨fun _ => ⟨fun q => absurd rfl q, fun _ => ⟨vp_in_nI e2 (by decide), by rw [ec]; exact ⟨fun _ => sm_node e4 e5 (by rw [e6]; exact w_88_0 (sm_ask h)), fun q => absurd hl q⟩⟩⟩, fun q => absurd q (by decide)⟩, fun q => absurd (hp.symm.trans q) (by decide)⟩⟩, fun q => absurd q (by decide)⟩⟩, fun q => absurd q (by decide)⟩, fun q => absurd q (by decide)⟩, fun q => absurd q (by decide)⟩
/-- whether both are done by the sign, and what comes -/
def mDone (s x y : Int32) : Bool := if s = 4 then decide (x < y) else if s = 5 then decide (y < x) else if s = 6 then decide (x = y) else numC (if s = 8 then x.toInt64 + y.toInt64 else if s = 9 then x.toInt64 - y.toInt64 else x.toInt64 * y.toInt64)
def mBy (s x y : Int32) : Int32 := if s = 8 then x + y else if s = 9 then x - y else if s = 10 then x * y else y
theorem sm_by {s x y : Int32} (h : K (mBy s x y) τ) : yR d 124 0 [some (.int s), some (.int x), some (.int y)] [] τ (qI K) := by
  unfold mBy at h
  refine w_124_0 ⟨fun q => ⟨fun q2 => ⟨fun q3 => ?_, fun q3 => ?_⟩, fun q2 => ?_⟩, fun q => ?_⟩
  · rw [if_neg q, if_neg q2, if_neg q3] at h; exact h
  · rw [if_neg q, if_neg q2, if_pos q3] at h; exact h
  · rw [if_neg q, if_pos q2] at h; exact h
  · rw [if_pos q] at h; exact h
theorem sm_cmp {x : Int64} (h : K (b2 (numC x)) τ) : ((lg_cmp x (-999999) < 0 → K 0 τ) ∧ (¬ lg_cmp x (-999999) < 0 → ((0 < lg_cmp x 999999 → K 0 τ) ∧ (¬ 0 < lg_cmp x 999999 → K 1 τ)))) := by
  unfold numC at h
  refine ⟨fun q => ?_, fun q => ⟨fun q2 => ?_, fun q2 => ?_⟩⟩
  · rw [decide_eq_false (fun z => z.1 q)] at h; exact h
  · rw [decide_eq_false (fun z => z.2 q2)] at h; exact h
  · rw [decide_eq_true ⟨q, q2⟩] at h; exact h
theorem sm_done {s x y : Int32} (h : K (b2 (mDone s x y)) τ) : yR d 123 0 [some (.int s), some (.int x), some (.int y), none, none] [] τ (qI K) := by
  unfold mDone at h
  have lt1 : ∀ a b : Int32, K (b2 (decide (a < b))) τ → ((b ≤ a → K 0 τ) ∧ (¬ b ≤ a → K 1 τ)) := fun a b h => ⟨fun z => by rw [decide_eq_false (Int32.not_lt.mpr z)] at h; exact h, fun z => by rw [decide_eq_true (Int32.not_le.mp z)] at h; exact h⟩
  have eq1 : ∀ a b : Int32, K (b2 (decide (a = b))) τ → ((¬ a = b → K 0 τ) ∧ (a = b → K 1 τ)) := fun a b h => ⟨fun z => by rw [decide_eq_false z] at h; exact h, fun z => by rw [decide_eq_true z] at h; exact h⟩
  refine w_123_0 ⟨fun q8 => ⟨fun q9 => ⟨fun q4 => ⟨fun q5 => ⟨fun q6 => ?_, fun q6 => ?_⟩, fun q5 => ?_⟩, fun q4 => ?_⟩, fun q9 => ⟨fun q4 => ⟨fun q5 => ⟨fun q6 => ?_, fun q6 => ?_⟩, fun q5 => ?_⟩, fun q4 => ?_⟩⟩, fun q8 => ⟨fun q4 => ⟨fun q5 => ⟨fun q6 => ?_, fun q6 => ?_⟩, fun q5 => ?_⟩, fun q4 => ?_⟩⟩
  · rw [if_neg q4, if_neg q5, if_neg q6, if_neg q8, if_neg q9] at h; exact sm_cmp h
  · rw [if_neg q4, if_neg q5, if_pos q6] at h; exact eq1 _ _ h
  · rw [if_neg q4, if_pos q5] at h; exact lt1 _ _ h
  · rw [if_pos q4] at h; exact lt1 _ _ h
  · rw [if_neg q4, if_neg q5, if_neg q6, if_neg q8, if_pos q9] at h; exact sm_cmp h
  · rw [if_neg q4, if_neg q5, if_pos q6] at h; exact eq1 _ _ h
  · rw [if_neg q4, if_pos q5] at h; exact lt1 _ _ h
  · rw [if_pos q4] at h; exact lt1 _ _ h
  · rw [if_neg q4, if_neg q5, if_neg q6, if_pos q8] at h; exact sm_cmp h
  · rw [if_neg q4, if_neg q5, if_pos q6] at h; exact eq1 _ _ h
  · rw [if_neg q4, if_pos q5] at h; exact lt1 _ _ h
  · rw [if_pos q4] at h; exact lt1 _ _ h
theorem tt_opY_4 {w : Int32} (ha : mAt τ mb i w) (h0 : τ 97 28 = 0) (h1 : τ 97 29 = 1) (hs : srt w = 4) (hp : τ 109 i = 2) (hl : mDone 4 (τ 113 i) (τ 97 30) = true) (h : mYl d v K (mBy 4 (τ 113 i) (τ 97 30)) τ) : mLP d v K τ := by
  refine lp_told ha h0 h1 ?_
  obtain ⟨e1, e2, e3, e4, e5, e6⟩ := ha
  have ec : (nI i).toNatClampNeg = i := nI_clamp (by omega)
  have hs' : w &&& 15 = 4 := hs
  refine w_128_0 (sm_node e4 e5 ?_)
  rw [e6]
  refine w_85_0 ?_
  rw [hs']
  exact ⟨fun _ => ⟨fun _ => ⟨fun _ => ⟨fun q => absurd q (by decide), fun _ => ⟨fun _ => ⟨vp_in_nI e2 (by decide), by rw [ec]; exact ⟨fun _ => w_129_0 ⟨fun _ => ⟨fun _ => ⟨vp_in_nI e2 (by decide), by rw [ec]; exact sm_done (by rw [hl]; exact br_t2 (sm_by (sm_yields e1 e2 h)))⟩, fun q => absurd q (by decide)⟩, fun q => absurd q (by decide)⟩, fun q => absurd (hp.symm.trans q) (by decide)⟩⟩, fun q => absurd q (by decide)⟩⟩, fun q => absurd q (by decide)⟩, fun q => absurd q (by decide)⟩, fun q => absurd q (by decide)⟩
theorem tt_opN_4 {w : Int32} (ha : mAt τ mb i w) (h0 : τ 97 28 = 0) (h1 : τ 97 29 = 1) (hs : srt w = 4) (hp : τ 109 i = 2) (hl : mDone 4 (τ 113 i) (τ 97 30) = false) (h : mLP d v K (mAsk (snd1 w) τ)) : mLP d v K τ := by
  refine lp_told ha h0 h1 ?_
  obtain ⟨e1, e2, e3, e4, e5, e6⟩ := ha
  have ec : (nI i).toNatClampNeg = i := nI_clamp (by omega)
  have hs' : w &&& 15 = 4 := hs
  refine w_128_0 (sm_node e4 e5 ?_)
  rw [e6]
  refine w_85_0 ?_
  rw [hs']
  exact ⟨fun _ => ⟨fun _ => ⟨fun _ => ⟨fun q => absurd q (by decide), fun _ => ⟨fun _ => ⟨vp_in_nI e2 (by decide), by rw [ec]; exact ⟨fun _ => w_129_0 ⟨fun _ => ⟨fun _ => ⟨vp_in_nI e2 (by decide), by rw [ec]; exact sm_done (by rw [hl]; exact br_f2 (sm_node e4 e5 (by rw [e6]; exact w_88_0 (sm_ask h))))⟩, fun q => absurd q (by decide)⟩, fun q => absurd q (by decide)⟩, fun q => absurd (hp.symm.trans q) (by decide)⟩⟩, fun q => absurd q (by decide)⟩⟩, fun q => absurd q (by decide)⟩, fun q => absurd q (by decide)⟩, fun q => absurd q (by decide)⟩
theorem tt_opY_5 {w : Int32} (ha : mAt τ mb i w) (h0 : τ 97 28 = 0) (h1 : τ 97 29 = 1) (hs : srt w = 5) (hp : τ 109 i = 2) (hl : mDone 5 (τ 113 i) (τ 97 30) = true) (h : mYl d v K (mBy 5 (τ 113 i) (τ 97 30)) τ) : mLP d v K τ := by
  refine lp_told ha h0 h1 ?_
  obtain ⟨e1, e2, e3, e4, e5, e6⟩ := ha
  have ec : (nI i).toNatClampNeg = i := nI_clamp (by omega)
  have hs' : w &&& 15 = 5 := hs
  refine w_128_0 (sm_node e4 e5 ?_)
  rw [e6]
  refine w_85_0 ?_
  rw [hs']
  exact ⟨fun _ => ⟨fun _ => ⟨fun _ => ⟨fun q => absurd q (by decide), fun _ => ⟨fun _ => ⟨vp_in_nI e2 (by decide), by rw [ec]; exact ⟨fun _ => w_129_0 ⟨fun _ => ⟨fun _ => ⟨vp_in_nI e2 (by decide), by rw [ec]; exact sm_done (by rw [hl]; exact br_t2 (sm_by (sm_yields e1 e2 h)))⟩, fun q => absurd q (by decide)⟩, fun q => absurd q (by decide)⟩, fun q => absurd (hp.symm.trans q) (by decide)⟩⟩, fun q => absurd q (by decide)⟩⟩, fun q => absurd q (by decide)⟩, fun q => absurd q (by decide)⟩, fun q => absurd q (by decide)⟩
theorem tt_opN_5 {w : Int32} (ha : mAt τ mb i w) (h0 : τ 97 28 = 0) (h1 : τ 97 29 = 1) (hs : srt w = 5) (hp : τ 109 i = 2) (hl : mDone 5 (τ 113 i) (τ 97 30) = false) (h : mLP d v K (mAsk (snd1 w) τ)) : mLP d v K τ := by
  refine lp_told ha h0 h1 ?_
  obtain ⟨e1, e2, e3, e4, e5, e6⟩ := ha
  have ec : (nI i).toNatClampNeg = i := nI_clamp (by omega)
  have hs' : w &&& 15 = 5 := hs
  refine w_128_0 (sm_node e4 e5 ?_)
  rw [e6]
  refine w_85_0 ?_
  rw [hs']
  exact ⟨fun _ => ⟨fun _ => ⟨fun _ => ⟨fun q => absurd q (by decide), fun _ => ⟨fun _ => ⟨vp_in_nI e2 (by decide), by rw [ec]; exact ⟨fun _ => w_129_0 ⟨fun _ => ⟨fun _ => ⟨vp_in_nI e2 (by decide), by rw [ec]; exact sm_done (by rw [hl]; exact br_f2 (sm_node e4 e5 (by rw [e6]; exact w_88_0 (sm_ask h))))⟩, fun q => absurd q (by decide)⟩, fun q => absurd q (by decide)⟩, fun q => absurd (hp.symm.trans q) (by decide)⟩⟩, fun q => absurd q (by decide)⟩⟩, fun q => absurd q (by decide)⟩, fun q => absurd q (by decide)⟩, fun q => absurd q (by decide)⟩
theorem tt_opY_6 {w : Int32} (ha : mAt τ mb i w) (h0 : τ 97 28 = 0) (h1 : τ 97 29 = 1) (hs : srt w = 6) (hp : τ 109 i = 2) (hl : mDone 6 (τ 113 i) (τ 97 30) = true) (h : mYl d v K (mBy 6 (τ 113 i) (τ 97 30)) τ) : mLP d v K τ := by
  refine lp_told ha h0 h1 ?_
  obtain ⟨e1, e2, e3, e4, e5, e6⟩ := ha
  have ec : (nI i).toNatClampNeg = i := nI_clamp (by omega)
  have hs' : w &&& 15 = 6 := hs
  refine w_128_0 (sm_node e4 e5 ?_)
  rw [e6]
  refine w_85_0 ?_
  rw [hs']
  exact ⟨fun _ => ⟨fun _ => ⟨fun _ => ⟨fun q => absurd q (by decide), fun _ => ⟨fun _ => ⟨vp_in_nI e2 (by decide), by rw [ec]; exact ⟨fun _ => w_129_0 ⟨fun _ => ⟨fun _ => ⟨vp_in_nI e2 (by decide), by rw [ec]; exact sm_done (by rw [hl]; exact br_t2 (sm_by (sm_yields e1 e2 h)))⟩, fun q => absurd q (by decide)⟩, fun q => absurd q (by decide)⟩, fun q => absurd (hp.symm.trans q) (by decide)⟩⟩, fun q => absurd q (by decide)⟩⟩, fun q => absurd q (by decide)⟩, fun q => absurd q (by decide)⟩, fun q => absurd q (by decide)⟩
theorem tt_opN_6 {w : Int32} (ha : mAt τ mb i w) (h0 : τ 97 28 = 0) (h1 : τ 97 29 = 1) (hs : srt w = 6) (hp : τ 109 i = 2) (hl : mDone 6 (τ 113 i) (τ 97 30) = false) (h : mLP d v K (mAsk (snd1 w) τ)) : mLP d v K τ := by
  refine lp_told ha h0 h1 ?_
  obtain ⟨e1, e2, e3, e4, e5, e6⟩ := ha
  have ec : (nI i).toNatClampNeg = i := nI_clamp (by omega)
  have hs' : w &&& 15 = 6 := hs
  refine w_128_0 (sm_node e4 e5 ?_)
  rw [e6]
  refine w_85_0 ?_
  rw [hs']
  exact ⟨fun _ => ⟨fun _ => ⟨fun _ => ⟨fun q => absurd q (by decide), fun _ => ⟨fun _ => ⟨vp_in_nI e2 (by decide), by rw [ec]; exact ⟨fun _ => w_129_0 ⟨fun _ => ⟨fun _ => ⟨vp_in_nI e2 (by decide), by rw [ec]; exact sm_done (by rw [hl]; exact br_f2 (sm_node e4 e5 (by rw [e6]; exact w_88_0 (sm_ask h))))⟩, fun q => absurd q (by decide)⟩, fun q => absurd q (by decide)⟩, fun q => absurd (hp.symm.trans q) (by decide)⟩⟩, fun q => absurd q (by decide)⟩⟩, fun q => absurd q (by decide)⟩, fun q => absurd q (by decide)⟩, fun q => absurd q (by decide)⟩
theorem tt_opY_8 {w : Int32} (ha : mAt τ mb i w) (h0 : τ 97 28 = 0) (h1 : τ 97 29 = 1) (hs : srt w = 8) (hp : τ 109 i = 2) (hl : mDone 8 (τ 113 i) (τ 97 30) = true) (h : mYl d v K (mBy 8 (τ 113 i) (τ 97 30)) τ) : mLP d v K τ := by
  refine lp_told ha h0 h1 ?_
  obtain ⟨e1, e2, e3, e4, e5, e6⟩ := ha
  have ec : (nI i).toNatClampNeg = i := nI_clamp (by omega)
  have hs' : w &&& 15 = 8 := hs
  refine w_128_0 (sm_node e4 e5 ?_)
  rw [e6]
  refine w_85_0 ?_
  rw [hs']
  exact ⟨fun _ => ⟨fun _ => ⟨fun _ => ⟨fun q => absurd q (by decide), fun _ => ⟨fun _ => ⟨vp_in_nI e2 (by decide), by rw [ec]; exact ⟨fun _ => w_129_0 ⟨fun _ => ⟨fun _ => ⟨vp_in_nI e2 (by decide), by rw [ec]; exact sm_done (by rw [hl]; exact br_t2 (sm_by (sm_yields e1 e2 h)))⟩, fun q => absurd q (by decide)⟩, fun q => absurd q (by decide)⟩, fun q => absurd (hp.symm.trans q) (by decide)⟩⟩, fun q => absurd q (by decide)⟩⟩, fun q => absurd q (by decide)⟩, fun q => absurd q (by decide)⟩, fun q => absurd q (by decide)⟩
theorem tt_opN_8 {w : Int32} (ha : mAt τ mb i w) (h0 : τ 97 28 = 0) (h1 : τ 97 29 = 1) (hs : srt w = 8) (hp : τ 109 i = 2) (hl : mDone 8 (τ 113 i) (τ 97 30) = false) (h : mLP d v K (mAsk (snd1 w) τ)) : mLP d v K τ := by
  refine lp_told ha h0 h1 ?_
  obtain ⟨e1, e2, e3, e4, e5, e6⟩ := ha
  have ec : (nI i).toNatClampNeg = i := nI_clamp (by omega)
  have hs' : w &&& 15 = 8 := hs
  refine w_128_0 (sm_node e4 e5 ?_)
  rw [e6]
  refine w_85_0 ?_
  rw [hs']
  exact ⟨fun _ => ⟨fun _ => ⟨fun _ => ⟨fun q => absurd q (by decide), fun _ => ⟨fun _ => ⟨vp_in_nI e2 (by decide), by rw [ec]; exact ⟨fun _ => w_129_0 ⟨fun _ => ⟨fun _ => ⟨vp_in_nI e2 (by decide), by rw [ec]; exact sm_done (by rw [hl]; exact br_f2 (sm_node e4 e5 (by rw [e6]; exact w_88_0 (sm_ask h))))⟩, fun q => absurd q (by decide)⟩, fun q => absurd q (by decide)⟩, fun q => absurd (hp.symm.trans q) (by decide)⟩⟩, fun q => absurd q (by decide)⟩⟩, fun q => absurd q (by decide)⟩, fun q => absurd q (by decide)⟩, fun q => absurd q (by decide)⟩
theorem tt_opY_9 {w : Int32} (ha : mAt τ mb i w) (h0 : τ 97 28 = 0) (h1 : τ 97 29 = 1) (hs : srt w = 9) (hp : τ 109 i = 2) (hl : mDone 9 (τ 113 i) (τ 97 30) = true) (h : mYl d v K (mBy 9 (τ 113 i) (τ 97 30)) τ) : mLP d v K τ := by
  refine lp_told ha h0 h1 ?_
  obtain ⟨e1, e2, e3, e4, e5, e6⟩ := ha
  have ec : (nI i).toNatClampNeg = i := nI_clamp (by omega)
  have hs' : w &&& 15 = 9 := hs
  refine w_128_0 (sm_node e4 e5 ?_)
  rw [e6]
  refine w_85_0 ?_
  rw [hs']
  exact ⟨fun _ => ⟨fun _ => ⟨fun _ => ⟨fun q => absurd q (by decide), fun _ => ⟨fun _ => ⟨vp_in_nI e2 (by decide), by rw [ec]; exact ⟨fun _ => w_129_0 ⟨fun _ => ⟨fun _ => ⟨vp_in_nI e2 (by decide), by rw [ec]; exact sm_done (by rw [hl]; exact br_t2 (sm_by (sm_yields e1 e2 h)))⟩, fun q => absurd q (by decide)⟩, fun q => absurd q (by decide)⟩, fun q => absurd (hp.symm.trans q) (by decide)⟩⟩, fun q => absurd q (by decide)⟩⟩, fun q => absurd q (by decide)⟩, fun q => absurd q (by decide)⟩, fun q => absurd q (by decide)⟩
theorem tt_opN_9 {w : Int32} (ha : mAt τ mb i w) (h0 : τ 97 28 = 0) (h1 : τ 97 29 = 1) (hs : srt w = 9) (hp : τ 109 i = 2) (hl : mDone 9 (τ 113 i) (τ 97 30) = false) (h : mLP d v K (mAsk (snd1 w) τ)) : mLP d v K τ := by
  refine lp_told ha h0 h1 ?_
  obtain ⟨e1, e2, e3, e4, e5, e6⟩ := ha
  have ec : (nI i).toNatClampNeg = i := nI_clamp (by omega)
  have hs' : w &&& 15 = 9 := hs
  refine w_128_0 (sm_node e4 e5 ?_)
  rw [e6]
  refine w_85_0 ?_
  rw [hs']
  exact ⟨fun _ => ⟨fun _ => ⟨fun _ => ⟨fun q => absurd q (by decide), fun _ => ⟨fun _ => ⟨vp_in_nI e2 (by decide), by rw [ec]; exact ⟨fun _ => w_129_0 ⟨fun _ => ⟨fun _ => ⟨vp_in_nI e2 (by decide), by rw [ec]; exact sm_done (by rw [hl]; exact br_f2 (sm_node e4 e5 (by rw [e6]; exact w_88_0 (sm_ask h))))⟩, fun q => absurd q (by decide)⟩, fun q => absurd q (by decide)⟩, fun q => absurd (hp.symm.trans q) (by decide)⟩⟩, fun q => absurd q (by decide)⟩⟩, fun q => absurd q (by decide)⟩, fun q => absurd q (by decide)⟩, fun q => absurd q (by decide)⟩
theorem tt_opY_10 {w : Int32} (ha : mAt τ mb i w) (h0 : τ 97 28 = 0) (h1 : τ 97 29 = 1) (hs : srt w = 10) (hp : τ 109 i = 2) (hl : mDone 10 (τ 113 i) (τ 97 30) = true) (h : mYl d v K (mBy 10 (τ 113 i) (τ 97 30)) τ) : mLP d v K τ := by
  refine lp_told ha h0 h1 ?_
  obtain ⟨e1, e2, e3, e4, e5, e6⟩ := ha
  have ec : (nI i).toNatClampNeg = i := nI_clamp (by omega)
  have hs' : w &&& 15 = 10 := hs
  refine w_128_0 (sm_node e4 e5 ?_)
  rw [e6]
  refine w_85_0 ?_
  rw [hs']
  exact ⟨fun _ => ⟨fun _ => ⟨fun _ => ⟨fun q => absurd q (by decide), fun _ => ⟨fun _ => ⟨vp_in_nI e2 (by decide), by rw [ec]; exact ⟨fun _ => w_129_0 ⟨fun _ => ⟨fun _ => ⟨vp_in_nI e2 (by decide), by rw [ec]; exact sm_done (by rw [hl]; exact br_t2 (sm_by (sm_yields e1 e2 h)))⟩, fun q => absurd q (by decide)⟩, fun q => absurd q (by decide)⟩, fun q => absurd (hp.symm.trans q) (by decide)⟩⟩, fun q => absurd q (by decide)⟩⟩, fun q => absurd q (by decide)⟩, fun q => absurd q (by decide)⟩, fun q => absurd q (by decide)⟩
theorem tt_opN_10 {w : Int32} (ha : mAt τ mb i w) (h0 : τ 97 28 = 0) (h1 : τ 97 29 = 1) (hs : srt w = 10) (hp : τ 109 i = 2) (hl : mDone 10 (τ 113 i) (τ 97 30) = false) (h : mLP d v K (mAsk (snd1 w) τ)) : mLP d v K τ := by
  refine lp_told ha h0 h1 ?_
  obtain ⟨e1, e2, e3, e4, e5, e6⟩ := ha
  have ec : (nI i).toNatClampNeg = i := nI_clamp (by omega)
  have hs' : w &&& 15 = 10 := hs
  refine w_128_0 (sm_node e4 e5 ?_)
  rw [e6]
  refine w_85_0 ?_
  rw [hs']
  exact ⟨fun _ => ⟨fun _ => ⟨fun _ => ⟨fun q => absurd q (by decide), fun _ => ⟨fun _ => ⟨vp_in_nI e2 (by decide), by rw [ec]; exact ⟨fun _ => w_129_0 ⟨fun _ => ⟨fun _ => ⟨vp_in_nI e2 (by decide), by rw [ec]; exact sm_done (by rw [hl]; exact br_f2 (sm_node e4 e5 (by rw [e6]; exact w_88_0 (sm_ask h))))⟩, fun q => absurd q (by decide)⟩, fun q => absurd q (by decide)⟩, fun q => absurd (hp.symm.trans q) (by decide)⟩⟩, fun q => absurd q (by decide)⟩⟩, fun q => absurd q (by decide)⟩, fun q => absurd q (by decide)⟩, fun q => absurd q (by decide)⟩
theorem te_not {w : Int32} (ha : mAt τ mb i w) (h0 : τ 97 28 = 0) (h1 : τ 97 29 = 0) (hs : srt w = 12)  (h : mYl d v K 0 τ) : mLP d v K τ := by
  refine lp_ended ha h0 h1 ?_
  obtain ⟨e1, e2, e3, e4, e5, e6⟩ := ha
  have ec : (nI i).toNatClampNeg = i := nI_clamp (by omega)
  have hs' : w &&& 15 = 12 := hs
  refine w_130_0 (sm_node e4 e5 ?_)
  rw [e6]
  refine w_85_0 ?_
  rw [hs']
  exact ⟨fun q => absurd rfl q, fun _ => sm_yields e1 e2 h⟩
theorem te_alt1 {w : Int32} (ha : mAt τ mb i w) (h0 : τ 97 28 = 0) (h1 : τ 97 29 = 0) (hs : srt w = 3) (hp : τ 109 i = 1) (hf : vp_in (snd1 w) 60) (h : mLP d v K (mAskN (snd1 w) (sg τ 109 i 2))) : mLP d v K τ := by
  refine lp_ended ha h0 h1 ?_
  obtain ⟨e1, e2, e3, e4, e5, e6⟩ := ha
  have ec : (nI i).toNatClampNeg = i := nI_clamp (by omega)
  have hs' : w &&& 15 = 3 := hs
  refine w_130_0 (sm_node e4 e5 ?_)
  rw [e6]
  refine w_85_0 ?_
  rw [hs']
  exact ⟨fun _ => ⟨fun q => absurd rfl q, fun _ => ⟨vp_in_nI e2 (by decide), by rw [ec]; exact ⟨fun q => absurd hp q, fun _ => w_88_0 (sm_askN hf h)⟩⟩⟩, fun q => absurd q (by decide)⟩
theorem te_alt2 {w : Int32} (ha : mAt τ mb i w) (h0 : τ 97 28 = 0) (h1 : τ 97 29 = 0) (hs : srt w = 3) (hp : ¬ τ 109 i = 1) (h : mLP d v K (mNone τ)) : mLP d v K τ := by
  refine lp_ended ha h0 h1 ?_
  obtain ⟨e1, e2, e3, e4, e5, e6⟩ := ha
  have ec : (nI i).toNatClampNeg = i := nI_clamp (by omega)
  have hs' : w &&& 15 = 3 := hs
  refine w_130_0 (sm_node e4 e5 ?_)
  rw [e6]
  refine w_85_0 ?_
  rw [hs']
  exact ⟨fun _ => ⟨fun q => absurd rfl q, fun _ => ⟨vp_in_nI e2 (by decide), by rw [ec]; exact ⟨fun _ => sm_none e1 e2 h, fun q => absurd q hp⟩⟩⟩, fun q => absurd q (by decide)⟩
theorem te_two2_2 {w : Int32} (ha : mAt τ mb i w) (h0 : τ 97 28 = 0) (h1 : τ 97 29 = 0) (hs : srt w = 2) (hp : τ 109 i = 2) (h : mLP d v K (mAsk (fst1 w) (sg τ 109 i 1))) : mLP d v K τ := by
  refine lp_ended ha h0 h1 ?_
  obtain ⟨e1, e2, e3, e4, e5, e6⟩ := ha
  have ec : (nI i).toNatClampNeg = i := nI_clamp (by omega)
  have hs' : w &&& 15 = 2 := hs
  refine w_130_0 (sm_node e4 e5 ?_)
  rw [e6]
  refine w_85_0 ?_
  rw [hs']
  exact ⟨fun _ => ⟨fun _ => w_90_0 (sm_in (fun _ _ => ⟨yB1, br_t2 ⟨vp_in_nI e2 (by decide), by rw [ec]; exact ⟨fun q => absurd hp q, fun _ => w_87_0 (sm_ask h)⟩⟩⟩) (fun q => absurd q (by decide))), fun q => absurd q (by decide)⟩, fun q => absurd q (by decide)⟩
theorem te_two1_2 {w : Int32} (ha : mAt τ mb i w) (h0 : τ 97 28 = 0) (h1 : τ 97 29 = 0) (hs : srt w = 2) (hp : ¬ τ 109 i = 2) (h : mLP d v K (mNone τ)) : mLP d v K τ := by
  refine lp_ended ha h0 h1 ?_
  obtain ⟨e1, e2, e3, e4, e5, e6⟩ := ha
  have ec : (nI i).toNatClampNeg = i := nI_clamp (by omega)
  have hs' : w &&& 15 = 2 := hs
  refine w_130_0 (sm_node e4 e5 ?_)
  rw [e6]
  refine w_85_0 ?_
  rw [hs']
  exact ⟨fun _ => ⟨fun _ => w_90_0 (sm_in (fun _ _ => ⟨yB1, br_t2 ⟨vp_in_nI e2 (by decide), by rw [ec]; exact ⟨fun _ => sm_none e1 e2 h, fun q => absurd q hp⟩⟩⟩) (fun q => absurd q (by decide))), fun q => absurd q (by decide)⟩, fun q => absurd q (by decide)⟩
theorem te_two2_4 {w : Int32} (ha : mAt τ mb i w) (h0 : τ 97 28 = 0) (h1 : τ 97 29 = 0) (hs : srt w = 4) (hp : τ 109 i = 2) (h : mLP d v K (mAsk (fst1 w) (sg τ 109 i 1))) : mLP d v K τ := by
  refine lp_ended ha h0 h1 ?_
  obtain ⟨e1, e2, e3, e4, e5, e6⟩ := ha
  have ec : (nI i).toNatClampNeg = i := nI_clamp (by omega)
  have hs' : w &&& 15 = 4 := hs
  refine w_130_0 (sm_node e4 e5 ?_)
  rw [e6]
  refine w_85_0 ?_
  rw [hs']
  exact ⟨fun _ => ⟨fun _ => w_90_0 (sm_in (fun _ _ => ⟨yB1, br_t2 ⟨vp_in_nI e2 (by decide), by rw [ec]; exact ⟨fun q => absurd hp q, fun _ => w_87_0 (sm_ask h)⟩⟩⟩) (fun q => absurd q (by decide))), fun q => absurd q (by decide)⟩, fun q => absurd q (by decide)⟩
theorem te_two1_4 {w : Int32} (ha : mAt τ mb i w) (h0 : τ 97 28 = 0) (h1 : τ 97 29 = 0) (hs : srt w = 4) (hp : ¬ τ 109 i = 2) (h : mLP d v K (mNone τ)) : mLP d v K τ := by
  refine lp_ended ha h0 h1 ?_
  obtain ⟨e1, e2, e3, e4, e5, e6⟩ := ha
  have ec : (nI i).toNatClampNeg = i := nI_clamp (by omega)
  have hs' : w &&& 15 = 4 := hs
  refine w_130_0 (sm_node e4 e5 ?_)
  rw [e6]
  refine w_85_0 ?_
  rw [hs']
  exact ⟨fun _ => ⟨fun _ => w_90_0 (sm_in (fun _ _ => ⟨yB1, br_t2 ⟨vp_in_nI e2 (by decide), by rw [ec]; exact ⟨fun _ => sm_none e1 e2 h, fun q => absurd q hp⟩⟩⟩) (fun q => absurd q (by decide))), fun q => absurd q (by decide)⟩, fun q => absurd q (by decide)⟩
theorem te_two2_5 {w : Int32} (ha : mAt τ mb i w) (h0 : τ 97 28 = 0) (h1 : τ 97 29 = 0) (hs : srt w = 5) (hp : τ 109 i = 2) (h : mLP d v K (mAsk (fst1 w) (sg τ 109 i 1))) : mLP d v K τ := by
  refine lp_ended ha h0 h1 ?_
  obtain ⟨e1, e2, e3, e4, e5, e6⟩ := ha
  have ec : (nI i).toNatClampNeg = i := nI_clamp (by omega)
  have hs' : w &&& 15 = 5 := hs
  refine w_130_0 (sm_node e4 e5 ?_)
  rw [e6]
  refine w_85_0 ?_
  rw [hs']
  exact ⟨fun _ => ⟨fun _ => w_90_0 (sm_in (fun _ _ => ⟨yB1, br_t2 ⟨vp_in_nI e2 (by decide), by rw [ec]; exact ⟨fun q => absurd hp q, fun _ => w_87_0 (sm_ask h)⟩⟩⟩) (fun q => absurd q (by decide))), fun q => absurd q (by decide)⟩, fun q => absurd q (by decide)⟩
theorem te_two1_5 {w : Int32} (ha : mAt τ mb i w) (h0 : τ 97 28 = 0) (h1 : τ 97 29 = 0) (hs : srt w = 5) (hp : ¬ τ 109 i = 2) (h : mLP d v K (mNone τ)) : mLP d v K τ := by
  refine lp_ended ha h0 h1 ?_
  obtain ⟨e1, e2, e3, e4, e5, e6⟩ := ha
  have ec : (nI i).toNatClampNeg = i := nI_clamp (by omega)
  have hs' : w &&& 15 = 5 := hs
  refine w_130_0 (sm_node e4 e5 ?_)
  rw [e6]
  refine w_85_0 ?_
  rw [hs']
  exact ⟨fun _ => ⟨fun _ => w_90_0 (sm_in (fun _ _ => ⟨yB1, br_t2 ⟨vp_in_nI e2 (by decide), by rw [ec]; exact ⟨fun _ => sm_none e1 e2 h, fun q => absurd q hp⟩⟩⟩) (fun q => absurd q (by decide))), fun q => absurd q (by decide)⟩, fun q => absurd q (by decide)⟩
theorem te_two2_6 {w : Int32} (ha : mAt τ mb i w) (h0 : τ 97 28 = 0) (h1 : τ 97 29 = 0) (hs : srt w = 6) (hp : τ 109 i = 2) (h : mLP d v K (mAsk (fst1 w) (sg τ 109 i 1))) : mLP d v K τ := by
  refine lp_ended ha h0 h1 ?_
  obtain ⟨e1, e2, e3, e4, e5, e6⟩ := ha
  have ec : (nI i).toNatClampNeg = i := nI_clamp (by omega)
  have hs' : w &&& 15 = 6 := hs
  refine w_130_0 (sm_node e4 e5 ?_)
  rw [e6]
  refine w_85_0 ?_
  rw [hs']
  exact ⟨fun _ => ⟨fun _ => w_90_0 (sm_in (fun _ _ => ⟨yB1, br_t2 ⟨vp_in_nI e2 (by decide), by rw [ec]; exact ⟨fun q => absurd hp q, fun _ => w_87_0 (sm_ask h)⟩⟩⟩) (fun q => absurd q (by decide))), fun q => absurd q (by decide)⟩, fun q => absurd q (by decide)⟩
theorem te_two1_6 {w : Int32} (ha : mAt τ mb i w) (h0 : τ 97 28 = 0) (h1 : τ 97 29 = 0) (hs : srt w = 6) (hp : ¬ τ 109 i = 2) (h : mLP d v K (mNone τ)) : mLP d v K τ := by
  refine lp_ended ha h0 h1 ?_
  obtain ⟨e1, e2, e3, e4, e5, e6⟩ := ha
  have ec : (nI i).toNatClampNeg = i := nI_clamp (by omega)
  have hs' : w &&& 15 = 6 := hs
  refine w_130_0 (sm_node e4 e5 ?_)
  rw [e6]
  refine w_85_0 ?_
  rw [hs']
  exact ⟨fun _ => ⟨fun _ => w_90_0 (sm_in (fun _ _ => ⟨yB1, br_t2 ⟨vp_in_nI e2 (by decide), by rw [ec]; exact ⟨fun _ => sm_none e1 e2 h, fun q => absurd q hp⟩⟩⟩) (fun q => absurd q (by decide))), fun q => absurd q (by decide)⟩, fun q => absurd q (by decide)⟩
theorem te_two2_7 {w : Int32} (ha : mAt τ mb i w) (h0 : τ 97 28 = 0) (h1 : τ 97 29 = 0) (hs : srt w = 7) (hp : τ 109 i = 2) (h : mLP d v K (mAsk (fst1 w) (sg τ 109 i 1))) : mLP d v K τ := by
  refine lp_ended ha h0 h1 ?_
  obtain ⟨e1, e2, e3, e4, e5, e6⟩ := ha
  have ec : (nI i).toNatClampNeg = i := nI_clamp (by omega)
  have hs' : w &&& 15 = 7 := hs
  refine w_130_0 (sm_node e4 e5 ?_)
  rw [e6]
  refine w_85_0 ?_
  rw [hs']
  exact ⟨fun _ => ⟨fun _ => w_90_0 (sm_in (fun _ _ => ⟨yB1, br_t2 ⟨vp_in_nI e2 (by decide), by rw [ec]; exact ⟨fun q => absurd hp q, fun _ => w_87_0 (sm_ask h)⟩⟩⟩) (fun q => absurd q (by decide))), fun q => absurd q (by decide)⟩, fun q => absurd q (by decide)⟩
theorem te_two1_7 {w : Int32} (ha : mAt τ mb i w) (h0 : τ 97 28 = 0) (h1 : τ 97 29 = 0) (hs : srt w = 7) (hp : ¬ τ 109 i = 2) (h : mLP d v K (mNone τ)) : mLP d v K τ := by
  refine lp_ended ha h0 h1 ?_
  obtain ⟨e1, e2, e3, e4, e5, e6⟩ := ha
  have ec : (nI i).toNatClampNeg = i := nI_clamp (by omega)
  have hs' : w &&& 15 = 7 := hs
  refine w_130_0 (sm_node e4 e5 ?_)
  rw [e6]
  refine w_85_0 ?_
  rw [hs']
  exact ⟨fun _ => ⟨fun _ => w_90_0 (sm_in (fun _ _ => ⟨yB1, br_t2 ⟨vp_in_nI e2 (by decide), by rw [ec]; exact ⟨fun _ => sm_none e1 e2 h, fun q => absurd q hp⟩⟩⟩) (fun q => absurd q (by decide))), fun q => absurd q (by decide)⟩, fun q => absurd q (by decide)⟩
theorem te_two2_8 {w : Int32} (ha : mAt τ mb i w) (h0 : τ 97 28 = 0) (h1 : τ 97 29 = 0) (hs : srt w = 8) (hp : τ 109 i = 2) (h : mLP d v K (mAsk (fst1 w) (sg τ 109 i 1))) : mLP d v K τ := by
  refine lp_ended ha h0 h1 ?_
  obtain ⟨e1, e2, e3, e4, e5, e6⟩ := ha
  have ec : (nI i).toNatClampNeg = i := nI_clamp (by omega)
  have hs' : w &&& 15 = 8 := hs
  refine w_130_0 (sm_node e4 e5 ?_)
  rw [e6]
  refine w_85_0 ?_
  rw [hs']
  exact ⟨fun _ => ⟨fun _ => w_90_0 (sm_in (fun _ _ => ⟨yB1, br_t2 ⟨vp_in_nI e2 (by decide), by rw [ec]; exact ⟨fun q => absurd hp q, fun _ => w_87_0 (sm_ask h)⟩⟩⟩) (fun q => absurd q (by decide))), fun q => absurd q (by decide)⟩, fun q => absurd q (by decide)⟩
theorem te_two1_8 {w : Int32} (ha : mAt τ mb i w) (h0 : τ 97 28 = 0) (h1 : τ 97 29 = 0) (hs : srt w = 8) (hp : ¬ τ 109 i = 2) (h : mLP d v K (mNone τ)) : mLP d v K τ := by
  refine lp_ended ha h0 h1 ?_
  obtain ⟨e1, e2, e3, e4, e5, e6⟩ := ha
  have ec : (nI i).toNatClampNeg = i := nI_clamp (by omega)
  have hs' : w &&& 15 = 8 := hs
  refine w_130_0 (sm_node e4 e5 ?_)
  rw [e6]
  refine w_85_0 ?_
  rw [hs']
  exact ⟨fun _ => ⟨fun _ => w_90_0 (sm_in (fun _ _ => ⟨yB1, br_t2 ⟨vp_in_nI e2 (by decide), by rw [ec]; exact ⟨fun _ => sm_none e1 e2 h, fun q => absurd q hp⟩⟩⟩) (fun q => absurd q (by decide))), fun q => absurd q (by decide)⟩, fun q => absurd q (by decide)⟩
theorem te_two2_9 {w : Int32} (ha : mAt τ mb i w) (h0 : τ 97 28 = 0) (h1 : τ 97 29 = 0) (hs : srt w = 9) (hp : τ 109 i = 2) (h : mLP d v K (mAsk (fst1 w) (sg τ 109 i 1))) : mLP d v K τ := by
  refine lp_ended ha h0 h1 ?_
  obtain ⟨e1, e2, e3, e4, e5, e6⟩ := ha
  have ec : (nI i).toNatClampNeg = i := nI_clamp (by omega)
  have hs' : w &&& 15 = 9 := hs
  refine w_130_0 (sm_node e4 e5 ?_)
  rw [e6]
  refine w_85_0 ?_
  rw [hs']
  exact ⟨fun _ => ⟨fun _ => w_90_0 (sm_in (fun _ _ => ⟨yB1, br_t2 ⟨vp_in_nI e2 (by decide), by rw [ec]; exact ⟨fun q => absurd hp q, fun _ => w_87_0 (sm_ask h)⟩⟩⟩) (fun q => absurd q (by decide))), fun q => absurd q (by decide)⟩, fun q => absurd q (by decide)⟩
theorem te_two1_9 {w : Int32} (ha : mAt τ mb i w) (h0 : τ 97 28 = 0) (h1 : τ 97 29 = 0) (hs : srt w = 9) (hp : ¬ τ 109 i = 2) (h : mLP d v K (mNone τ)) : mLP d v K τ := by
  refine lp_ended ha h0 h1 ?_
  obtain ⟨e1, e2, e3, e4, e5, e6⟩ := ha
  have ec : (nI i).toNatClampNeg = i := nI_clamp (by omega)
  have hs' : w &&& 15 = 9 := hs
  refine w_130_0 (sm_node e4 e5 ?_)
  rw [e6]
  refine w_85_0 ?_
  rw [hs']
  exact ⟨fun _ => ⟨fun _ => w_90_0 (sm_in (fun _ _ => ⟨yB1, br_t2 ⟨vp_in_nI e2 (by decide), by rw [ec]; exact ⟨fun _ => sm_none e1 e2 h, fun q => absurd q hp⟩⟩⟩) (fun q => absurd q (by decide))), fun q => absurd q (by decide)⟩, fun q => absurd q (by decide)⟩
theorem te_two2_10 {w : Int32} (ha : mAt τ mb i w) (h0 : τ 97 28 = 0) (h1 : τ 97 29 = 0) (hs : srt w = 10) (hp : τ 109 i = 2) (h : mLP d v K (mAsk (fst1 w) (sg τ 109 i 1))) : mLP d v K τ := by
  refine lp_ended ha h0 h1 ?_
  obtain ⟨e1, e2, e3, e4, e5, e6⟩ := ha
  have ec : (nI i).toNatClampNeg = i := nI_clamp (by omega)
  have hs' : w &&& 15 = 10 := hs
  refine w_130_0 (sm_node e4 e5 ?_)
  rw [e6]
  refine w_85_0 ?_
  rw [hs']
  exact ⟨fun _ => ⟨fun _ => w_90_0 (sm_in (fun _ _ => ⟨yB1, br_t2 ⟨vp_in_nI e2 (by decide), by rw [ec]; exact ⟨fun q => absurd hp q, fun _ => w_87_0 (sm_ask h)⟩⟩⟩) (fun q => absurd q (by decide))), fun q => absurd q (by decide)⟩, fun q => absurd q (by decide)⟩
theorem te_two1_10 {w : Int32} (ha : mAt τ mb i w) (h0 : τ 97 28 = 0) (h1 : τ 97 29 = 0) (hs : srt w = 10) (hp : ¬ τ 109 i = 2) (h : mLP d v K (mNone τ)) : mLP d v K τ := by
  refine lp_ended ha h0 h1 ?_
  obtain ⟨e1, e2, e3, e4, e5, e6⟩ := ha
  have ec : (nI i).toNatClampNeg = i := nI_clamp (by omega)
  have hs' : w &&& 15 = 10 := hs
  refine w_130_0 (sm_node e4 e5 ?_)
  rw [e6]
  refine w_85_0 ?_
  rw [hs']
  exact ⟨fun _ => ⟨fun _ => w_90_0 (sm_in (fun _ _ => ⟨yB1, br_t2 ⟨vp_in_nI e2 (by decide), by rw [ec]; exact ⟨fun _ => sm_none e1 e2 h, fun q => absurd q hp⟩⟩⟩) (fun q => absurd q (by decide))), fun q => absurd q (by decide)⟩, fun q => absurd q (by decide)⟩
theorem te_un_11 {w : Int32} (ha : mAt τ mb i w) (h0 : τ 97 28 = 0) (h1 : τ 97 29 = 0) (hs : srt w = 11)  (h : mLP d v K (mNone τ)) : mLP d v K τ := by
  refine lp_ended ha h0 h1 ?_
  obtain ⟨e1, e2, e3, e4, e5, e6⟩ := ha
  have ec : (nI i).toNatClampNeg = i := nI_clamp (by omega)
  have hs' : w &&& 15 = 11 := hs
  refine w_130_0 (sm_node e4 e5 ?_)
  rw [e6]
  refine w_85_0 ?_
  rw [hs']
  exact ⟨fun _ => ⟨fun _ => w_90_0 (sm_in (fun q1 q2 => absurd (And.intro q1 q2) (by decide)) (fun _ => ⟨yB0, br_f2 (sm_none e1 e2 h)⟩)), fun q => absurd q (by decide)⟩, fun q => absurd q (by decide)⟩
theorem te_un_13 {w : Int32} (ha : mAt τ mb i w) (h0 : τ 97 28 = 0) (h1 : τ 97 29 = 0) (hs : srt w = 13)  (h : mLP d v K (mNone τ)) : mLP d v K τ := by
  refine lp_ended ha h0 h1 ?_
  obtain ⟨e1, e2, e3, e4, e5, e6⟩ := ha
  have ec : (nI i).toNatClampNeg = i := nI_clamp (by omega)
  have hs' : w &&& 15 = 13 := hs
  refine w_130_0 (sm_node e4 e5 ?_)
  rw [e6]
  refine w_85_0 ?_
  rw [hs']
  exact ⟨fun _ => ⟨fun _ => w_90_0 (sm_in (fun q1 q2 => absurd (And.intro q1 q2) (by decide)) (fun _ => ⟨yB0, br_f2 (sm_none e1 e2 h)⟩)), fun q => absurd q (by decide)⟩, fun q => absurd q (by decide)⟩
theorem te_un_14 {w : Int32} (ha : mAt τ mb i w) (h0 : τ 97 28 = 0) (h1 : τ 97 29 = 0) (hs : srt w = 14)  (h : mLP d v K (mNone τ)) : mLP d v K τ := by
  refine lp_ended ha h0 h1 ?_
  obtain ⟨e1, e2, e3, e4, e5, e6⟩ := ha
  have ec : (nI i).toNatClampNeg = i := nI_clamp (by omega)
  have hs' : w &&& 15 = 14 := hs
  refine w_130_0 (sm_node e4 e5 ?_)
  rw [e6]
  refine w_85_0 ?_
  rw [hs']
  exact ⟨fun _ => ⟨fun _ => w_90_0 (sm_in (fun q1 q2 => absurd (And.intro q1 q2) (by decide)) (fun _ => ⟨yB0, br_f2 (sm_none e1 e2 h)⟩)), fun q => absurd q (by decide)⟩, fun q => absurd q (by decide)⟩
end MT
