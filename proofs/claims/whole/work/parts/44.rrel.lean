/-! THE TWO READERS: the relation between the class's pile (γ) and the reference's signs and parts (τ) -/
def lvS : Nat → Nat
  | 2 => 2 | 3 => 3 | 4 => 4 | 5 => 4 | 6 => 4 | 7 => 5 | 8 => 6 | 9 => 6 | 10 => 7 | 12 => 8 | 13 => 1 | 14 => 1 | _ => 0
def chS : Nat → Nat
  | 2 => 38 | 3 => 124 | 4 => 60 | 5 => 62 | 6 => 61 | 7 => 126 | 8 => 43 | 9 => 45 | 10 => 42 | 12 => 33 | 13 => 58 | 14 => 94 | _ => 0
def nn : List (Nat × Nat) → Prop
  | [] => True
  | e :: _ => e.1 ≠ 12
def brk : List (Nat × Nat) → Nat
  | [] => 0
  | e :: r => (if e.1 = 15 then 1 else 0) + brk r
section WSD
variable (kd lf rt nb w pt : Nat → Int32) (cb : Nat)
def pnd (q p : Nat) : Prop := kd (cb + p) = nI (chS q) ∧ srt (w p) = nI q ∧ ((q = 13 ∨ q = 14) → nb (cb + p) = nmb (w p) ∧ vp_in (nmb (w p)) 4)
def TrD (lo hi i : Nat) : Prop := Tr kd lf rt nb w trT cb (hi - lo + 1) lo hi i
/-- the pile: s is where what is pending begins, m how many parts lie below -/
def WS : List (Nat × Nat) → Nat → Nat → Prop
  | [], s, m => s = 0 ∧ m = 0
  | (q, p) :: r, s, m => (q = 15 ∧ WS r s m)
    ∨ ((q = 12 ∨ q = 13 ∨ q = 14) ∧ s = p + 1 ∧ pnd kd nb w cb q p ∧ (q ≠ 12 → nn r) ∧ WS r p m)
    ∨ (2 ≤ q ∧ q ≤ 10 ∧ s = p + 1 ∧ pnd kd nb w cb q p ∧ nn r ∧ ∃ b l, b < p ∧ TrD kd lf rt nb w cb b (p - 1) l ∧ lf (cb + p) = nI (cb + l) ∧ 1 ≤ m ∧ pt (m - 1) = nI l ∧ WS r b (m - 1))
end WSD
def SA (cb : Nat) (γ τ : yS) : List (Nat × Nat) → Prop
  | [] => True
  | (q, p) :: r => γ 26 r.length = nI (lvS q) ∧ γ 25 r.length = (if q = 15 then -1 else nI (cb + p)) ∧ τ 106 r.length = nI q ∧ (q ≠ 15 → τ 107 r.length = nI p) ∧ SA cb γ τ r
/-- the lines that are read -/
def FL (cb ln : Nat) (γ τ : yS) : Prop := ∃ sz tp : Nat → Nat, cb = sumN sz ln ∧ ∀ k, k < ln → PLn (γ 15) (γ 16) (γ 17) (γ 18) (γ 19) (γ 20) (γ 21) (γ 22) (γ 23) (τ 103) (sumN sz) sz tp k
def RB (cb N ln : Nat) (st : List (Nat × Nat)) (γ τ : yS) : Prop :=
  (γ 13 3 = nI st.length) ∧ (γ 13 4 = nI (brk st)) ∧ (γ 13 6 = nI (cb + N)) ∧ (γ 13 7 = nI cb) ∧ (γ 14 10 = nI ln) ∧ (ln < 8) ∧ (brk st ≤ 9) ∧ (cb + N ≤ 60) ∧ (τ 97 8 = -1999999) ∧ (τ 97 10 = nI cb) ∧ (τ 97 11 = nI (cb + N)) ∧ (τ 97 17 = nI st.length) ∧ (τ 97 18 = nI (brk st)) ∧ (τ 103 0 = nI ln) ∧ (γ 20 ln = τ 103 (1 + ln)) ∧ (γ 20 ln = 0 ∨ γ 20 ln = 1) ∧ (γ 22 ln = bitR true (fun j => τ 103 (25 + cb + j)) N 0 0) ∧ (γ 23 ln = bitR false (fun j => τ 103 (25 + cb + j)) N 0 0) ∧ (SA cb γ τ st) ∧ (FL cb ln γ τ)
theorem RB.g3 {cb N ln : Nat} {st : List (Nat × Nat)} {γ τ : yS} (h : RB cb N ln st γ τ) : γ 13 3 = nI st.length := h.1
theorem RB.g4 {cb N ln : Nat} {st : List (Nat × Nat)} {γ τ : yS} (h : RB cb N ln st γ τ) : γ 13 4 = nI (brk st) := h.2.1
theorem RB.g6 {cb N ln : Nat} {st : List (Nat × Nat)} {γ τ : yS} (h : RB cb N ln st γ τ) : γ 13 6 = nI (cb + N) := h.2.2.1
theorem RB.g7 {cb N ln : Nat} {st : List (Nat × Nat)} {γ τ : yS} (h : RB cb N ln st γ τ) : γ 13 7 = nI cb := h.2.2.2.1
theorem RB.gl {cb N ln : Nat} {st : List (Nat × Nat)} {γ τ : yS} (h : RB cb N ln st γ τ) : γ 14 10 = nI ln := h.2.2.2.2.1
theorem RB.l8 {cb N ln : Nat} {st : List (Nat × Nat)} {γ τ : yS} (h : RB cb N ln st γ τ) : ln < 8 := h.2.2.2.2.2.1
theorem RB.b9 {cb N ln : Nat} {st : List (Nat × Nat)} {γ τ : yS} (h : RB cb N ln st γ τ) : brk st ≤ 9 := h.2.2.2.2.2.2.1
theorem RB.n60 {cb N ln : Nat} {st : List (Nat × Nat)} {γ τ : yS} (h : RB cb N ln st γ τ) : cb + N ≤ 60 := h.2.2.2.2.2.2.2.1
theorem RB.t8 {cb N ln : Nat} {st : List (Nat × Nat)} {γ τ : yS} (h : RB cb N ln st γ τ) : τ 97 8 = -1999999 := h.2.2.2.2.2.2.2.2.1
theorem RB.t10 {cb N ln : Nat} {st : List (Nat × Nat)} {γ τ : yS} (h : RB cb N ln st γ τ) : τ 97 10 = nI cb := h.2.2.2.2.2.2.2.2.2.1
theorem RB.t11 {cb N ln : Nat} {st : List (Nat × Nat)} {γ τ : yS} (h : RB cb N ln st γ τ) : τ 97 11 = nI (cb + N) := h.2.2.2.2.2.2.2.2.2.2.1
theorem RB.t17 {cb N ln : Nat} {st : List (Nat × Nat)} {γ τ : yS} (h : RB cb N ln st γ τ) : τ 97 17 = nI st.length := h.2.2.2.2.2.2.2.2.2.2.2.1
theorem RB.t18 {cb N ln : Nat} {st : List (Nat × Nat)} {γ τ : yS} (h : RB cb N ln st γ τ) : τ 97 18 = nI (brk st) := h.2.2.2.2.2.2.2.2.2.2.2.2.1
theorem RB.t0 {cb N ln : Nat} {st : List (Nat × Nat)} {γ τ : yS} (h : RB cb N ln st γ τ) : τ 103 0 = nI ln := h.2.2.2.2.2.2.2.2.2.2.2.2.2.1
theorem RB.ev {cb N ln : Nat} {st : List (Nat × Nat)} {γ τ : yS} (h : RB cb N ln st γ τ) : γ 20 ln = τ 103 (1 + ln) := h.2.2.2.2.2.2.2.2.2.2.2.2.2.2.1
theorem RB.ev2 {cb N ln : Nat} {st : List (Nat × Nat)} {γ τ : yS} (h : RB cb N ln st γ τ) : γ 20 ln = 0 ∨ γ 20 ln = 1 := h.2.2.2.2.2.2.2.2.2.2.2.2.2.2.2.1
theorem RB.nm {cb N ln : Nat} {st : List (Nat × Nat)} {γ τ : yS} (h : RB cb N ln st γ τ) : γ 22 ln = bitR true (fun j => τ 103 (25 + cb + j)) N 0 0 := h.2.2.2.2.2.2.2.2.2.2.2.2.2.2.2.2.1
theorem RB.tg {cb N ln : Nat} {st : List (Nat × Nat)} {γ τ : yS} (h : RB cb N ln st γ τ) : γ 23 ln = bitR false (fun j => τ 103 (25 + cb + j)) N 0 0 := h.2.2.2.2.2.2.2.2.2.2.2.2.2.2.2.2.2.1
theorem RB.sa {cb N ln : Nat} {st : List (Nat × Nat)} {γ τ : yS} (h : RB cb N ln st γ τ) : SA cb γ τ st := h.2.2.2.2.2.2.2.2.2.2.2.2.2.2.2.2.2.2.1
theorem RB.fl {cb N ln : Nat} {st : List (Nat × Nat)} {γ τ : yS} (h : RB cb N ln st γ τ) : FL cb ln γ τ := h.2.2.2.2.2.2.2.2.2.2.2.2.2.2.2.2.2.2.2
/-- with something whole up to here -/
def RX (cb N ln : Nat) (st : List (Nat × Nat)) (s m x : Nat) (γ τ : yS) : Prop :=
  (RB cb N ln st γ τ) ∧ (τ 97 14 = nI (m + 1)) ∧ (WS (γ 15) (γ 16) (γ 17) (γ 18) (fun j => τ 103 (25 + cb + j)) (τ 104) cb st s m) ∧ (s < N) ∧ (TrD (γ 15) (γ 16) (γ 17) (γ 18) (fun j => τ 103 (25 + cb + j)) cb s (N - 1) x) ∧ (γ 13 8 = nI (cb + x)) ∧ (τ 104 m = nI x) ∧ ((τ 105 m = 1 ∧ γ 15 (cb + x) = 97) ∨ (τ 105 m = 0 ∧ γ 15 (cb + x) ≠ 97))
theorem RX.rb {cb N ln : Nat} {st : List (Nat × Nat)} {s m x : Nat} {γ τ : yS} (h : RX cb N ln st s m x γ τ) : RB cb N ln st γ τ := h.1
theorem RX.t14 {cb N ln : Nat} {st : List (Nat × Nat)} {s m x : Nat} {γ τ : yS} (h : RX cb N ln st s m x γ τ) : τ 97 14 = nI (m + 1) := h.2.1
theorem RX.ws {cb N ln : Nat} {st : List (Nat × Nat)} {s m x : Nat} {γ τ : yS} (h : RX cb N ln st s m x γ τ) : WS (γ 15) (γ 16) (γ 17) (γ 18) (fun j => τ 103 (25 + cb + j)) (τ 104) cb st s m := h.2.2.1
theorem RX.sN {cb N ln : Nat} {st : List (Nat × Nat)} {s m x : Nat} {γ τ : yS} (h : RX cb N ln st s m x γ τ) : s < N := h.2.2.2.1
theorem RX.tr {cb N ln : Nat} {st : List (Nat × Nat)} {s m x : Nat} {γ τ : yS} (h : RX cb N ln st s m x γ τ) : TrD (γ 15) (γ 16) (γ 17) (γ 18) (fun j => τ 103 (25 + cb + j)) cb s (N - 1) x := h.2.2.2.2.1
theorem RX.g8 {cb N ln : Nat} {st : List (Nat × Nat)} {s m x : Nat} {γ τ : yS} (h : RX cb N ln st s m x γ τ) : γ 13 8 = nI (cb + x) := h.2.2.2.2.2.1
theorem RX.pt {cb N ln : Nat} {st : List (Nat × Nat)} {s m x : Nat} {γ τ : yS} (h : RX cb N ln st s m x γ τ) : τ 104 m = nI x := h.2.2.2.2.2.2.1
theorem RX.nme {cb N ln : Nat} {st : List (Nat × Nat)} {s m x : Nat} {γ τ : yS} (h : RX cb N ln st s m x γ τ) : (τ 105 m = 1 ∧ γ 15 (cb + x) = 97) ∨ (τ 105 m = 0 ∧ γ 15 (cb + x) ≠ 97) := h.2.2.2.2.2.2.2
/-- before a unit -/
def RU (cb N ln : Nat) (st : List (Nat × Nat)) (m : Nat) (γ τ : yS) : Prop :=
  (RB cb N ln st γ τ) ∧ (γ 13 5 = 1) ∧ (τ 97 14 = nI m) ∧ (WS (γ 15) (γ 16) (γ 17) (γ 18) (fun j => τ 103 (25 + cb + j)) (τ 104) cb st N m)
theorem RU.rb {cb N ln : Nat} {st : List (Nat × Nat)} {m : Nat} {γ τ : yS} (h : RU cb N ln st m γ τ) : RB cb N ln st γ τ := h.1
theorem RU.g5 {cb N ln : Nat} {st : List (Nat × Nat)} {m : Nat} {γ τ : yS} (h : RU cb N ln st m γ τ) : γ 13 5 = 1 := h.2.1
theorem RU.t14 {cb N ln : Nat} {st : List (Nat × Nat)} {m : Nat} {γ τ : yS} (h : RU cb N ln st m γ τ) : τ 97 14 = nI m := h.2.2.1
theorem RU.ws {cb N ln : Nat} {st : List (Nat × Nat)} {m : Nat} {γ τ : yS} (h : RU cb N ln st m γ τ) : WS (γ 15) (γ 16) (γ 17) (γ 18) (fun j => τ 103 (25 + cb + j)) (τ 104) cb st N m := h.2.2.2
/-- what a closing may change in the reference -/
def FD (τ τ' : yS) : Prop := (∀ c, c ≠ 97 → c ≠ 103 → c ≠ 104 → c ≠ 105 → τ' c = τ c) ∧ ∀ j, j ≠ 14 → j ≠ 17 → τ' 97 j = τ 97 j
theorem FD.rf {τ : yS} : FD τ τ := ⟨fun _ _ _ _ _ => rfl, fun _ _ _ => rfl⟩
theorem FD.tr {a b c : yS} (h : FD a b) (g : FD b c) : FD a c := ⟨fun q h1 h2 h3 h4 => (g.1 q h1 h2 h3 h4).trans (h.1 q h1 h2 h3 h4), fun j h1 h2 => (g.2 j h1 h2).trans (h.2 j h1 h2)⟩
theorem WS.cong {kd lf rt nb w pt kd' lf' rt' nb' w' pt' : Nat → Int32} {cb : Nat} : ∀ {st : List (Nat × Nat)} {s m : Nat}, WS kd lf rt nb w pt cb st s m → (∀ j, j < s → kd' (cb + j) = kd (cb + j) ∧ lf' (cb + j) = lf (cb + j) ∧ rt' (cb + j) = rt (cb + j) ∧ nb' (cb + j) = nb (cb + j) ∧ w' j = w j) → (∀ j, j < m → pt' j = pt j) → WS kd' lf' rt' nb' w' pt' cb st s m
  | [], _, _, h, _, _ => h
  | (q, p) :: r, s, m, h, e, e2 => by
    rcases h with ⟨h1, h2⟩ | ⟨h1, h2, h3, h4, h5⟩ | ⟨h1, h2, h3, h4, h5, b, l, h6, h7, h8, h9, h10, h11⟩
    · exact Or.inl ⟨h1, h2.cong e e2⟩
    · obtain ⟨a1, a2, a3, a4, a5⟩ := e p (by omega)
      refine Or.inr (Or.inl ⟨h1, h2, ?_, h4, h5.cong (fun j hj => e j (by omega)) e2⟩)
      unfold pnd
      rw [a1, a4, a5]; exact h3
    · obtain ⟨a1, a2, a3, a4, a5⟩ := e p (by omega)
      refine Or.inr (Or.inr ⟨h1, h2, h3, ?_, h5, b, l, h6, ?_, by rw [a2]; exact h8, h9, by rw [e2 _ (by omega)]; exact h10, h11.cong (fun j hj => e j (by omega)) (fun j hj => e2 j (by omega))⟩)
      · unfold pnd
        rw [a1, a4, a5]; exact h4
      · unfold TrD at h7 ⊢
        exact h7.cong (fun j g1 g2 => e j (by omega))
theorem WS.bd {kd lf rt nb w pt : Nat → Int32} {cb : Nat} : ∀ {st : List (Nat × Nat)} {s m : Nat}, WS kd lf rt nb w pt cb st s m → m ≤ s ∧ st.length ≤ s + brk st
  | [], s, m, h => by obtain ⟨h1, h2⟩ := h; subst h1; subst h2; exact ⟨Nat.le_refl _, Nat.le_refl _⟩
  | (q, p) :: r, s, m, h => by
    show m ≤ s ∧ r.length + 1 ≤ s + ((if q = 15 then 1 else 0) + brk r)
    rcases h with ⟨h1, h2⟩ | ⟨h1, h2, h3, h4, h5⟩ | ⟨h1, h2, h3, h4, h5, b, l, h6, h7, h8, h9, h10, h11⟩
    · have := h2.bd
      rw [if_pos h1]; omega
    · have := h5.bd
      rw [if_neg (by omega)]; omega
    · have := h11.bd
      rw [if_neg (by omega)]; omega
theorem SA.cong {cb : Nat} {γ τ γ' τ' : yS} : ∀ {st : List (Nat × Nat)}, SA cb γ τ st → (∀ j, j < st.length → γ' 25 j = γ 25 j ∧ γ' 26 j = γ 26 j ∧ τ' 106 j = τ 106 j ∧ τ' 107 j = τ 107 j) → SA cb γ' τ' st
  | [], h, _ => h
  | (q, p) :: r, h, e => by
    obtain ⟨h1, h2, h3, h4, h5⟩ := h
    obtain ⟨a1, a2, a3, a4⟩ := e r.length (by show r.length < r.length + 1; omega)
    exact ⟨a2.trans h1, a1.trans h2, a3.trans h3, fun z => a4.trans (h4 z), h5.cong (fun j hj => e j (by show j < r.length + 1; omega))⟩
theorem FL.cong {cb ln : Nat} {γ τ γ' τ' : yS} (h : FL cb ln γ τ) (h60 : cb ≤ 60) (e : ∀ j, j < cb → γ' 15 j = γ 15 j ∧ γ' 16 j = γ 16 j ∧ γ' 17 j = γ 17 j ∧ γ' 18 j = γ 18 j ∧ τ' 103 (25 + j) = τ 103 (25 + j)) (e2 : ∀ k, k < ln → γ' 19 k = γ 19 k ∧ γ' 20 k = γ 20 k ∧ γ' 21 k = γ 21 k ∧ γ' 22 k = γ 22 k ∧ γ' 23 k = γ 23 k ∧ τ' 103 (1 + k) = τ 103 (1 + k) ∧ τ' 103 (9 + k) = τ 103 (9 + k) ∧ τ' 103 (17 + k) = τ 103 (17 + k)) : FL cb ln γ' τ' := by
  obtain ⟨sz, tp, h1, h2⟩ := h
  refine ⟨sz, tp, h1, fun k hk => ?_⟩
  obtain ⟨l1, l2, l3, l4, l5, l6, l7, l8, l9, l10, l11⟩ := h2 k hk
  obtain ⟨a1, a2, a3, a4, a5, a6, a7, a8⟩ := e2 k hk
  have hs : sumN sz k + sz k ≤ cb := by
    rw [h1]
    exact sumN_le (sz := sz) (a := k + 1) (by omega)
  have ew : ∀ j, j < sz k → τ' 103 (25 + sumN sz k + j) = τ 103 (25 + sumN sz k + j) := fun j hj => by
    have := (e (sumN sz k + j) (by omega)).2.2.2.2
    rw [show 25 + (sumN sz k + j) = 25 + sumN sz k + j by omega] at this
    exact this
  unfold PLn
  rw [a1, a2, a3, a4, a5, a6, a7, a8]
  refine ⟨l1, l2, l3, l4, l5, l6, l7, l8, l9.cong (fun j g1 g2 => ?_), ?_, ?_⟩
  · obtain ⟨b1, b2, b3, b4, b5⟩ := e (sumN sz k + j) (by omega)
    exact ⟨b1, b2, b3, b4, ew j (by omega)⟩
  · rw [bitR_cong (w := fun j => τ 103 (25 + sumN sz k + j)) (sz k) 0 0 (fun j g1 g2 => ew j (by omega))]; exact l10
  · rw [bitR_cong (w := fun j => τ 103 (25 + sumN sz k + j)) (sz k) 0 0 (fun j g1 g2 => ew j (by omega))]; exact l11
/-- figures are none of the relation's -/
theorem RB.f10 {cb N ln : Nat} {st : List (Nat × Nat)} {γ τ : yS} {v : Int32} (h : RB cb N ln st γ τ) : RB cb N ln st (sg γ 13 10 v) τ :=
  ⟨h.g3, h.g4, h.g6, h.g7, h.gl, h.l8, h.b9, h.n60, h.t8, h.t10, h.t11, h.t17, h.t18, h.t0, h.ev, h.ev2, h.nm, h.tg, h.sa.cong (fun _ _ => ⟨rfl, rfl, rfl, rfl⟩), h.fl⟩
/-- so is where the reference stands -/
theorem RB.at7 {cb N ln : Nat} {st : List (Nat × Nat)} {γ τ : yS} {v : Int32} (h : RB cb N ln st γ τ) : RB cb N ln st γ (sg τ 97 7 v) :=
  ⟨h.g3, h.g4, h.g6, h.g7, h.gl, h.l8, h.b9, h.n60, h.t8, h.t10, h.t11, h.t17, h.t18, h.t0, h.ev, h.ev2, h.nm, h.tg, h.sa.cong (fun _ _ => ⟨rfl, rfl, rfl, rfl⟩), h.fl⟩
theorem RB.d5 {cb N ln : Nat} {st : List (Nat × Nat)} {γ τ : yS} {v : Int32} (h : RB cb N ln st γ τ) : RB cb N ln st (sg γ 13 5 v) τ :=
  ⟨h.g3, h.g4, h.g6, h.g7, h.gl, h.l8, h.b9, h.n60, h.t8, h.t10, h.t11, h.t17, h.t18, h.t0, h.ev, h.ev2, h.nm, h.tg, h.sa.cong (fun _ _ => ⟨rfl, rfl, rfl, rfl⟩), h.fl⟩
theorem RX.f10 {cb N ln s m x : Nat} {st : List (Nat × Nat)} {γ τ : yS} {v : Int32} (h : RX cb N ln st s m x γ τ) : RX cb N ln st s m x (sg γ 13 10 v) τ := ⟨h.rb.f10, h.t14, h.ws, h.sN, h.tr, h.g8, h.pt, h.nme⟩
theorem RX.at7 {cb N ln s m x : Nat} {st : List (Nat × Nat)} {γ τ : yS} {v : Int32} (h : RX cb N ln st s m x γ τ) : RX cb N ln st s m x γ (sg τ 97 7 v) := ⟨h.rb.at7, h.t14, h.ws, h.sN, h.tr, h.g8, h.pt, h.nme⟩
theorem RX.d5 {cb N ln s m x : Nat} {st : List (Nat × Nat)} {γ τ : yS} {v : Int32} (h : RX cb N ln st s m x γ τ) : RX cb N ln st s m x (sg γ 13 5 v) τ := ⟨h.rb.d5, h.t14, h.ws, h.sN, h.tr, h.g8, h.pt, h.nme⟩
theorem RU.f10 {cb N ln m : Nat} {st : List (Nat × Nat)} {γ τ : yS} {v : Int32} (h : RU cb N ln st m γ τ) : RU cb N ln st m (sg γ 13 10 v) τ := ⟨h.rb.f10, h.g5, h.t14, h.ws⟩
theorem RU.at7 {cb N ln m : Nat} {st : List (Nat × Nat)} {γ τ : yS} {v : Int32} (h : RU cb N ln st m γ τ) : RU cb N ln st m γ (sg τ 97 7 v) := ⟨h.rb.at7, h.g5, h.t14, h.ws⟩
section POP
variable {d : Nat} {γ τ : yS} {KV : yS → Prop} {K : Int32 → yS → Prop} {cb N ln s m x q p : Nat} {st r : List (Nat × Nat)}
/-- what a closing leaves in the reference -/
def CLs (cb : Nat) (τ τ' : yS) (L m p : Nat) (W : Int32) : Prop := FD τ τ' ∧ τ' 97 17 = nI L ∧ τ' 97 14 = nI (m + 1) ∧ (∀ j, j ≠ 25 + cb + p → τ' 103 j = τ 103 j) ∧ τ' 103 (25 + cb + p) = W ∧ (∀ j, j ≠ m → τ' 104 j = τ 104 j) ∧ τ' 104 m = nI p ∧ τ' 105 m = 0
theorem cls_mk {L m p j0 : Nat} {W : Int32} (hj : j0 = 25 + cb + p) {ρ : yS} (hρ : (∀ c, c ≠ 97 → ρ c = τ c) ∧ (∀ j, j ≠ 14 → j ≠ 17 → ρ 97 j = τ 97 j) ∧ ρ 97 17 = nI L ∧ ρ 97 14 = nI m) : CLs cb τ (sg (sg (sg (sg ρ 103 j0 W) 104 m (nI p)) 105 m 0) 97 14 (nI (m + 1))) L m p W := by
  subst hj
  obtain ⟨h1, h2, h3, h4⟩ := hρ
  refine ⟨⟨fun c c1 c2 c3 c4 => ?_, fun j j1 j2 => ?_⟩, ?_, sg_same _ _ _ _, fun j hj => ?_, ?_, fun j hj => ?_, ?_, ?_⟩
  · rw [kp_sg c1, kp_sg c4, kp_sg c3, kp_sg c2]; exact h1 c c1
  · rw [sg_ne _ _ _ j1, kp_sg (by decide), kp_sg (by decide), kp_sg (by decide)]; exact h2 j j1 j2
  · rw [sg_ne _ _ _ (by decide), kp_sg (by decide), kp_sg (by decide), kp_sg (by decide)]; exact h3
  · rw [kp_sg (by decide), kp_sg (by decide), kp_sg (by decide), sg_ne _ _ _ hj, h1 103 (by decide)]
  · rw [kp_sg (by decide), kp_sg (by decide), kp_sg (by decide), sg_same]
  · rw [kp_sg (by decide), kp_sg (by decide), sg_ne _ _ _ hj, kp_sg (by decide), h1 104 (by decide)]
  · rw [kp_sg (by decide), kp_sg (by decide), sg_same]
  · rw [kp_sg (by decide), sg_same]
/-- close, at a sign of two parts -/
theorem sm_close2 {L m q p l x : Nat} (h17 : τ 97 17 = nI (L + 1)) (h14 : τ 97 14 = nI (m + 2)) (hL : L < 80) (hm : m < 60) (hq : τ 106 L = nI q) (hp : τ 107 L = nI p) (q2 : 2 ≤ q) (q10 : q ≤ 10) (h10 : τ 97 10 = nI cb) (hc : cb + p < 60) (hl : τ 104 m = nI l) (hx : τ 104 (m + 1) = nI x) (l60 : l < 60) (x60 : x < 60)
    (hK : ∀ τ', CLs cb τ τ' L m p (mkW q 0 l x) → KV τ') : yR (d + 1 + 1) 104 0 [some (.ref 97), none, none, none] [] τ (qV KV) := by
  have e1 : nI (L + 1) - 1 = nI L := pk_sub (a := L + 1) (b := 1) (by omega)
  have e2 : nI (m + 2) - 1 = nI (m + 1) := pk_sub (a := m + 2) (b := 1) (by omega)
  have e3 : nI (m + 1) - 1 = nI m := pk_sub (a := m + 1) (b := 1) (by omega)
  have e25 : (25 : Int32) + nI cb + nI p = nI (25 + cb + p) := by
    rw [show (25 : Int32) = nI 25 from rfl, nI_add, nI_add]
  have z2 : (2 : Int32) ≤ nI q := (nI_leI (a := 2) (b := q) (by omega) (by omega)).mpr q2
  have z10 : nI q ≤ (10 : Int32) := (nI_leI (a := q) (b := 10) (by omega) (by omega)).mpr q10
  refine w_104_0 ?_
  rw [h17, e1, nI_clamp (by omega), hq, hp, h10, e25, h14, e2]
  refine ⟨vp_in_nI hL (by decide), w_90_0 (sm_in (fun _ _ => ⟨yB1, br_t2 ?_⟩) (fun z => ?_))⟩
  · have a14 : (sg (sg τ 97 17 (nI L)) 97 14 (nI (m + 1))) 97 14 = nI (m + 1) := sg_same _ _ _ _
    rw [a14, e3, nI_1, nI_clamp (by omega), nI_clamp (by omega), nI_clamp (by omega)]
    refine ⟨vp_in_nI (by omega) (by decide), vp_in_nI (by omega) (by decide), w_89_0 ⟨vp_in_nI (by omega) (by decide), w_101_0 ?_⟩⟩
    have b14 : ∀ W : Int32, (sg (sg (sg (sg τ 97 17 (nI L)) 97 14 (nI (m + 1))) 97 14 (nI m)) 103 (25 + cb + p) W) 97 14 = nI m := fun W => rfl
    rw [b14, nI_clamp (by omega), nI_1]
    refine ⟨vp_in_nI (by omega) (by decide), yB0, ?_⟩
    have c1 : (sg (sg τ 97 17 (nI L)) 97 14 (nI (m + 1))) 104 m = nI l := hl
    have c2 : (sg (sg τ 97 17 (nI L)) 97 14 (nI (m + 1))) 104 (m + 1) = nI x := hx
    have eW : (((nI q ||| ((0 : Int32) <<< (4 &&& 31))) ||| (nI l <<< (14 &&& 31))) ||| (nI x <<< (20 &&& 31))) = mkW q 0 l x := mk_eq (n := 0) (by omega) (by omega) (by omega) (by omega)
    rw [c1, c2, eW]
    refine hK _ (cls_mk rfl ⟨fun c hc => ?_, fun j j1 j2 => ?_, ?_, ?_⟩)
    · rw [kp_sg hc, kp_sg hc, kp_sg hc]
    · rw [sg_ne _ _ _ j1, sg_ne _ _ _ j1, sg_ne _ _ _ j2]
    · rw [sg_ne _ _ _ (by decide), sg_ne _ _ _ (by decide), sg_same]
    · exact sg_same _ _ _ _
  · rcases z with z | z
    · exact absurd z2 (Int32.not_le.mpr z)
    · exact absurd z10 (Int32.not_le.mpr z)
/-- close, at a sign of one part -/
theorem sm_close1 {L m q p v x : Nat} (h17 : τ 97 17 = nI (L + 1)) (h14 : τ 97 14 = nI (m + 1)) (hL : L < 80) (hm : m < 60) (hq : τ 106 L = nI q) (hp : τ 107 L = nI p) (q11 : 11 ≤ q) (q15 : q ≤ 15) (h10 : τ 97 10 = nI cb) (hc : cb + p < 60) (hw : nmb (τ 103 (25 + cb + p)) = nI v) (hx : τ 104 m = nI x) (v60 : v < 1024) (x60 : x < 60)
    (hK : ∀ τ', CLs cb τ τ' L m p (mkW q v x 0) → KV τ') : yR (d + 1 + 1) 104 0 [some (.ref 97), none, none, none] [] τ (qV KV) := by
  have e1 : nI (L + 1) - 1 = nI L := pk_sub (a := L + 1) (b := 1) (by omega)
  have e2 : nI (m + 1) - 1 = nI m := pk_sub (a := m + 1) (b := 1) (by omega)
  have e25 : (25 : Int32) + nI cb + nI p = nI (25 + cb + p) := by
    rw [show (25 : Int32) = nI 25 from rfl, nI_add, nI_add]
  refine w_104_0 ?_
  rw [h17, e1, nI_clamp (by omega), hq, hp, h10, e25, h14, e2]
  refine ⟨vp_in_nI hL (by decide), w_90_0 (sm_in (fun _ z => ?_) (fun _ => ⟨yB0, br_f2 ?_⟩))⟩
  · exact absurd ((nI_leI (a := q) (b := 10) (by omega) (by omega)).mp z) (by omega)
  · rw [nI_clamp (by omega)]
    refine ⟨vp_in_nI (by omega) (by decide), w_86_0 ?_⟩
    have a14 : (sg (sg τ 97 17 (nI L)) 97 14 (nI m)) 97 14 = nI m := sg_same _ _ _ _
    rw [a14, nI_clamp (by omega)]
    refine ⟨vp_in_nI (by omega) (by decide), w_89_0 (w_101_0 ?_)⟩
    have b14 : ∀ W : Int32, (sg (sg (sg τ 97 17 (nI L)) 97 14 (nI m)) 103 (25 + cb + p) W) 97 14 = nI m := fun W => rfl
    rw [b14, nI_clamp (by omega), nI_1]
    refine ⟨vp_in_nI (by omega) (by decide), yB0, ?_⟩
    have c1 : (sg (sg τ 97 17 (nI L)) 97 14 (nI m)) 104 m = nI x := hx
    have c2 : ((sg (sg τ 97 17 (nI L)) 97 14 (nI m)) 103 (25 + cb + p) >>> (4 &&& 31)) &&& 1023 = nI v := hw
    have eW : (((nI q ||| (nI v <<< (4 &&& 31))) ||| (nI x <<< (14 &&& 31))) ||| ((0 : Int32) <<< (20 &&& 31))) = mkW q v x 0 := mk_eq (g := 0) (by omega) (by omega) (by omega) (by omega)
    rw [c1, c2, eW]
    refine hK _ (cls_mk rfl ⟨fun c hc => ?_, fun j j1 j2 => ?_, ?_, ?_⟩)
    · rw [kp_sg hc, kp_sg hc]
    · rw [sg_ne _ _ _ j1, sg_ne _ _ _ j2]
    · rw [sg_ne _ _ _ (by decide), sg_same]
    · exact sg_same _ _ _ _
end POP
