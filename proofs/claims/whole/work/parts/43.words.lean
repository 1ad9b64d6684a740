/-! A NODE'S WORD of the reference, and bits -/
theorem nI_or (a b : Nat) : nI a ||| nI b = nI (a ||| b) := by
  apply Int32.toBitVec_inj.mp
  show BitVec.ofNat 32 a ||| BitVec.ofNat 32 b = BitVec.ofNat 32 (a ||| b)
  apply BitVec.eq_of_toNat_eq
  simp only [BitVec.toNat_or, BitVec.toNat_ofNat]
  exact (Nat.or_mod_two_pow (a := a) (b := b) (n := 32)).symm
theorem or_add {a b k : Nat} (h : a < 2 ^ k) : a ||| (b * 2 ^ k) = a + b * 2 ^ k := by
  rw [Nat.or_comm, ← Nat.shiftLeft_eq, ← Nat.shiftLeft_add_eq_or_of_lt h, Nat.add_comm]
def mkW (q n f g : Nat) : Int32 := nI (q + n * 16 + f * 16384 + g * 1048576)
theorem mk_eq {q n f g : Nat} (h1 : q < 16) (h2 : n < 1024) (h3 : f < 64) (h4 : g < 64) : ((nI q ||| (nI n <<< (4 &&& 31))) ||| (nI f <<< (14 &&& 31))) ||| (nI g <<< (20 &&& 31)) = mkW q n f g := by
  rw [pk_shlN (n := n) (4 &&& 31) 4 (by decide) (by omega), pk_shlN (n := f) (14 &&& 31) 14 (by decide) (by omega), pk_shlN (n := g) (20 &&& 31) 20 (by decide) (by omega), nI_or, nI_or, nI_or, or_add (a := q) (b := n) (k := 4) (by omega), or_add (a := q + n * 2 ^ 4) (b := f) (k := 14) (by omega), or_add (a := q + n * 2 ^ 4 + f * 2 ^ 14) (b := g) (k := 20) (by omega)]
  rfl
theorem mk_srt {q n f g : Nat} (h1 : q < 16) (h2 : n < 1024) (h3 : f < 64) (h4 : g < 64) : srt (mkW q n f g) = nI q := by
  unfold srt mkW
  rw [pk_andN (by omega) 4 (by decide)]
  congr 1; omega
theorem mk_nmb {q n f g : Nat} (h1 : q < 16) (h2 : n < 1024) (h3 : f < 64) (h4 : g < 64) : nmb (mkW q n f g) = nI n := by
  unfold nmb mkW
  rw [pk_shrN (by omega) (4 &&& 31) 4 (by decide), pk_andN (by omega) 10 (by decide)]
  congr 1; omega
theorem mk_fst {q n f g : Nat} (h1 : q < 16) (h2 : n < 1024) (h3 : f < 64) (h4 : g < 64) : fst1 (mkW q n f g) = nI f := by
  unfold fst1 mkW
  rw [pk_shrN (by omega) (14 &&& 31) 14 (by decide), pk_andN (by omega) 6 (by decide)]
  congr 1; omega
theorem mk_snd {q n f g : Nat} (h1 : q < 16) (h2 : n < 1024) (h3 : f < 64) (h4 : g < 64) : snd1 (mkW q n f g) = nI g := by
  unfold snd1 mkW
  rw [pk_shrN (by omega) (20 &&& 31) 20 (by decide), pk_andN (by omega) 6 (by decide)]
  congr 1; omega
theorem mk_0 {q : Nat} : nI q = mkW q 0 0 0 := rfl
theorem bit_mk {b : Bool} {q n f g : Nat} (h1 : q < 16) (h2 : n < 1024) (h3 : f < 64) (h4 : g < 64) : bitB b (mkW q n f g) = if q = 13 ∨ q = 14 ∨ (b = true ∧ q = 1) then 1 <<< (nI n &&& 31) else 0 := by
  unfold bitB
  rw [mk_srt h1 h2 h3 h4, mk_nmb h1 h2 h3 h4]
  have e : ∀ z : Nat, z < 16 → (nI q = nI z ↔ q = z) := fun z hz => nI_eq (by omega) (by omega)
  have e13 := e 13 (by omega)
  have e14 := e 14 (by omega)
  have e1 := e 1 (by omega)
  have x13 : nI 13 = 13 := rfl
  have x14 : nI 14 = 14 := rfl
  have x1 : nI 1 = 1 := rfl
  rw [x13] at e13
  rw [x14] at e14
  rw [x1] at e1
  simp only [e13, e14, e1]
/-- one node more -/
theorem bitR_snoc {b : Bool} {w : Nat → Int32} : ∀ (m s : Nat) (a : Int32), bitR b w (m + 1) s a = bitR b w m s a ||| bitB b (w (s + m)) := by
  intro m
  induction m with
  | zero => intro s a; rfl
  | succ m ih =>
    intro s a
    show bitR b w (m + 1) (s + 1) (a ||| bitB b (w s)) = bitR b w m (s + 1) (a ||| bitB b (w s)) ||| _
    rw [ih (s + 1), show s + 1 + m = s + (m + 1) by omega]
theorem bitR_acc {b : Bool} {w : Nat → Int32} : ∀ (m s : Nat) (a x : Int32), bitR b w m s (a ||| x) = bitR b w m s a ||| x := by
  intro m
  induction m with
  | zero => intro s a x; rfl
  | succ m ih =>
    intro s a x
    show bitR b w m (s + 1) (a ||| x ||| bitB b (w s)) = bitR b w m (s + 1) (a ||| bitB b (w s)) ||| x
    rw [← ih, Int32.or_assoc, Int32.or_comm x, ← Int32.or_assoc]
/-- one node is another: its bit comes in -/
theorem bitR_put {b : Bool} {w w' : Nat → Int32} {x : Int32} {j : Nat} (hj : bitB b (w' j) = bitB b (w j) ||| x) (ho : ∀ i, i ≠ j → w' i = w i) : ∀ (m s : Nat) (a : Int32), s ≤ j → j < s + m → bitR b w' m s a = bitR b w m s a ||| x := by
  intro m
  induction m with
  | zero => intro s a h1 h2; omega
  | succ m ih =>
    intro s a h1 h2
    show bitR b w' m (s + 1) (a ||| bitB b (w' s)) = bitR b w m (s + 1) (a ||| bitB b (w s)) ||| x
    by_cases e : s = j
    · subst e
      rw [hj, ← Int32.or_assoc, bitR_acc, bitR_cong (w := w) m (s + 1) _ (fun i g1 g2 => ho i (by omega))]
    · rw [ho s e]
      exact ih (s + 1) _ (by omega) (by omega)
/-- one node is another with the same bit -/
theorem bitR_same {b : Bool} {w w' : Nat → Int32} {m : Nat} (h : ∀ i, i < m → bitB b (w' i) = bitB b (w i)) : bitR b w' m 0 0 = bitR b w m 0 0 := by
  have : ∀ (k s : Nat) (a : Int32), s + k = m → bitR b w' k s a = bitR b w k s a := by
    intro k
    induction k with
    | zero => intro s a _; rfl
    | succ k ih =>
      intro s a hs
      show bitR b w' k (s + 1) (a ||| bitB b (w' s)) = bitR b w k (s + 1) (a ||| bitB b (w s))
      rw [h s (by omega)]
      exact ih (s + 1) _ (by omega)
  exact this m 0 0 (by omega)
/-- trees with more fuel -/
theorem Tr.up {kd lf rt nb w : Nat → Int32} {AK : Nat → Nat → Prop} {cb : Nat} : ∀ {f lo hi i : Nat}, Tr kd lf rt nb w AK cb f lo hi i → ∀ f', f ≤ f' → Tr kd lf rt nb w AK cb f' lo hi i
  | 0, _, _, _, h, _, _ => h.elim
  | f + 1, lo, hi, i, h, f', hf => by
    obtain ⟨g, rfl⟩ : ∃ g, f' = g + 1 := ⟨f' - 1, by omega⟩
    rcases h with ⟨h1, h2, h3⟩ | ⟨h1, h2, h3, l, r, h4, h5, h6, h7⟩ | ⟨h1, h2, h3, c, h4, h5⟩ | ⟨h1, h2, h3, c, h4, h5⟩
    · exact Or.inl ⟨h1, h2, h3⟩
    · exact Or.inr (Or.inl ⟨h1, h2, h3, l, r, h4, h5, h6.up g (by omega), h7.up g (by omega)⟩)
    · exact Or.inr (Or.inr (Or.inl ⟨h1, h2, h3, c, h4, h5.up g (by omega)⟩))
    · exact Or.inr (Or.inr (Or.inr ⟨h1, h2, h3, c, h4, h5.up g (by omega)⟩))
