/-! numbers of pairs: what the class reckons in longs is what the reference reckons -/
theorem num_iff {x : Int64} : numC x = true ↔ (-999999 ≤ x.toInt ∧ x.toInt ≤ 999999) := by
  unfold numC
  rw [decide_eq_true_eq, lg_cmp_lt, lg_cmp_gt, Int64.lt_iff_toInt_lt, Int64.lt_iff_toInt_lt]
  have e1 : (-999999 : Int64).toInt = -999999 := by decide
  have e2 : (999999 : Int64).toInt = 999999 := by decide
  rw [e1, e2]
  omega
theorem l2i_num {x : Int64} (h : numC x = true) : Num x.toInt32 := by
  have := num_iff.mp h
  unfold Num
  rw [Int64.toInt_toInt32, Int.bmod_eq_of_le (by omega) (by omega)]
  exact this
theorem has60 (x y : Int32) : hasC 60 x y = mDone 4 x y := by
  unfold hasC mDone
  rw [if_neg (by decide), if_pos rfl, if_pos rfl]
theorem has62 (x y : Int32) : hasC 62 x y = mDone 5 x y := by
  unfold hasC mDone
  rw [if_neg (by decide), if_neg (by decide), if_pos rfl, if_neg (by decide), if_pos rfl]
theorem has61 (x y : Int32) : hasC 61 x y = mDone 6 x y := by
  unfold hasC mDone
  rw [if_neg (by decide), if_neg (by decide), if_neg (by decide), if_pos rfl, if_neg (by decide), if_neg (by decide), if_pos rfl]
theorem hasO {k : Int32} (x y : Int32) (h1 : ¬ k = 126) (h2 : ¬ k = 60) (h3 : ¬ k = 62) (h4 : ¬ k = 61) : hasC k x y = numC (reckC k x.toInt64 y.toInt64) := by
  unfold hasC
  rw [if_neg h1, if_neg h2, if_neg h3, if_neg h4]
theorem dnO {s : Int32} (x y : Int32) (h1 : ¬ s = 4) (h2 : ¬ s = 5) (h3 : ¬ s = 6) : mDone s x y = numC (if s = 8 then x.toInt64 + y.toInt64 else if s = 9 then x.toInt64 - y.toInt64 else x.toInt64 * y.toInt64) := by
  unfold mDone
  rw [if_neg h1, if_neg h2, if_neg h3]
theorem rk43 (x y : Int64) : reckC 43 x y = x + y := by unfold reckC; rw [if_neg (by decide), if_pos rfl]
theorem rk45 (x y : Int64) : reckC 45 x y = x - y := by unfold reckC; rw [if_neg (by decide), if_neg (by decide), if_pos rfl]
theorem rk42 (x y : Int64) : reckC 42 x y = x * y := by unfold reckC; rw [if_pos rfl]
theorem rkY {k : Int32} (x y : Int64) (h1 : ¬ k = 42) (h2 : ¬ k = 43) (h3 : ¬ k = 45) : reckC k x y = y := by unfold reckC; rw [if_neg h1, if_neg h2, if_neg h3]
theorem has43 (x y : Int32) : hasC 43 x y = mDone 8 x y := by
  rw [hasO x y (by decide) (by decide) (by decide) (by decide), dnO x y (by decide) (by decide) (by decide), rk43, if_pos rfl]
theorem has45 (x y : Int32) : hasC 45 x y = mDone 9 x y := by
  rw [hasO x y (by decide) (by decide) (by decide) (by decide), dnO x y (by decide) (by decide) (by decide), rk45, if_neg (by decide), if_pos rfl]
theorem has42 (x y : Int32) : hasC 42 x y = mDone 10 x y := by
  rw [hasO x y (by decide) (by decide) (by decide) (by decide), dnO x y (by decide) (by decide) (by decide), rk42, if_neg (by decide), if_neg (by decide)]
theorem byY {s : Int32} (x y : Int32) (h1 : ¬ s = 8) (h2 : ¬ s = 9) (h3 : ¬ s = 10) : mBy s x y = y := by unfold mBy; rw [if_neg h1, if_neg h2, if_neg h3]
theorem by8 (x y : Int32) : mBy 8 x y = x + y := by unfold mBy; rw [if_pos rfl]
theorem by9 (x y : Int32) : mBy 9 x y = x - y := by unfold mBy; rw [if_neg (by decide), if_pos rfl]
theorem by10 (x y : Int32) : mBy 10 x y = x * y := by unfold mBy; rw [if_neg (by decide), if_neg (by decide), if_pos rfl]
theorem num_and {x y : Int32} (h : Num y) : hasC 38 x y = true ∧ (reckC 38 x.toInt64 y.toInt64).toInt32 = y := by
  rw [hasO x y (by decide) (by decide) (by decide) (by decide), rkY _ _ (by decide) (by decide) (by decide), num_iff, Int32.toInt_toInt64, Int32.toInt32_toInt64]
  exact ⟨h, rfl⟩
theorem cmp_val {k x y : Int32} (h : k = 60 ∨ k = 61 ∨ k = 62) : (reckC k x.toInt64 y.toInt64).toInt32 = y := by
  rcases h with rfl | rfl | rfl
  all_goals rw [rkY _ _ (by decide) (by decide) (by decide)]; exact Int32.toInt32_toInt64 y
/-- what the reference does at a second part's result, in the class's words -/
theorem two_val {k s x y : Int32} (hm : (k, s) ∈ twoN) (hy : Num y) (hh : hasC k x y = true) : Num (reckC k x.toInt64 y.toInt64).toInt32 := by
  simp only [twoN, List.mem_cons, Prod.mk.injEq, List.not_mem_nil, or_false] at hm
  rcases hm with ⟨rfl, rfl⟩ | ⟨rfl, rfl⟩ | ⟨rfl, rfl⟩ | ⟨rfl, rfl⟩ | ⟨rfl, rfl⟩ | ⟨rfl, rfl⟩ | ⟨rfl, rfl⟩
  · rw [(num_and hy).2]; exact hy
  · rw [cmp_val (Or.inl rfl)]; exact hy
  · rw [cmp_val (Or.inr (Or.inr rfl))]; exact hy
  · rw [cmp_val (Or.inr (Or.inl rfl))]; exact hy
  · rw [hasO x y (by decide) (by decide) (by decide) (by decide)] at hh; exact l2i_num hh
  · rw [hasO x y (by decide) (by decide) (by decide) (by decide)] at hh; exact l2i_num hh
  · rw [hasO x y (by decide) (by decide) (by decide) (by decide)] at hh; exact l2i_num hh
section TT
variable {d : Nat} {τ : yS} {K : Int32 → yS → Prop} {v : Int32} {i mb : Nat}
theorem tt_two {w k : Int32} (ha : mAt τ mb i w) (h0 : τ 97 28 = 0) (h1 : τ 97 29 = 1) (hm : (k, srt w) ∈ twoN) (hy : Num (τ 97 30)) (hp : τ 109 i = 2)
    (hT : hasC k (τ 113 i) (τ 97 30) = true → mYl d v K (reckC k (τ 113 i).toInt64 (τ 97 30).toInt64).toInt32 τ) (hF : hasC k (τ 113 i) (τ 97 30) = false → mLP d v K (mAsk (snd1 w) τ)) : mLP d v K τ := by
  simp only [twoN, List.mem_cons, Prod.mk.injEq, List.not_mem_nil, or_false] at hm
  generalize hx : τ 113 i = x at hT hF
  generalize hy2 : τ 97 30 = y at hT hF hy
  rcases hm with ⟨rfl, hs⟩ | ⟨rfl, hs⟩ | ⟨rfl, hs⟩ | ⟨rfl, hs⟩ | ⟨rfl, hs⟩ | ⟨rfl, hs⟩ | ⟨rfl, hs⟩
  · have := num_and (x := x) hy
    refine tt_and ha h0 h1 hs hp ?_
    rw [hy2]
    have h9 := hT this.1
    rw [this.2] at h9
    exact h9
  · have e : hasC 60 x y = mDone 4 x y := has60 x y
    have ev : (reckC 60 x.toInt64 y.toInt64).toInt32 = mBy 4 x y := by rw [byY x y (by decide) (by decide) (by decide)]; exact cmp_val (Or.inl rfl)
    rw [e] at hT hF; rw [ev] at hT
    cases hb : mDone 4 x y with
    | true => exact tt_opY_4 ha h0 h1 hs hp (by rw [hx, hy2]; exact hb) (by rw [hx, hy2]; exact hT hb)
    | false => exact tt_opN_4 ha h0 h1 hs hp (by rw [hx, hy2]; exact hb) (hF hb)
  · have e : hasC 62 x y = mDone 5 x y := has62 x y
    have ev : (reckC 62 x.toInt64 y.toInt64).toInt32 = mBy 5 x y := by rw [byY x y (by decide) (by decide) (by decide)]; exact cmp_val (Or.inr (Or.inr rfl))
    rw [e] at hT hF; rw [ev] at hT
    cases hb : mDone 5 x y with
    | true => exact tt_opY_5 ha h0 h1 hs hp (by rw [hx, hy2]; exact hb) (by rw [hx, hy2]; exact hT hb)
    | false => exact tt_opN_5 ha h0 h1 hs hp (by rw [hx, hy2]; exact hb) (hF hb)
  · have e : hasC 61 x y = mDone 6 x y := has61 x y
    have ev : (reckC 61 x.toInt64 y.toInt64).toInt32 = mBy 6 x y := by rw [byY x y (by decide) (by decide) (by decide)]; exact cmp_val (Or.inr (Or.inl rfl))
    rw [e] at hT hF; rw [ev] at hT
    cases hb : mDone 6 x y with
    | true => exact tt_opY_6 ha h0 h1 hs hp (by rw [hx, hy2]; exact hb) (by rw [hx, hy2]; exact hT hb)
    | false => exact tt_opN_6 ha h0 h1 hs hp (by rw [hx, hy2]; exact hb) (hF hb)
  · have e : hasC 43 x y = mDone 8 x y := has43 x y
    have ev : (reckC 43 x.toInt64 y.toInt64).toInt32 = mBy 8 x y := by
      rw [rk43, by8]
      rw [Int64.toInt32_add, Int32.toInt32_toInt64, Int32.toInt32_toInt64]
    rw [e] at hT hF; rw [ev] at hT
    cases hb : mDone 8 x y with
    | true => exact tt_opY_8 ha h0 h1 hs hp (by rw [hx, hy2]; exact hb) (by rw [hx, hy2]; exact hT hb)
    | false => exact tt_opN_8 ha h0 h1 hs hp (by rw [hx, hy2]; exact hb) (hF hb)
  · have e : hasC 45 x y = mDone 9 x y := has45 x y
    have ev : (reckC 45 x.toInt64 y.toInt64).toInt32 = mBy 9 x y := by
      rw [rk45, by9]
      rw [Int64.toInt32_sub, Int32.toInt32_toInt64, Int32.toInt32_toInt64]
    rw [e] at hT hF; rw [ev] at hT
    cases hb : mDone 9 x y with
    | true => exact tt_opY_9 ha h0 h1 hs hp (by rw [hx, hy2]; exact hb) (by rw [hx, hy2]; exact hT hb)
    | false => exact tt_opN_9 ha h0 h1 hs hp (by rw [hx, hy2]; exact hb) (hF hb)
  · have e : hasC 42 x y = mDone 10 x y := has42 x y
    have ev : (reckC 42 x.toInt64 y.toInt64).toInt32 = mBy 10 x y := by
      rw [rk42, by10]
      rw [Int64.toInt32_mul, Int32.toInt32_toInt64, Int32.toInt32_toInt64]
    rw [e] at hT hF; rw [ev] at hT
    cases hb : mDone 10 x y with
    | true => exact tt_opY_10 ha h0 h1 hs hp (by rw [hx, hy2]; exact hb) (by rw [hx, hy2]; exact hT hb)
    | false => exact tt_opN_10 ha h0 h1 hs hp (by rw [hx, hy2]; exact hb) (hF hb)
/-- the other turns of a pair (~ too) -/
def twoR : List Int32 := [2, 4, 5, 6, 7, 8, 9, 10]
theorem twoN_R {k s : Int32} (h : (k, s) ∈ twoN) : s ∈ twoR := by
  simp only [twoN, List.mem_cons, Prod.mk.injEq, List.not_mem_nil, or_false] at h
  rcases h with ⟨-, rfl⟩ | ⟨-, rfl⟩ | ⟨-, rfl⟩ | ⟨-, rfl⟩ | ⟨-, rfl⟩ | ⟨-, rfl⟩ | ⟨-, rfl⟩ <;> decide
theorem tt_one {w : Int32} (ha : mAt τ mb i w) (h0 : τ 97 28 = 0) (h1 : τ 97 29 = 1) (hm : srt w ∈ twoR) (hp : τ 109 i = 1) (hf : vp_in (snd1 w) 60) (h : mLP d v K (mAskN (snd1 w) (sg (sg τ 113 i (τ 97 30)) 109 i 2))) : mLP d v K τ := by
  simp only [twoR, List.mem_cons, List.not_mem_nil, or_false] at hm
  rcases hm with hs | hs | hs | hs | hs | hs | hs | hs
  · exact tt_one_2 ha h0 h1 hs hp hf h
  · exact tt_one_4 ha h0 h1 hs hp hf h
  · exact tt_one_5 ha h0 h1 hs hp hf h
  · exact tt_one_6 ha h0 h1 hs hp hf h
  · exact tt_one_7 ha h0 h1 hs hp hf h
  · exact tt_one_8 ha h0 h1 hs hp hf h
  · exact tt_one_9 ha h0 h1 hs hp hf h
  · exact tt_one_10 ha h0 h1 hs hp hf h
theorem te_two1 {w : Int32} (ha : mAt τ mb i w) (h0 : τ 97 28 = 0) (h1 : τ 97 29 = 0) (hm : srt w ∈ twoR) (hp : ¬ τ 109 i = 2) (h : mLP d v K (mNone τ)) : mLP d v K τ := by
  simp only [twoR, List.mem_cons, List.not_mem_nil, or_false] at hm
  rcases hm with hs | hs | hs | hs | hs | hs | hs | hs
  · exact te_two1_2 ha h0 h1 hs hp h
  · exact te_two1_4 ha h0 h1 hs hp h
  · exact te_two1_5 ha h0 h1 hs hp h
  · exact te_two1_6 ha h0 h1 hs hp h
  · exact te_two1_7 ha h0 h1 hs hp h
  · exact te_two1_8 ha h0 h1 hs hp h
  · exact te_two1_9 ha h0 h1 hs hp h
  · exact te_two1_10 ha h0 h1 hs hp h
theorem te_two2 {w : Int32} (ha : mAt τ mb i w) (h0 : τ 97 28 = 0) (h1 : τ 97 29 = 0) (hm : srt w ∈ twoR) (hp : τ 109 i = 2) (h : mLP d v K (mAsk (fst1 w) (sg τ 109 i 1))) : mLP d v K τ := by
  simp only [twoR, List.mem_cons, List.not_mem_nil, or_false] at hm
  rcases hm with hs | hs | hs | hs | hs | hs | hs | hs
  · exact te_two2_2 ha h0 h1 hs hp h
  · exact te_two2_4 ha h0 h1 hs hp h
  · exact te_two2_5 ha h0 h1 hs hp h
  · exact te_two2_6 ha h0 h1 hs hp h
  · exact te_two2_7 ha h0 h1 hs hp h
  · exact te_two2_8 ha h0 h1 hs hp h
  · exact te_two2_9 ha h0 h1 hs hp h
  · exact te_two2_10 ha h0 h1 hs hp h
theorem ta_two0 {w : Int32} (ha : mAt τ mb i w) (h1 : τ 97 28 = 1) (hm : srt w ∈ twoR) (hp : τ 109 i = 0) (hf : vp_in (fst1 w) 60) (h : mLP d v K (mAskN (fst1 w) (sg τ 109 i 1))) : mLP d v K τ := by
  simp only [twoR, List.mem_cons, List.not_mem_nil, or_false] at hm
  rcases hm with hs | hs | hs | hs | hs | hs | hs | hs
  · exact ta_two0_2 ha h1 hs hp hf h
  · exact ta_two0_4 ha h1 hs hp hf h
  · exact ta_two0_5 ha h1 hs hp hf h
  · exact ta_two0_6 ha h1 hs hp hf h
  · exact ta_rng0 ha h1 hs hp hf h
  · exact ta_two0_8 ha h1 hs hp hf h
  · exact ta_two0_9 ha h1 hs hp hf h
  · exact ta_two0_10 ha h1 hs hp hf h
theorem ta_two2 {w k : Int32} (ha : mAt τ mb i w) (h1 : τ 97 28 = 1) (hm : (k, srt w) ∈ twoN) (hp : τ 109 i = 2) (h : mLP d v K (mAsk (snd1 w) τ)) : mLP d v K τ := by
  simp only [twoN, List.mem_cons, Prod.mk.injEq, List.not_mem_nil, or_false] at hm
  rcases hm with ⟨-, hs⟩ | ⟨-, hs⟩ | ⟨-, hs⟩ | ⟨-, hs⟩ | ⟨-, hs⟩ | ⟨-, hs⟩ | ⟨-, hs⟩
  · exact ta_two2_2 ha h1 hs hp h
  · exact ta_two2_4 ha h1 hs hp h
  · exact ta_two2_5 ha h1 hs hp h
  · exact ta_two2_6 ha h1 hs hp h
  · exact ta_two2_8 ha h1 hs hp h
  · exact ta_two2_9 ha h1 hs hp h
  · exact ta_two2_10 ha h1 hs hp h
end TT
