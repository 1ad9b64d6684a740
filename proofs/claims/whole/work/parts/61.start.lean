section LSTART
variable {p : Program} {l : Launch} {e : Env} {s : State} {m : MethodId} {below : List Frame} {meth : Method} {c : Code} {b L : Nat} {xs : Nat → Int32} {ad : Nat → Nat} {ty : Nat → ClassId} {D : va_G}
theorem law_loop (X : kX p s m #[Value.ref b] c R_law code 4 ty D) (hr : meth.sig.returnType = ret) (hlocks : meth.locks = false) (hX : va_X b L xs s s.heap) (hbl : b < s.heap.size) (hL : L ≤ 1536) : ∀ (n k : Nat), L ≤ 3 * k + n → ∀ (σ : yS) (H : Heap) (locs : List Loc) (ls : Array Slot), lwI ad ty D s b k σ H locs ls → 3 * k ≤ L + 3 → W p l e room_1 s m #[Value.ref b] below meth c H locs 118 4678 (lw_Z below #[Value.ref b] s) (F0 m 18 ls []) := by
  intro n
  induction n with
  | zero => 
    intro k hk σ H locs ls h hk2
    obtain ⟨hi, hP, hD, hS, hl⟩ := h
    have hbA : ¬ (fun q : Nat => s.heap.size ≤ q) b := Nat.not_le.mpr hbl
    refine lv_iload_n X.1 X.2.1 dl_18 rfl (lv_at hl 0 rfl) ?_
    refine lv_aload_n X.1 X.2.1 dl_19 rfl (lv_at hl 3 rfl) ?_
    refine va_slen X.1 X.2.1 hX hbl hbA hS dl_20 ?_
    refine lv_iconst (v := 3) X.1 X.2.1 dl_21 (by decide) ?_
    refine lv_isub X.1 X.2.1 dl_22 ?_
    refine lv_icmp_gt (tgt := 433) X.1 X.2.1 dl_23 (by decide) (fun z => ?_) (fun z => ?_)
    · refine lv_iconst (v := 1) X.1 X.2.1 dl_433 (by decide) ?_
      refine va_forget (fun q hq => hS.2.2 q hq) ?_
      refine W.widen (k := 600000) (n := 7302250) (Nat.le_of_ble_eq_true rfl) (Nat.le_of_ble_eq_true rfl) ?_
      exact lw_ret X.1 X.2.1 hr hlocks dl_434
    · exfalso
      refine z ?_
      rw [Int32.lt_iff_toInt_lt]
      have e : (nI L - nI 3).toInt = (L : Int) - 3 := pk_sub_toInt (by omega) (by omega)
      have e' : (Int32.ofNat L - 3).toInt = (L : Int) - 3 := e
      rw [e', nI_toInt (by omega)]
      omega
  | succ n ih =>
    intro k hk σ H locs ls h hk2
    obtain ⟨hi, hP, hD, hS, hl⟩ := id h
    have hbA : ¬ (fun q : Nat => s.heap.size ≤ q) b := Nat.not_le.mpr hbl
    have tail : 3 * k + 2 < L → ∀ (σ' : yS) (H' : Heap) (locs' : List Loc) (ls' : Array Slot), lwI ad ty D s b k σ' H' locs' ls' → W p l e room_1 s m #[Value.ref b] below meth c H' locs' 118 4678 (lw_Z below #[Value.ref b] s) (F0 m 427 ls' []) := by
      intro hlt σ' H' locs' ls' h'
      obtain ⟨hi', hP', hD', hS', hl'⟩ := h'
      have e3 : nI (3 * k) + Int32.ofInt 3 = nI (3 * (k + 1)) := nI_add (3 * k) 3
      refine lv_iinc (v := nI (3 * (k + 1))) (lv' := [(3, .int (nI (3 * (k + 1)))), (2, .ref (ad 97)), (1, .ref (ad 0)), (0, .ref b)]) X.1 X.2.1 dl_427 hl' (k := 0) rfl e3 (by decide) rfl (fun ls'' hl'' => ?_)
      refine lv_goto (tgt := 18) X.1 X.2.1 dl_430 (by decide) ?_
      exact ih (k + 1) (by omega) σ' H' locs' ls'' ⟨hi', hP', hD', hS', hl''⟩ (by omega)
    refine lv_iload_n X.1 X.2.1 dl_18 rfl (lv_at hl 0 rfl) ?_
    refine lv_aload_n X.1 X.2.1 dl_19 rfl (lv_at hl 3 rfl) ?_
    refine va_slen X.1 X.2.1 hX hbl hbA hS dl_20 ?_
    refine lv_iconst (v := 3) X.1 X.2.1 dl_21 (by decide) ?_
    refine lv_isub X.1 X.2.1 dl_22 ?_
    refine lv_icmp_gt (tgt := 433) X.1 X.2.1 dl_23 (by decide) (fun z => ?_) (fun z => ?_)
    · refine lv_iconst (v := 1) X.1 X.2.1 dl_433 (by decide) ?_
      refine va_forget (fun q hq => hS.2.2 q hq) ?_
      refine W.widen (k := 600000) (n := 7302250) (Nat.le_of_ble_eq_true rfl) (Nat.le_of_ble_eq_true rfl) ?_
      exact lw_ret X.1 X.2.1 hr hlocks dl_434
    · have hlt : 3 * k + 2 < L := by
        rw [Int32.lt_iff_toInt_lt] at z
        have e : (nI L - nI 3).toInt = (L : Int) - 3 := pk_sub_toInt (by omega) (by omega)
        have e' : (Int32.ofNat L - 3).toInt = (L : Int) - 3 := e
        rw [e', nI_toInt (by omega)] at z
        omega
      refine lv_aload_n X.1 X.2.1 dl_26 rfl (lv_at hl 3 rfl) ?_
      refine lv_iload_n X.1 X.2.1 dl_27 rfl (lv_at hl 0 rfl) ?_
      refine va_sld X.1 X.2.1 hX hbl hbA hS (vp_in_nI (n := 3 * k) (by omega) (by omega)) dl_28 ?_
      refine lv_bipush (v := 15) X.1 X.2.1 dl_29 (by decide) ?_
      refine lv_iand X.1 X.2.1 dl_31 ?_
      obtain ⟨j, hj, ej⟩ := pk_andE (xs (nI (3 * k)).toNatClampNeg) (m := 15) 4 (by decide)
      rw [ej]
      have hj2 : j = 0 ∨ j = 1 ∨ j = 2 ∨ j = 3 ∨ j = 4 ∨ j = 5 ∨ j = 6 ∨ j = 7 ∨ j = 8 ∨ j = 9 ∨ j = 10 ∨ j = 11 ∨ j = 12 ∨ j = 13 ∨ j = 14 ∨ j = 15 := by omega
      rcases hj2 with rfl | rfl | rfl | rfl | rfl | rfl | rfl | rfl | rfl | rfl | rfl | rfl | rfl | rfl | rfl | rfl
      · exact lv_tableIn (off := 72) (tgt := 104) X.1 X.2.1 dl_32 (by decide) (by decide) (by decide) (by decide) (lw_op0 X hX hbl hL hlt h (tail hlt))
      · exact lv_tableIn (off := 95) (tgt := 127) X.1 X.2.1 dl_32 (by decide) (by decide) (by decide) (by decide) (lw_op1 X hX hbl hL hlt h (tail hlt))
      · exact lv_tableIn (off := 108) (tgt := 140) X.1 X.2.1 dl_32 (by decide) (by decide) (by decide) (by decide) (lw_op2 X hX hbl hL hlt h (tail hlt))
      · exact lv_tableIn (off := 121) (tgt := 153) X.1 X.2.1 dl_32 (by decide) (by decide) (by decide) (by decide) (lw_op3 X hX hbl hL hlt h (tail hlt))
      · exact lv_tableIn (off := 154) (tgt := 186) X.1 X.2.1 dl_32 (by decide) (by decide) (by decide) (by decide) (lw_op4 X hX hbl hL hlt h (tail hlt))
      · exact lv_tableIn (off := 177) (tgt := 209) X.1 X.2.1 dl_32 (by decide) (by decide) (by decide) (by decide) (lw_op5 X hX hbl hL hlt h (tail hlt))
      · exact lv_tableIn (off := 210) (tgt := 242) X.1 X.2.1 dl_32 (by decide) (by decide) (by decide) (by decide) (lw_op6 X hX hbl hL hlt h (tail hlt))
      · exact lv_tableIn (off := 233) (tgt := 265) X.1 X.2.1 dl_32 (by decide) (by decide) (by decide) (by decide) (lw_op7 X hX hbl hL hlt h (tail hlt))
      · exact lv_tableIn (off := 256) (tgt := 288) X.1 X.2.1 dl_32 (by decide) (by decide) (by decide) (by decide) (lw_op8 X hX hbl hL hlt h (tail hlt))
      · exact lv_tableIn (off := 289) (tgt := 321) X.1 X.2.1 dl_32 (by decide) (by decide) (by decide) (by decide) (lw_op9 X hX hbl hL hlt h (tail hlt))
      · exact lv_tableIn (off := 312) (tgt := 344) X.1 X.2.1 dl_32 (by decide) (by decide) (by decide) (by decide) (lw_op10 X hX hbl hL hlt h (tail hlt))
      · exact lv_tableIn (off := 345) (tgt := 377) X.1 X.2.1 dl_32 (by decide) (by decide) (by decide) (by decide) (lw_op11 X hX hbl hL hlt h (tail hlt))
      · exact lv_tableIn (off := 358) (tgt := 390) X.1 X.2.1 dl_32 (by decide) (by decide) (by decide) (by decide) (lw_op12 X hX hbl hL hlt h (tail hlt))
      · exact lv_tableIn (off := 381) (tgt := 413) X.1 X.2.1 dl_32 (by decide) (by decide) (by decide) (by decide) (lw_op13 X hX hbl hL hlt h (tail hlt))
      · exact lv_tableOut (tgt := 427) X.1 X.2.1 dl_32 (by decide) (by decide) (tail hlt _ _ _ _ h)
      · exact lv_tableOut (tgt := 427) X.1 X.2.1 dl_32 (by decide) (by decide) (tail hlt _ _ _ _ h)
end LSTART
set_option maxRecDepth 20000 in
set_option maxHeartbeats 4000000 in
theorem whole_start {p : Program} {e : Env} {s : State} {m : MethodId} {below : List Frame} {meth : Method} {c : Code} (l : Launch) (hflags : l.flags = flags0) {b L : Nat} {xs : Nat → Int32} (hL : L ≤ 1536) (C0 : lw_At p s m meth c b L xs) : W p l e room_1 s m #[Value.ref b] below meth c s.heap [] 0 0 (lw_Z below #[Value.ref b] s) (entryFrame m ([Value.ref b] : List Value).toArray 4) := by
  obtain ⟨hx, hb, hr, hml, hown, hts, hX, hbl, hlocks, hgv⟩ := id C0
  have hA : ∀ q : Nat, s.heap.size ≤ q → (fun q : Nat => s.heap.size ≤ q) q := fun _ h => h
  obtain ⟨ty, D, hK⟩ := lw_known hts
  have X : kX p s m #[Value.ref b] c R_law code 4 ty D := ⟨hx, hb, hml, hown, fun w hw => hts w (List.mem_filter.mp hw).1, fun o i y h hm => va_Nw.of rfl (hts _ hm), hK, va_AO.of (hts (.arrayOver (.object "YieldLines$State")) (mem_at (p := 216) (by decide +kernel)))⟩
  have hS : va_S (fun q : Nat => s.heap.size ≤ q) s.heap s.heap [] := va_S.rf
  have hP : va_P D vwCl ([] : va_W) s.heap := fun k q h => by simp at h
  have hD : va_D (fun q : Nat => s.heap.size ≤ q) ([] : va_W) := ⟨fun i j p q h => by simp at h, fun k q h => by simp at h⟩
  have hl := lv_entry ([.ref b]) (n := 4) (Nat.le_of_ble_eq_true rfl)
  rw [lg_entry_eq]
  generalize (lg_sl ([.ref b]) ++ List.replicate (4 - (lg_sl ([.ref b])).length) Slot.unset).toArray = ls at hl ⊢
  have hl : lv_has ls 4 [(0, .ref b)] := hl
  refine k_new (ci := 5) (C := RX5) (T := TX5) (N := 10) (fs := [.null, .int 0, .null, .null, .null, .null, .null, .int 0, .int 0, .int 0]) tyX5 X rfl tyX5_ok (mem_at (p := 92) (by decide +kernel)) (mem_at (p := 93) (by decide +kernel)) (mem_at (p := 83) (by decide +kernel)) hP hD hS hA (fun j hj => by rcases (show j = 0 ∨ j = 1 ∨ j = 2 ∨ j = 3 ∨ j = 4 ∨ j = 5 ∨ j = 6 ∨ j = 7 ∨ j = 8 ∨ j = 9 by omega) with rfl | rfl | rfl | rfl | rfl | rfl | rfl | rfl | rfl | rfl <;> rfl) (Nat.le_of_ble_eq_true rfl) (Nat.le_of_ble_eq_true rfl) dl_0 (fun q0 H hP hD hS => ?_)
  refine lv_dup X.1 X.2.1 dl_3 rfl ?_
  refine k_callL (ws := []) (vs := []) X (c_Y l) ok_51 (mem_at (p := 94) (by decide +kernel)) hP hD hS hA rfl ⟨Nat.le_of_ble_eq_true rfl, Nat.le_of_ble_eq_true rfl⟩ hl.1 (Nat.le_of_ble_eq_true rfl) ⟨Nat.le_of_ble_eq_true rfl, Nat.le_of_ble_eq_true rfl⟩ dl_4 (fun a1 H locs had hPn hDn hS => ?_)
  subst had
  refine lv_astore_n (lv' := [(1, .ref (a1 0)), (0, .ref b)]) X.1 X.2.1 dl_7 rfl hl (by decide) rfl (fun ls hl => ?_)
  have hP : va_P D vwCl (ywW ty (hiR (fun j => a1 (27 + j))) a1) H := hPn
  have hD : va_D (fun q : Nat => s.heap.size ≤ q) (ywW ty (hiR (fun j => a1 (27 + j))) a1) := hDn
  refine k_new (ci := 6) (C := RX6) (T := TX6) (N := 38) (fs := [.null, .null, .null, .int 0, .null, .null, .int 0, .int 0, .int 0, .null, .int 0, .int 0, .null, .null, .int 0, .null, .null, .int 0, .int 0, .null, .null, .null, .null, .null, .int 0, .int 0, .int 0, .int 0, .int 0, .int 0, .int 0, .null, .null, .int 0, .null, .null, .null, .long 0]) tyX6 X rfl tyX6_ok (mem_at (p := 655) (by decide +kernel)) (mem_at (p := 656) (by decide +kernel)) (mem_at (p := 89) (by decide +kernel)) hP hD hS hA (fun j hj => by rcases (show j = 0 ∨ j = 1 ∨ j = 2 ∨ j = 3 ∨ j = 4 ∨ j = 5 ∨ j = 6 ∨ j = 7 ∨ j = 8 ∨ j = 9 ∨ j = 10 ∨ j = 11 ∨ j = 12 ∨ j = 13 ∨ j = 14 ∨ j = 15 ∨ j = 16 ∨ j = 17 ∨ j = 18 ∨ j = 19 ∨ j = 20 ∨ j = 21 ∨ j = 22 ∨ j = 23 ∨ j = 24 ∨ j = 25 ∨ j = 26 ∨ j = 27 ∨ j = 28 ∨ j = 29 ∨ j = 30 ∨ j = 31 ∨ j = 32 ∨ j = 33 ∨ j = 34 ∨ j = 35 ∨ j = 36 ∨ j = 37 by omega) with rfl | rfl | rfl | rfl | rfl | rfl | rfl | rfl | rfl | rfl | rfl | rfl | rfl | rfl | rfl | rfl | rfl | rfl | rfl | rfl | rfl | rfl | rfl | rfl | rfl | rfl | rfl | rfl | rfl | rfl | rfl | rfl | rfl | rfl | rfl | rfl | rfl | rfl <;> rfl) (Nat.le_of_ble_eq_true rfl) (Nat.le_of_ble_eq_true rfl) dl_8 (fun q1 H hP hD hS => ?_)
  refine lv_dup X.1 X.2.1 dl_11 rfl ?_
  refine k_callL (vs := []) X (c_M l) ok_79 (mem_at (p := 657) (by decide +kernel)) hP hD hS hA rfl ⟨Nat.le_of_ble_eq_true rfl, Nat.le_of_ble_eq_true rfl⟩ hl.1 (Nat.le_of_ble_eq_true rfl) ⟨Nat.le_of_ble_eq_true rfl, Nat.le_of_ble_eq_true rfl⟩ dl_12 (fun a2 H locs had hPn hDn hS => ?_)
  subst had
  refine lv_astore_n (lv' := [(2, .ref (a2 0)), (1, .ref (a1 0)), (0, .ref b)]) X.1 X.2.1 dl_15 rfl hl (by decide) rfl (fun ls hl => ?_)
  refine lv_iconst (v := 0) X.1 X.2.1 dl_16 (by decide) ?_
  refine lv_istore_n (lv' := [(3, .int 0), (2, .ref (a2 0)), (1, .ref (a1 0)), (0, .ref b)]) X.1 X.2.1 dl_17 rfl hl (by decide) rfl (fun ls hl => ?_)
  obtain ⟨ad, had⟩ : ∃ ad : Nat → Nat, ad = fun c => if c < 97 then a1 c else a2 (c - 97) := ⟨_, rfl⟩
  have hw : ywW ty (hiR (fun j => a1 (27 + j))) a1 ++ mdW ty a2 = wd ad ty z0 := by
    rw [← wd0, had]
    rfl
  have h0 : a1 0 = ad 0 := by rw [had]; rfl
  have h97 : a2 0 = ad 97 := by rw [had]; rfl
  rw [hw] at hPn hDn
  rw [h0, h97] at hl
  refine W.widen (k := 118) (n := 4678) (Nat.le_of_ble_eq_true rfl) (Nat.le_of_ble_eq_true rfl) ?_
  exact law_loop (ad := ad) X hr hlocks hX hbl hL L 0 (by omega) z0 H locs ls ⟨inv0, hPn, hDn, hS, hl⟩ (by omega)
