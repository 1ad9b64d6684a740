/-! THE CONSTRUCTORS (printed by wip/whole/mkctor.py) -/
def iA (ty : Nat → ClassId) (q n : Nat) : Nat × va_E := (q, .inl (ty 0, n, .inl (fun _ => 0)))
def zA (ty : Nat → ClassId) (q n : Nat) : Nat × va_E := (q, .inl (ty 1, n, .inl (fun _ => 0)))
def qA (ty : Nat → ClassId) (q n : Nat) (f : Nat → Option Nat) : Nat × va_E := (q, .inl (ty 2, n, .inr (.inr (.inr (.inr f)))))
def oA (q ci : Nat) (fs : List Value) : Nat × va_E := (q, .inr (ci, fs))
def stW (ty : Nat → ClassId) (ad : Nat → Nat) : va_W := [oA (ad 0) 4 [.ref (ad 1), .ref (ad 2), .ref (ad 3), .ref (ad 4), .ref (ad 5), .ref (ad 6), .ref (ad 7), .ref (ad 8), .ref (ad 9), .ref (ad 10), .int 0], iA ty (ad 1) 60, iA ty (ad 2) 60, iA ty (ad 3) 60, iA ty (ad 4) 60, iA ty (ad 5) 8, iA ty (ad 6) 8, iA ty (ad 7) 8, iA ty (ad 8) 8, iA ty (ad 9) 8, iA ty (ad 10) 4]
def rdW (ty : Nat → ClassId) (ad : Nat → Nat) : va_W := oA (ad 0) 3 [.ref (ad 1), .ref (ad 12), .ref (ad 13), .int 0, .int 0, .int 0, .int 0, .int 0, .int 0, .int 0, .int 0] :: (stW ty (fun j => ad (1 + j)) ++ [iA ty (ad 12) 69] ++ [iA ty (ad 13) 69])
def hiW (ty : Nat → ClassId) (r : Nat → Option Nat) (ad : Nat → Nat) : va_W := oA (ad 0) 0 [.ref (ad 1), .int 0, .int 0] :: qA ty (ad 1) 5 r :: (stW ty (fun j => ad (2 + j)) ++ stW ty (fun j => ad (13 + j)) ++ stW ty (fun j => ad (24 + j)) ++ stW ty (fun j => ad (35 + j)) ++ stW ty (fun j => ad (46 + j)))
def hiR (ad : Nat → Nat) : Nat → Option Nat := fun i => [ad 2, ad 13, ad 24, ad 35, ad 46][i]?
def maW (q : Nat) (ty : Nat → ClassId) (ad : Nat → Nat) : va_W := [oA (ad 0) 1 [.ref (q), .ref (ad 1), .ref (ad 2), .ref (ad 3), .ref (ad 4), .ref (ad 5), .int 0, .int 0, .int 0], iA ty (ad 1) 4, iA ty (ad 2) 60, iA ty (ad 3) 60, iA ty (ad 4) 60, iA ty (ad 5) 60]
def ouW (ty : Nat → ClassId) (ad : Nat → Nat) : va_W := [oA (ad 0) 2 [.int 0, .ref (ad 1), .int 0, .ref (ad 2), .ref (ad 3), .ref (ad 4), .ref (ad 5), .ref (ad 6)], iA ty (ad 1) 240, iA ty (ad 2) 8, iA ty (ad 3) 8, iA ty (ad 4) 8, iA ty (ad 5) 8, iA ty (ad 6) 4]
def ywW (ty : Nat → ClassId) (r : Nat → Option Nat) (ad : Nat → Nat) : va_W := oA (ad 0) 5 [.ref (ad 1), .int 0, .ref (ad 2), .ref (ad 13), .ref (ad 27), .ref (ad 84), .ref (ad 90), .int 0, .int 0, .int 0] :: iA ty (ad 1) 150 :: (stW ty (fun j => ad (2 + j)) ++ rdW ty (fun j => ad (13 + j)) ++ hiW ty r (fun j => ad (27 + j)) ++ maW (ad 2) ty (fun j => ad (84 + j)) ++ ouW ty (fun j => ad (90 + j)))
def mdW (ty : Nat → ClassId) (ad : Nat → Nat) : va_W := [oA (ad 0) 6 [.ref (ad 1), .ref (ad 2), .ref (ad 3), .int 0, .ref (ad 4), .ref (ad 5), .int 0, .int 0, .int 0, .ref (ad 6), .int 0, .int 0, .ref (ad 7), .ref (ad 8), .int 0, .ref (ad 9), .ref (ad 10), .int 0, .int 0, .ref (ad 11), .ref (ad 12), .ref (ad 13), .ref (ad 14), .ref (ad 15), .int 0, .int 0, .int 0, .int 0, .int 0, .int 0, .int 0, .ref (ad 16), .ref (ad 17), .int 0, .ref (ad 18), .ref (ad 19), .ref (ad 20), .long 0], iA ty (ad 1) 89, iA ty (ad 2) 89, iA ty (ad 3) 445, iA ty (ad 4) 3, iA ty (ad 5) 150, iA ty (ad 6) 89, iA ty (ad 7) 64, zA ty (ad 8) 64, iA ty (ad 9) 80, iA ty (ad 10) 80, iA ty (ad 11) 60, iA ty (ad 12) 60, iA ty (ad 13) 60, iA ty (ad 14) 60, iA ty (ad 15) 4, iA ty (ad 16) 60, iA ty (ad 17) 240, iA ty (ad 18) 8, iA ty (ad 19) 8, zA ty (ad 20) 8]
section KG
variable {p : Program} {l : Launch} {e : Env} {R : Room} {s : State} {m : MethodId} {args : Array Value} {below : List Frame} {meth : Method} {c : Code} {H : Heap} {locs : List Loc} {cells slots : Nat} {Q : State → Prop} {pc : Nat} {ls : Array Slot} {rest : List Value} {own : String} {bytes : ByteArray} {maxL : Nat} {ty : Nat → ClassId} {D : va_G} {A : Nat → Prop} {ws : va_W}
theorem k_get {ci k i h0 : Nat} {fs : List Value} {R0 : va_W} {v : Value} {C : String} {T : u_T} {N : Nat} (X : kX p s m args c own bytes maxL ty D) (hcl : vwCl[ci]? = some (C, T, N)) (hP : va_P D vwCl ((h0, .inr (ci, fs)) :: R0) H) (hk : k < N) (hlk : Cond.fieldLink own i (T k).1 (T k).2.1 (T k).2.2.1 ∈ lw_tbl) (hv : fs[k]? = some v) (hd : decode bytes pc = .ok (.getfield i, 3))
    (kk : W p l e R s m args below meth c H locs cells slots Q (F0 m (pc + 3) ls (v :: rest))) : W p l e R s m args below meth c H locs cells slots Q (F0 m pc ls (.ref h0 :: rest)) := by
  obtain ⟨h1, h2, h3, _, h4⟩ := cl_ok hcl
  exact va_get (k := k) X.1 X.2.1 X.2.2.2.2.1 (filt_in h2) X.2.2.2.1 X.2.2.2.2.2.2.1 hP 0 rfl hcl hk (X.w hlk rfl) (fun _ h9 => h9) hv hd kk
end KG
theorem k47_0 : decode cX4_init 0 = .ok (.aload_n 0, 1) := by decide +kernel
theorem k47_1 : decode cX4_init 1 = .ok (.invokespecial 3, 3) := by decide +kernel
theorem k47_4 : decode cX4_init 4 = .ok (.aload_n 0, 1) := by decide +kernel
theorem k47_5 : decode cX4_init 5 = .ok (.bipush 60, 2) := by decide +kernel
theorem k47_7 : decode cX4_init 7 = .ok (.newarray .int, 2) := by decide +kernel
theorem k47_9 : decode cX4_init 9 = .ok (.putfield 9, 3) := by decide +kernel
theorem k47_12 : decode cX4_init 12 = .ok (.aload_n 0, 1) := by decide +kernel
theorem k47_13 : decode cX4_init 13 = .ok (.bipush 60, 2) := by decide +kernel
theorem k47_15 : decode cX4_init 15 = .ok (.newarray .int, 2) := by decide +kernel
theorem k47_17 : decode cX4_init 17 = .ok (.putfield 15, 3) := by decide +kernel
theorem k47_20 : decode cX4_init 20 = .ok (.aload_n 0, 1) := by decide +kernel
theorem k47_21 : decode cX4_init 21 = .ok (.bipush 60, 2) := by decide +kernel
theorem k47_23 : decode cX4_init 23 = .ok (.newarray .int, 2) := by decide +kernel
theorem k47_25 : decode cX4_init 25 = .ok (.putfield 18, 3) := by decide +kernel
theorem k47_28 : decode cX4_init 28 = .ok (.aload_n 0, 1) := by decide +kernel
theorem k47_29 : decode cX4_init 29 = .ok (.bipush 60, 2) := by decide +kernel
theorem k47_31 : decode cX4_init 31 = .ok (.newarray .int, 2) := by decide +kernel
theorem k47_33 : decode cX4_init 33 = .ok (.putfield 21, 3) := by decide +kernel
theorem k47_36 : decode cX4_init 36 = .ok (.aload_n 0, 1) := by decide +kernel
theorem k47_37 : decode cX4_init 37 = .ok (.bipush 8, 2) := by decide +kernel
theorem k47_39 : decode cX4_init 39 = .ok (.newarray .int, 2) := by decide +kernel
theorem k47_41 : decode cX4_init 41 = .ok (.putfield 24, 3) := by decide +kernel
theorem k47_44 : decode cX4_init 44 = .ok (.aload_n 0, 1) := by decide +kernel
theorem k47_45 : decode cX4_init 45 = .ok (.bipush 8, 2) := by decide +kernel
theorem k47_47 : decode cX4_init 47 = .ok (.newarray .int, 2) := by decide +kernel
theorem k47_49 : decode cX4_init 49 = .ok (.putfield 27, 3) := by decide +kernel
theorem k47_52 : decode cX4_init 52 = .ok (.aload_n 0, 1) := by decide +kernel
theorem k47_53 : decode cX4_init 53 = .ok (.bipush 8, 2) := by decide +kernel
theorem k47_55 : decode cX4_init 55 = .ok (.newarray .int, 2) := by decide +kernel
theorem k47_57 : decode cX4_init 57 = .ok (.putfield 30, 3) := by decide +kernel
theorem k47_60 : decode cX4_init 60 = .ok (.aload_n 0, 1) := by decide +kernel
theorem k47_61 : decode cX4_init 61 = .ok (.bipush 8, 2) := by decide +kernel
theorem k47_63 : decode cX4_init 63 = .ok (.newarray .int, 2) := by decide +kernel
theorem k47_65 : decode cX4_init 65 = .ok (.putfield 33, 3) := by decide +kernel
theorem k47_68 : decode cX4_init 68 = .ok (.aload_n 0, 1) := by decide +kernel
theorem k47_69 : decode cX4_init 69 = .ok (.bipush 8, 2) := by decide +kernel
theorem k47_71 : decode cX4_init 71 = .ok (.newarray .int, 2) := by decide +kernel
theorem k47_73 : decode cX4_init 73 = .ok (.putfield 36, 3) := by decide +kernel
theorem k47_76 : decode cX4_init 76 = .ok (.aload_n 0, 1) := by decide +kernel
theorem k47_77 : decode cX4_init 77 = .ok (.iconst 4, 1) := by decide +kernel
theorem k47_78 : decode cX4_init 78 = .ok (.newarray .int, 2) := by decide +kernel
theorem k47_80 : decode cX4_init 80 = .ok (.putfield 39, 3) := by decide +kernel
theorem k47_83 : decode cX4_init 83 = .ok (.return_, 1) := by decide +kernel
theorem ok_47 : kOk yX4_init cX4_init 1 0 := ⟨mem_at (p := 104) (by decide +kernel), mem_at (p := 103) (by decide +kernel), mem_at (p := 84) (by decide +kernel), by decide +kernel, rfl⟩
set_option maxRecDepth 20000 in
set_option maxHeartbeats 4000000 in
theorem c_State (l : Launch) : kMet l yX4_init cX4_init 1 { frames := 1, cells := 10, slots := 284, locals := 12 } [] 4 [.null, .null, .null, .null, .null, .null, .null, .null, .null, .null, .int 0] stW := by
  refine kMet.of (by decide +kernel) rfl (fun q => Nat.le_of_ble_eq_true rfl) ?_
  intro p e s m args below meth c ty D h0 A ls X hin hr hlocks hA hP hD hS hl
  have hl : lv_has ls 1 [(0, .ref h0)] := hl
  refine lv_aload_n X.1 X.2.1 k47_0 rfl (lv_at hl 0 rfl) ?_
  refine k_obj X (mem_at (p := 105) (by decide +kernel)) hl.1 (Nat.le_of_ble_eq_true rfl) (Nat.le_of_ble_eq_true rfl) k47_1 ?_
  have hP : va_P D vwCl (oA h0 4 [.null, .null, .null, .null, .null, .null, .null, .null, .null, .null, .int 0] :: (([] : va_W))) s.heap := hP
  have hD : va_D A (oA h0 4 [.null, .null, .null, .null, .null, .null, .null, .null, .null, .null, .int 0] :: (([] : va_W))) := hD
  refine lv_aload_n X.1 X.2.1 k47_4 rfl (lv_at hl 0 rfl) ?_
  refine lv_bipush (v := 60) X.1 X.2.1 k47_5 (by decide) ?_
  refine k_newI (n := 60) X hP hD hS hA rfl (by omega) (Nat.le_of_ble_eq_true rfl) (Nat.le_of_ble_eq_true rfl) k47_7 (fun q1 H hP hD hS => ?_)
  have hP : va_P D vwCl (oA h0 4 [.null, .null, .null, .null, .null, .null, .null, .null, .null, .null, .int 0] :: ([iA ty q1 60])) H := hP
  have hD : va_D A (oA h0 4 [.null, .null, .null, .null, .null, .null, .null, .null, .null, .null, .int 0] :: ([iA ty q1 60])) := hD
  refine k_put (k := 0) (t := (.array .int)) (C := RX4) (T := TX4) (N := 11) X hin rfl hP hD hS (by decide) (mem_at (p := 106) (by decide +kernel)) rfl rfl (by decide +kernel) rfl rfl (Nat.le_of_ble_eq_true rfl) k47_9 (fun H locs hP hD hS => ?_)
  have hP : va_P D vwCl (oA h0 4 [.ref (q1), .null, .null, .null, .null, .null, .null, .null, .null, .null, .int 0] :: ([iA ty q1 60])) H := hP
  have hD : va_D A (oA h0 4 [.ref (q1), .null, .null, .null, .null, .null, .null, .null, .null, .null, .int 0] :: ([iA ty q1 60])) := hD
  refine lv_aload_n X.1 X.2.1 k47_12 rfl (lv_at hl 0 rfl) ?_
  refine lv_bipush (v := 60) X.1 X.2.1 k47_13 (by decide) ?_
  refine k_newI (n := 60) X hP hD hS hA rfl (by omega) (Nat.le_of_ble_eq_true rfl) (Nat.le_of_ble_eq_true rfl) k47_15 (fun q2 H hP hD hS => ?_)
  have hP : va_P D vwCl (oA h0 4 [.ref (q1), .null, .null, .null, .null, .null, .null, .null, .null, .null, .int 0] :: ([iA ty q1 60] ++ [iA ty q2 60])) H := hP
  have hD : va_D A (oA h0 4 [.ref (q1), .null, .null, .null, .null, .null, .null, .null, .null, .null, .int 0] :: ([iA ty q1 60] ++ [iA ty q2 60])) := hD
  refine k_put (k := 1) (t := (.array .int)) (C := RX4) (T := TX4) (N := 11) X hin rfl hP hD hS (by decide) (mem_at (p := 109) (by decide +kernel)) rfl rfl (by decide +kernel) rfl rfl (Nat.le_of_ble_eq_true rfl) k47_17 (fun H locs hP hD hS => ?_)
  have hP : va_P D vwCl (oA h0 4 [.ref (q1), .ref (q2), .null, .null, .null, .null, .null, .null, .null, .null, .int 0] :: ([iA ty q1 60] ++ [iA ty q2 60])) H := hP
  have hD : va_D A (oA h0 4 [.ref (q1), .ref (q2), .null, .null, .null, .null, .null, .null, .null, .null, .int 0] :: ([iA ty q1 60] ++ [iA ty q2 60])) := hD
  refine lv_aload_n X.1 X.2.1 k47_20 rfl (lv_at hl 0 rfl) ?_
  refine lv_bipush (v := 60) X.1 X.2.1 k47_21 (by decide) ?_
  refine k_newI (n := 60) X hP hD hS hA rfl (by omega) (Nat.le_of_ble_eq_true rfl) (Nat.le_of_ble_eq_true rfl) k47_23 (fun q3 H hP hD hS => ?_)
  have hP : va_P D vwCl (oA h0 4 [.ref (q1), .ref (q2), .null, .null, .null, .null, .null, .null, .null, .null, .int 0] :: ([iA ty q1 60] ++ [iA ty q2 60] ++ [iA ty q3 60])) H := hP
  have hD : va_D A (oA h0 4 [.ref (q1), .ref (q2), .null, .null, .null, .null, .null, .null, .null, .null, .int 0] :: ([iA ty q1 60] ++ [iA ty q2 60] ++ [iA ty q3 60])) := hD
  refine k_put (k := 2) (t := (.array .int)) (C := RX4) (T := TX4) (N := 11) X hin rfl hP hD hS (by decide) (mem_at (p := 112) (by decide +kernel)) rfl rfl (by decide +kernel) rfl rfl (Nat.le_of_ble_eq_true rfl) k47_25 (fun H locs hP hD hS => ?_)
  have hP : va_P D vwCl (oA h0 4 [.ref (q1), .ref (q2), .ref (q3), .null, .null, .null, .null, .null, .null, .null, .int 0] :: ([iA ty q1 60] ++ [iA ty q2 60] ++ [iA ty q3 60])) H := hP
  have hD : va_D A (oA h0 4 [.ref (q1), .ref (q2), .ref (q3), .null, .null, .null, .null, .null, .null, .null, .int 0] :: ([iA ty q1 60] ++ [iA ty q2 60] ++ [iA ty q3 60])) := hD
  refine lv_aload_n X.1 X.2.1 k47_28 rfl (lv_at hl 0 rfl) ?_
  refine lv_bipush (v := 60) X.1 X.2.1 k47_29 (by decide) ?_
  refine k_newI (n := 60) X hP hD hS hA rfl (by omega) (Nat.le_of_ble_eq_true rfl) (Nat.le_of_ble_eq_true rfl) k47_31 (fun q4 H hP hD hS => ?_)
  have hP : va_P D vwCl (oA h0 4 [.ref (q1), .ref (q2), .ref (q3), .null, .null, .null, .null, .null, .null, .null, .int 0] :: ([iA ty q1 60] ++ [iA ty q2 60] ++ [iA ty q3 60] ++ [iA ty q4 60])) H := hP
  have hD : va_D A (oA h0 4 [.ref (q1), .ref (q2), .ref (q3), .null, .null, .null, .null, .null, .null, .null, .int 0] :: ([iA ty q1 60] ++ [iA ty q2 60] ++ [iA ty q3 60] ++ [iA ty q4 60])) := hD
  refine k_put (k := 3) (t := (.array .int)) (C := RX4) (T := TX4) (N := 11) X hin rfl hP hD hS (by decide) (mem_at (p := 115) (by decide +kernel)) rfl rfl (by decide +kernel) rfl rfl (Nat.le_of_ble_eq_true rfl) k47_33 (fun H locs hP hD hS => ?_)
  have hP : va_P D vwCl (oA h0 4 [.ref (q1), .ref (q2), .ref (q3), .ref (q4), .null, .null, .null, .null, .null, .null, .int 0] :: ([iA ty q1 60] ++ [iA ty q2 60] ++ [iA ty q3 60] ++ [iA ty q4 60])) H := hP
  have hD : va_D A (oA h0 4 [.ref (q1), .ref (q2), .ref (q3), .ref (q4), .null, .null, .null, .null, .null, .null, .int 0] :: ([iA ty q1 60] ++ [iA ty q2 60] ++ [iA ty q3 60] ++ [iA ty q4 60])) := hD
  refine lv_aload_n X.1 X.2.1 k47_36 rfl (lv_at hl 0 rfl) ?_
  refine lv_bipush (v := 8) X.1 X.2.1 k47_37 (by decide) ?_
  refine k_newI (n := 8) X hP hD hS hA rfl (by omega) (Nat.le_of_ble_eq_true rfl) (Nat.le_of_ble_eq_true rfl) k47_39 (fun q5 H hP hD hS => ?_)
  have hP : va_P D vwCl (oA h0 4 [.ref (q1), .ref (q2), .ref (q3), .ref (q4), .null, .null, .null, .null, .null, .null, .int 0] :: ([iA ty q1 60] ++ [iA ty q2 60] ++ [iA ty q3 60] ++ [iA ty q4 60] ++ [iA ty q5 8])) H := hP
  have hD : va_D A (oA h0 4 [.ref (q1), .ref (q2), .ref (q3), .ref (q4), .null, .null, .null, .null, .null, .null, .int 0] :: ([iA ty q1 60] ++ [iA ty q2 60] ++ [iA ty q3 60] ++ [iA ty q4 60] ++ [iA ty q5 8])) := hD
  refine k_put (k := 4) (t := (.array .int)) (C := RX4) (T := TX4) (N := 11) X hin rfl hP hD hS (by decide) (mem_at (p := 118) (by decide +kernel)) rfl rfl (by decide +kernel) rfl rfl (Nat.le_of_ble_eq_true rfl) k47_41 (fun H locs hP hD hS => ?_)
  have hP : va_P D vwCl (oA h0 4 [.ref (q1), .ref (q2), .ref (q3), .ref (q4), .ref (q5), .null, .null, .null, .null, .null, .int 0] :: ([iA ty q1 60] ++ [iA ty q2 60] ++ [iA ty q3 60] ++ [iA ty q4 60] ++ [iA ty q5 8])) H := hP
  have hD : va_D A (oA h0 4 [.ref (q1), .ref (q2), .ref (q3), .ref (q4), .ref (q5), .null, .null, .null, .null, .null, .int 0] :: ([iA ty q1 60] ++ [iA ty q2 60] ++ [iA ty q3 60] ++ [iA ty q4 60] ++ [iA ty q5 8])) := hD
  refine lv_aload_n X.1 X.2.1 k47_44 rfl (lv_at hl 0 rfl) ?_
  refine lv_bipush (v := 8) X.1 X.2.1 k47_45 (by decide) ?_
  refine k_newI (n := 8) X hP hD hS hA rfl (by omega) (Nat.le_of_ble_eq_true rfl) (Nat.le_of_ble_eq_true rfl) k47_47 (fun q6 H hP hD hS => ?_)
  have hP : va_P D vwCl (oA h0 4 [.ref (q1), .ref (q2), .ref (q3), .ref (q4), .ref (q5), .null, .null, .null, .null, .null, .int 0] :: ([iA ty q1 60] ++ [iA ty q2 60] ++ [iA ty q3 60] ++ [iA ty q4 60] ++ [iA ty q5 8] ++ [iA ty q6 8])) H := hP
  have hD : va_D A (oA h0 4 [.ref (q1), .ref (q2), .ref (q3), .ref (q4), .ref (q5), .null, .null, .null, .null, .null, .int 0] :: ([iA ty q1 60] ++ [iA ty q2 60] ++ [iA ty q3 60] ++ [iA ty q4 60] ++ [iA ty q5 8] ++ [iA ty q6 8])) := hD
  refine k_put (k := 5) (t := (.array .int)) (C := RX4) (T := TX4) (N := 11) X hin rfl hP hD hS (by decide) (mem_at (p := 122) (by decide +kernel)) rfl rfl (by decide +kernel) rfl rfl (Nat.le_of_ble_eq_true rfl) k47_49 (fun H locs hP hD hS => ?_)
  have hP : va_P D vwCl (oA h0 4 [.ref (q1), .ref (q2), .ref (q3), .ref (q4), .ref (q5), .ref (q6), .null, .null, .null, .null, .int 0] :: ([iA ty q1 60] ++ [iA ty q2 60] ++ [iA ty q3 60] ++ [iA ty q4 60] ++ [iA ty q5 8] ++ [iA ty q6 8])) H := hP
  have hD : va_D A (oA h0 4 [.ref (q1), .ref (q2), .ref (q3), .ref (q4), .ref (q5), .ref (q6), .null, .null, .null, .null, .int 0] :: ([iA ty q1 60] ++ [iA ty q2 60] ++ [iA ty q3 60] ++ [iA ty q4 60] ++ [iA ty q5 8] ++ [iA ty q6 8])) := hD
  refine lv_aload_n X.1 X.2.1 k47_52 rfl (lv_at hl 0 rfl) ?_
  refine lv_bipush (v := 8) X.1 X.2.1 k47_53 (by decide) ?_
  refine k_newI (n := 8) X hP hD hS hA rfl (by omega) (Nat.le_of_ble_eq_true rfl) (Nat.le_of_ble_eq_true rfl) k47_55 (fun q7 H hP hD hS => ?_)
  have hP : va_P D vwCl (oA h0 4 [.ref (q1), .ref (q2), .ref (q3), .ref (q4), .ref (q5), .ref (q6), .null, .null, .null, .null, .int 0] :: ([iA ty q1 60] ++ [iA ty q2 60] ++ [iA ty q3 60] ++ [iA ty q4 60] ++ [iA ty q5 8] ++ [iA ty q6 8] ++ [iA ty q7 8])) H := hP
  have hD : va_D A (oA h0 4 [.ref (q1), .ref (q2), .ref (q3), .ref (q4), .ref (q5), .ref (q6), .null, .null, .null, .null, .int 0] :: ([iA ty q1 60] ++ [iA ty q2 60] ++ [iA ty q3 60] ++ [iA ty q4 60] ++ [iA ty q5 8] ++ [iA ty q6 8] ++ [iA ty q7 8])) := hD
  refine k_put (k := 6) (t := (.array .int)) (C := RX4) (T := TX4) (N := 11) X hin rfl hP hD hS (by decide) (mem_at (p := 126) (by decide +kernel)) rfl rfl (by decide +kernel) rfl rfl (Nat.le_of_ble_eq_true rfl) k47_57 (fun H locs hP hD hS => ?_)
  have hP : va_P D vwCl (oA h0 4 [.ref (q1), .ref (q2), .ref (q3), .ref (q4), .ref (q5), .ref (q6), .ref (q7), .null, .null, .null, .int 0] :: ([iA ty q1 60] ++ [iA ty q2 60] ++ [iA ty q3 60] ++ [iA ty q4 60] ++ [iA ty q5 8] ++ [iA ty q6 8] ++ [iA ty q7 8])) H := hP
  have hD : va_D A (oA h0 4 [.ref (q1), .ref (q2), .ref (q3), .ref (q4), .ref (q5), .ref (q6), .ref (q7), .null, .null, .null, .int 0] :: ([iA ty q1 60] ++ [iA ty q2 60] ++ [iA ty q3 60] ++ [iA ty q4 60] ++ [iA ty q5 8] ++ [iA ty q6 8] ++ [iA ty q7 8])) := hD
  refine lv_aload_n X.1 X.2.1 k47_60 rfl (lv_at hl 0 rfl) ?_
  refine lv_bipush (v := 8) X.1 X.2.1 k47_61 (by decide) ?_
  refine k_newI (n := 8) X hP hD hS hA rfl (by omega) (Nat.le_of_ble_eq_true rfl) (Nat.le_of_ble_eq_true rfl) k47_63 (fun q8 H hP hD hS => ?_)
  have hP : va_P D vwCl (oA h0 4 [.ref (q1), .ref (q2), .ref (q3), .ref (q4), .ref (q5), .ref (q6), .ref (q7), .null, .null, .null, .int 0] :: ([iA ty q1 60] ++ [iA ty q2 60] ++ [iA ty q3 60] ++ [iA ty q4 60] ++ [iA ty q5 8] ++ [iA ty q6 8] ++ [iA ty q7 8] ++ [iA ty q8 8])) H := hP
  have hD : va_D A (oA h0 4 [.ref (q1), .ref (q2), .ref (q3), .ref (q4), .ref (q5), .ref (q6), .ref (q7), .null, .null, .null, .int 0] :: ([iA ty q1 60] ++ [iA ty q2 60] ++ [iA ty q3 60] ++ [iA ty q4 60] ++ [iA ty q5 8] ++ [iA ty q6 8] ++ [iA ty q7 8] ++ [iA ty q8 8])) := hD
  refine k_put (k := 7) (t := (.array .int)) (C := RX4) (T := TX4) (N := 11) X hin rfl hP hD hS (by decide) (mem_at (p := 129) (by decide +kernel)) rfl rfl (by decide +kernel) rfl rfl (Nat.le_of_ble_eq_true rfl) k47_65 (fun H locs hP hD hS => ?_)
  have hP : va_P D vwCl (oA h0 4 [.ref (q1), .ref (q2), .ref (q3), .ref (q4), .ref (q5), .ref (q6), .ref (q7), .ref (q8), .null, .null, .int 0] :: ([iA ty q1 60] ++ [iA ty q2 60] ++ [iA ty q3 60] ++ [iA ty q4 60] ++ [iA ty q5 8] ++ [iA ty q6 8] ++ [iA ty q7 8] ++ [iA ty q8 8])) H := hP
  have hD : va_D A (oA h0 4 [.ref (q1), .ref (q2), .ref (q3), .ref (q4), .ref (q5), .ref (q6), .ref (q7), .ref (q8), .null, .null, .int 0] :: ([iA ty q1 60] ++ [iA ty q2 60] ++ [iA ty q3 60] ++ [iA ty q4 60] ++ [iA ty q5 8] ++ [iA ty q6 8] ++ [iA ty q7 8] ++ [iA ty q8 8])) := hD
  refine lv_aload_n X.1 X.2.1 k47_68 rfl (lv_at hl 0 rfl) ?_
  refine lv_bipush (v := 8) X.1 X.2.1 k47_69 (by decide) ?_
  refine k_newI (n := 8) X hP hD hS hA rfl (by omega) (Nat.le_of_ble_eq_true rfl) (Nat.le_of_ble_eq_true rfl) k47_71 (fun q9 H hP hD hS => ?_)
  have hP : va_P D vwCl (oA h0 4 [.ref (q1), .ref (q2), .ref (q3), .ref (q4), .ref (q5), .ref (q6), .ref (q7), .ref (q8), .null, .null, .int 0] :: ([iA ty q1 60] ++ [iA ty q2 60] ++ [iA ty q3 60] ++ [iA ty q4 60] ++ [iA ty q5 8] ++ [iA ty q6 8] ++ [iA ty q7 8] ++ [iA ty q8 8] ++ [iA ty q9 8])) H := hP
  have hD : va_D A (oA h0 4 [.ref (q1), .ref (q2), .ref (q3), .ref (q4), .ref (q5), .ref (q6), .ref (q7), .ref (q8), .null, .null, .int 0] :: ([iA ty q1 60] ++ [iA ty q2 60] ++ [iA ty q3 60] ++ [iA ty q4 60] ++ [iA ty q5 8] ++ [iA ty q6 8] ++ [iA ty q7 8] ++ [iA ty q8 8] ++ [iA ty q9 8])) := hD
  refine k_put (k := 8) (t := (.array .int)) (C := RX4) (T := TX4) (N := 11) X hin rfl hP hD hS (by decide) (mem_at (p := 132) (by decide +kernel)) rfl rfl (by decide +kernel) rfl rfl (Nat.le_of_ble_eq_true rfl) k47_73 (fun H locs hP hD hS => ?_)
  have hP : va_P D vwCl (oA h0 4 [.ref (q1), .ref (q2), .ref (q3), .ref (q4), .ref (q5), .ref (q6), .ref (q7), .ref (q8), .ref (q9), .null, .int 0] :: ([iA ty q1 60] ++ [iA ty q2 60] ++ [iA ty q3 60] ++ [iA ty q4 60] ++ [iA ty q5 8] ++ [iA ty q6 8] ++ [iA ty q7 8] ++ [iA ty q8 8] ++ [iA ty q9 8])) H := hP
  have hD : va_D A (oA h0 4 [.ref (q1), .ref (q2), .ref (q3), .ref (q4), .ref (q5), .ref (q6), .ref (q7), .ref (q8), .ref (q9), .null, .int 0] :: ([iA ty q1 60] ++ [iA ty q2 60] ++ [iA ty q3 60] ++ [iA ty q4 60] ++ [iA ty q5 8] ++ [iA ty q6 8] ++ [iA ty q7 8] ++ [iA ty q8 8] ++ [iA ty q9 8])) := hD
  refine lv_aload_n X.1 X.2.1 k47_76 rfl (lv_at hl 0 rfl) ?_
  refine lv_iconst (v := 4) X.1 X.2.1 k47_77 (by decide) ?_
  refine k_newI (n := 4) X hP hD hS hA rfl (by omega) (Nat.le_of_ble_eq_true rfl) (Nat.le_of_ble_eq_true rfl) k47_78 (fun q10 H hP hD hS => ?_)
  have hP : va_P D vwCl (oA h0 4 [.ref (q1), .ref (q2), .ref (q3), .ref (q4), .ref (q5), .ref (q6), .ref (q7), .ref (q8), .ref (q9), .null, .int 0] :: ([iA ty q1 60] ++ [iA ty q2 60] ++ [iA ty q3 60] ++ [iA ty q4 60] ++ [iA ty q5 8] ++ [iA ty q6 8] ++ [iA ty q7 8] ++ [iA ty q8 8] ++ [iA ty q9 8] ++ [iA ty q10 4])) H := hP
  have hD : va_D A (oA h0 4 [.ref (q1), .ref (q2), .ref (q3), .ref (q4), .ref (q5), .ref (q6), .ref (q7), .ref (q8), .ref (q9), .null, .int 0] :: ([iA ty q1 60] ++ [iA ty q2 60] ++ [iA ty q3 60] ++ [iA ty q4 60] ++ [iA ty q5 8] ++ [iA ty q6 8] ++ [iA ty q7 8] ++ [iA ty q8 8] ++ [iA ty q9 8] ++ [iA ty q10 4])) := hD
  refine k_put (k := 9) (t := (.array .int)) (C := RX4) (T := TX4) (N := 11) X hin rfl hP hD hS (by decide) (mem_at (p := 135) (by decide +kernel)) rfl rfl (by decide +kernel) rfl rfl (Nat.le_of_ble_eq_true rfl) k47_80 (fun H locs hP hD hS => ?_)
  have hP : va_P D vwCl (oA h0 4 [.ref (q1), .ref (q2), .ref (q3), .ref (q4), .ref (q5), .ref (q6), .ref (q7), .ref (q8), .ref (q9), .ref (q10), .int 0] :: ([iA ty q1 60] ++ [iA ty q2 60] ++ [iA ty q3 60] ++ [iA ty q4 60] ++ [iA ty q5 8] ++ [iA ty q6 8] ++ [iA ty q7 8] ++ [iA ty q8 8] ++ [iA ty q9 8] ++ [iA ty q10 4])) H := hP
  have hD : va_D A (oA h0 4 [.ref (q1), .ref (q2), .ref (q3), .ref (q4), .ref (q5), .ref (q6), .ref (q7), .ref (q8), .ref (q9), .ref (q10), .int 0] :: ([iA ty q1 60] ++ [iA ty q2 60] ++ [iA ty q3 60] ++ [iA ty q4 60] ++ [iA ty q5 8] ++ [iA ty q6 8] ++ [iA ty q7 8] ++ [iA ty q8 8] ++ [iA ty q9 8] ++ [iA ty q10 4])) := hD
  have hP : va_P D vwCl (stW ty (fun j => if j = 0 then h0 else if j = 1 then q1 else if j = 2 then q2 else if j = 3 then q3 else if j = 4 then q4 else if j = 5 then q5 else if j = 6 then q6 else if j = 7 then q7 else if j = 8 then q8 else if j = 9 then q9 else q10)) H := hP
  have hD : va_D A (stW ty (fun j => if j = 0 then h0 else if j = 1 then q1 else if j = 2 then q2 else if j = 3 then q3 else if j = 4 then q4 else if j = 5 then q5 else if j = 6 then q6 else if j = 7 then q7 else if j = 8 then q8 else if j = 9 then q9 else q10)) := hD
  refine W.widen (k := 10) (n := 284) (Nat.le_of_ble_eq_true rfl) (Nat.le_of_ble_eq_true rfl) ?_
  exact k_ret X hr hlocks rfl hP hD hS k47_83
theorem k25_0 : decode cX3_init 0 = .ok (.aload_n 0, 1) := by decide +kernel
theorem k25_1 : decode cX3_init 1 = .ok (.invokespecial 3, 3) := by decide +kernel
theorem k25_4 : decode cX3_init 4 = .ok (.aload_n 0, 1) := by decide +kernel
theorem k25_5 : decode cX3_init 5 = .ok (.new 9, 3) := by decide +kernel
theorem k25_8 : decode cX3_init 8 = .ok (.dup, 1) := by decide +kernel
theorem k25_9 : decode cX3_init 9 = .ok (.invokespecial 11, 3) := by decide +kernel
theorem k25_12 : decode cX3_init 12 = .ok (.putfield 12, 3) := by decide +kernel
theorem k25_15 : decode cX3_init 15 = .ok (.aload_n 0, 1) := by decide +kernel
theorem k25_16 : decode cX3_init 16 = .ok (.bipush 69, 2) := by decide +kernel
theorem k25_18 : decode cX3_init 18 = .ok (.newarray .int, 2) := by decide +kernel
theorem k25_20 : decode cX3_init 20 = .ok (.putfield 18, 3) := by decide +kernel
theorem k25_23 : decode cX3_init 23 = .ok (.aload_n 0, 1) := by decide +kernel
theorem k25_24 : decode cX3_init 24 = .ok (.bipush 69, 2) := by decide +kernel
theorem k25_26 : decode cX3_init 26 = .ok (.newarray .int, 2) := by decide +kernel
theorem k25_28 : decode cX3_init 28 = .ok (.putfield 22, 3) := by decide +kernel
theorem k25_31 : decode cX3_init 31 = .ok (.return_, 1) := by decide +kernel
theorem ok_25 : kOk yX3_init cX3_init 1 0 := ⟨mem_at (p := 170) (by decide +kernel), mem_at (p := 169) (by decide +kernel), mem_at (p := 85) (by decide +kernel), by decide +kernel, rfl⟩
set_option maxRecDepth 20000 in
set_option maxHeartbeats 4000000 in
theorem c_Reader (l : Launch) : kMet l yX3_init cX3_init 1 { frames := 2, cells := 13, slots := 433, locals := 32 } [] 3 [.null, .null, .null, .int 0, .int 0, .int 0, .int 0, .int 0, .int 0, .int 0, .int 0] rdW := by
  refine kMet.of (by decide +kernel) rfl (fun q => Nat.le_of_ble_eq_true rfl) ?_
  intro p e s m args below meth c ty D h0 A ls X hin hr hlocks hA hP hD hS hl
  have hl : lv_has ls 1 [(0, .ref h0)] := hl
  refine lv_aload_n X.1 X.2.1 k25_0 rfl (lv_at hl 0 rfl) ?_
  refine k_obj X (mem_at (p := 171) (by decide +kernel)) hl.1 (Nat.le_of_ble_eq_true rfl) (Nat.le_of_ble_eq_true rfl) k25_1 ?_
  have hP : va_P D vwCl (oA h0 3 [.null, .null, .null, .int 0, .int 0, .int 0, .int 0, .int 0, .int 0, .int 0, .int 0] :: (([] : va_W))) s.heap := hP
  have hD : va_D A (oA h0 3 [.null, .null, .null, .int 0, .int 0, .int 0, .int 0, .int 0, .int 0, .int 0, .int 0] :: (([] : va_W))) := hD
  refine lv_aload_n X.1 X.2.1 k25_4 rfl (lv_at hl 0 rfl) ?_
  refine k_new (ci := 4) (C := RX4) (T := TX4) (N := 11) (fs := [.null, .null, .null, .null, .null, .null, .null, .null, .null, .null, .int 0]) tyX4 X rfl tyX4_ok (mem_at (p := 172) (by decide +kernel)) (mem_at (p := 101) (by decide +kernel)) (mem_at (p := 84) (by decide +kernel)) hP hD hS hA (fun j hj => by rcases (show j = 0 ∨ j = 1 ∨ j = 2 ∨ j = 3 ∨ j = 4 ∨ j = 5 ∨ j = 6 ∨ j = 7 ∨ j = 8 ∨ j = 9 ∨ j = 10 by omega) with rfl | rfl | rfl | rfl | rfl | rfl | rfl | rfl | rfl | rfl | rfl <;> rfl) (Nat.le_of_ble_eq_true rfl) (Nat.le_of_ble_eq_true rfl) k25_5 (fun q0 H hP hD hS => ?_)
  refine lv_dup X.1 X.2.1 k25_8 rfl ?_
  refine k_callN (ho := "YieldLines") (vs := []) X (c_State l) ok_47 (mem_at (p := 173) (by decide +kernel)) hP hD hS hA rfl ⟨Nat.le_of_ble_eq_true rfl, Nat.le_of_ble_eq_true rfl⟩ hl.1 (Nat.le_of_ble_eq_true rfl) ⟨Nat.le_of_ble_eq_true rfl, Nat.le_of_ble_eq_true rfl⟩ k25_9 (fun a1 H locs had hPn hDn hS => ?_)
  subst had
  have hP : va_P D vwCl (oA h0 3 [.null, .null, .null, .int 0, .int 0, .int 0, .int 0, .int 0, .int 0, .int 0, .int 0] :: (stW ty a1)) H := hPn
  have hD : va_D A (oA h0 3 [.null, .null, .null, .int 0, .int 0, .int 0, .int 0, .int 0, .int 0, .int 0, .int 0] :: (stW ty a1)) := hDn
  refine k_put (k := 0) (t := (.object "YieldLines$State")) (C := RX3) (T := TX3) (N := 11) X hin rfl hP hD hS (by decide) (mem_at (p := 174) (by decide +kernel)) rfl rfl (by decide +kernel) rfl rfl (Nat.le_of_ble_eq_true rfl) k25_12 (fun H locs hP hD hS => ?_)
  have hP : va_P D vwCl (oA h0 3 [.ref (a1 0), .null, .null, .int 0, .int 0, .int 0, .int 0, .int 0, .int 0, .int 0, .int 0] :: (stW ty a1)) H := hP
  have hD : va_D A (oA h0 3 [.ref (a1 0), .null, .null, .int 0, .int 0, .int 0, .int 0, .int 0, .int 0, .int 0, .int 0] :: (stW ty a1)) := hD
  refine lv_aload_n X.1 X.2.1 k25_15 rfl (lv_at hl 0 rfl) ?_
  refine lv_bipush (v := 69) X.1 X.2.1 k25_16 (by decide) ?_
  refine k_newI (n := 69) X hP hD hS hA rfl (by omega) (Nat.le_of_ble_eq_true rfl) (Nat.le_of_ble_eq_true rfl) k25_18 (fun q2 H hP hD hS => ?_)
  have hP : va_P D vwCl (oA h0 3 [.ref (a1 0), .null, .null, .int 0, .int 0, .int 0, .int 0, .int 0, .int 0, .int 0, .int 0] :: (stW ty a1 ++ [iA ty q2 69])) H := hP
  have hD : va_D A (oA h0 3 [.ref (a1 0), .null, .null, .int 0, .int 0, .int 0, .int 0, .int 0, .int 0, .int 0, .int 0] :: (stW ty a1 ++ [iA ty q2 69])) := hD
  refine k_put (k := 1) (t := (.array .int)) (C := RX3) (T := TX3) (N := 11) X hin rfl hP hD hS (by decide) (mem_at (p := 176) (by decide +kernel)) rfl rfl (by decide +kernel) rfl rfl (Nat.le_of_ble_eq_true rfl) k25_20 (fun H locs hP hD hS => ?_)
  have hP : va_P D vwCl (oA h0 3 [.ref (a1 0), .ref (q2), .null, .int 0, .int 0, .int 0, .int 0, .int 0, .int 0, .int 0, .int 0] :: (stW ty a1 ++ [iA ty q2 69])) H := hP
  have hD : va_D A (oA h0 3 [.ref (a1 0), .ref (q2), .null, .int 0, .int 0, .int 0, .int 0, .int 0, .int 0, .int 0, .int 0] :: (stW ty a1 ++ [iA ty q2 69])) := hD
  refine lv_aload_n X.1 X.2.1 k25_23 rfl (lv_at hl 0 rfl) ?_
  refine lv_bipush (v := 69) X.1 X.2.1 k25_24 (by decide) ?_
  refine k_newI (n := 69) X hP hD hS hA rfl (by omega) (Nat.le_of_ble_eq_true rfl) (Nat.le_of_ble_eq_true rfl) k25_26 (fun q3 H hP hD hS => ?_)
  have hP : va_P D vwCl (oA h0 3 [.ref (a1 0), .ref (q2), .null, .int 0, .int 0, .int 0, .int 0, .int 0, .int 0, .int 0, .int 0] :: (stW ty a1 ++ [iA ty q2 69] ++ [iA ty q3 69])) H := hP
  have hD : va_D A (oA h0 3 [.ref (a1 0), .ref (q2), .null, .int 0, .int 0, .int 0, .int 0, .int 0, .int 0, .int 0, .int 0] :: (stW ty a1 ++ [iA ty q2 69] ++ [iA ty q3 69])) := hD
  refine k_put (k := 2) (t := (.array .int)) (C := RX3) (T := TX3) (N := 11) X hin rfl hP hD hS (by decide) (mem_at (p := 177) (by decide +kernel)) rfl rfl (by decide +kernel) rfl rfl (Nat.le_of_ble_eq_true rfl) k25_28 (fun H locs hP hD hS => ?_)
  have hP : va_P D vwCl (oA h0 3 [.ref (a1 0), .ref (q2), .ref (q3), .int 0, .int 0, .int 0, .int 0, .int 0, .int 0, .int 0, .int 0] :: (stW ty a1 ++ [iA ty q2 69] ++ [iA ty q3 69])) H := hP
  have hD : va_D A (oA h0 3 [.ref (a1 0), .ref (q2), .ref (q3), .int 0, .int 0, .int 0, .int 0, .int 0, .int 0, .int 0, .int 0] :: (stW ty a1 ++ [iA ty q2 69] ++ [iA ty q3 69])) := hD
  have hP : va_P D vwCl (rdW ty (fun j => if j = 0 then h0 else if j < 12 then a1 (j - 1) else if j = 12 then q2 else q3)) H := hP
  have hD : va_D A (rdW ty (fun j => if j = 0 then h0 else if j < 12 then a1 (j - 1) else if j = 12 then q2 else q3)) := hD
  refine W.widen (k := 13) (n := 433) (Nat.le_of_ble_eq_true rfl) (Nat.le_of_ble_eq_true rfl) ?_
  exact k_ret X hr hlocks rfl hP hD hS k25_31
theorem k3_0 : decode cX1_init 0 = .ok (.aload_n 0, 1) := by decide +kernel
theorem k3_1 : decode cX1_init 1 = .ok (.invokespecial 3, 3) := by decide +kernel
theorem k3_4 : decode cX1_init 4 = .ok (.aload_n 0, 1) := by decide +kernel
theorem k3_5 : decode cX1_init 5 = .ok (.iconst 4, 1) := by decide +kernel
theorem k3_6 : decode cX1_init 6 = .ok (.newarray .int, 2) := by decide +kernel
theorem k3_8 : decode cX1_init 8 = .ok (.putfield 9, 3) := by decide +kernel
theorem k3_11 : decode cX1_init 11 = .ok (.aload_n 0, 1) := by decide +kernel
theorem k3_12 : decode cX1_init 12 = .ok (.bipush 60, 2) := by decide +kernel
theorem k3_14 : decode cX1_init 14 = .ok (.newarray .int, 2) := by decide +kernel
theorem k3_16 : decode cX1_init 16 = .ok (.putfield 15, 3) := by decide +kernel
theorem k3_19 : decode cX1_init 19 = .ok (.aload_n 0, 1) := by decide +kernel
theorem k3_20 : decode cX1_init 20 = .ok (.bipush 60, 2) := by decide +kernel
theorem k3_22 : decode cX1_init 22 = .ok (.newarray .int, 2) := by decide +kernel
theorem k3_24 : decode cX1_init 24 = .ok (.putfield 18, 3) := by decide +kernel
theorem k3_27 : decode cX1_init 27 = .ok (.aload_n 0, 1) := by decide +kernel
theorem k3_28 : decode cX1_init 28 = .ok (.bipush 60, 2) := by decide +kernel
theorem k3_30 : decode cX1_init 30 = .ok (.newarray .int, 2) := by decide +kernel
theorem k3_32 : decode cX1_init 32 = .ok (.putfield 21, 3) := by decide +kernel
theorem k3_35 : decode cX1_init 35 = .ok (.aload_n 0, 1) := by decide +kernel
theorem k3_36 : decode cX1_init 36 = .ok (.bipush 60, 2) := by decide +kernel
theorem k3_38 : decode cX1_init 38 = .ok (.newarray .int, 2) := by decide +kernel
theorem k3_40 : decode cX1_init 40 = .ok (.putfield 24, 3) := by decide +kernel
theorem k3_43 : decode cX1_init 43 = .ok (.aload_n 0, 1) := by decide +kernel
theorem k3_44 : decode cX1_init 44 = .ok (.aload_n 1, 1) := by decide +kernel
theorem k3_45 : decode cX1_init 45 = .ok (.putfield 27, 3) := by decide +kernel
theorem k3_48 : decode cX1_init 48 = .ok (.return_, 1) := by decide +kernel
theorem ok_3 : kOk yX1_init cX1_init 2 1 := ⟨mem_at (p := 233) (by decide +kernel), mem_at (p := 232) (by decide +kernel), mem_at (p := 87) (by decide +kernel), by decide +kernel, rfl⟩
set_option maxRecDepth 20000 in
set_option maxHeartbeats 4000000 in
theorem c_Machine (l : Launch) (x1 : Nat) : kMet l yX1_init cX1_init 2 { frames := 1, cells := 5, slots := 244, locals := 12 } [.ref x1] 1 [.null, .null, .null, .null, .null, .null, .int 0, .int 0, .int 0] (maW x1) := by
  refine kMet.of (by decide +kernel) rfl (fun q => Nat.le_of_ble_eq_true rfl) ?_
  intro p e s m args below meth c ty D h0 A ls X hin hr hlocks hA hP hD hS hl
  have hl : lv_has ls 2 [(0, .ref h0), (1, .ref x1)] := hl
  refine lv_aload_n X.1 X.2.1 k3_0 rfl (lv_at hl 0 rfl) ?_
  refine k_obj X (mem_at (p := 234) (by decide +kernel)) hl.1 (Nat.le_of_ble_eq_true rfl) (Nat.le_of_ble_eq_true rfl) k3_1 ?_
  have hP : va_P D vwCl (oA h0 1 [.null, .null, .null, .null, .null, .null, .int 0, .int 0, .int 0] :: (([] : va_W))) s.heap := hP
  have hD : va_D A (oA h0 1 [.null, .null, .null, .null, .null, .null, .int 0, .int 0, .int 0] :: (([] : va_W))) := hD
  refine lv_aload_n X.1 X.2.1 k3_4 rfl (lv_at hl 0 rfl) ?_
  refine lv_iconst (v := 4) X.1 X.2.1 k3_5 (by decide) ?_
  refine k_newI (n := 4) X hP hD hS hA rfl (by omega) (Nat.le_of_ble_eq_true rfl) (Nat.le_of_ble_eq_true rfl) k3_6 (fun q1 H hP hD hS => ?_)
  have hP : va_P D vwCl (oA h0 1 [.null, .null, .null, .null, .null, .null, .int 0, .int 0, .int 0] :: ([iA ty q1 4])) H := hP
  have hD : va_D A (oA h0 1 [.null, .null, .null, .null, .null, .null, .int 0, .int 0, .int 0] :: ([iA ty q1 4])) := hD
  refine k_put (k := 1) (t := (.array .int)) (C := RX1) (T := TX1) (N := 9) X hin rfl hP hD hS (by decide) (mem_at (p := 236) (by decide +kernel)) rfl rfl (by decide +kernel) rfl rfl (Nat.le_of_ble_eq_true rfl) k3_8 (fun H locs hP hD hS => ?_)
  have hP : va_P D vwCl (oA h0 1 [.null, .ref (q1), .null, .null, .null, .null, .int 0, .int 0, .int 0] :: ([iA ty q1 4])) H := hP
  have hD : va_D A (oA h0 1 [.null, .ref (q1), .null, .null, .null, .null, .int 0, .int 0, .int 0] :: ([iA ty q1 4])) := hD
  refine lv_aload_n X.1 X.2.1 k3_11 rfl (lv_at hl 0 rfl) ?_
  refine lv_bipush (v := 60) X.1 X.2.1 k3_12 (by decide) ?_
  refine k_newI (n := 60) X hP hD hS hA rfl (by omega) (Nat.le_of_ble_eq_true rfl) (Nat.le_of_ble_eq_true rfl) k3_14 (fun q2 H hP hD hS => ?_)
  have hP : va_P D vwCl (oA h0 1 [.null, .ref (q1), .null, .null, .null, .null, .int 0, .int 0, .int 0] :: ([iA ty q1 4] ++ [iA ty q2 60])) H := hP
  have hD : va_D A (oA h0 1 [.null, .ref (q1), .null, .null, .null, .null, .int 0, .int 0, .int 0] :: ([iA ty q1 4] ++ [iA ty q2 60])) := hD
  refine k_put (k := 2) (t := (.array .int)) (C := RX1) (T := TX1) (N := 9) X hin rfl hP hD hS (by decide) (mem_at (p := 237) (by decide +kernel)) rfl rfl (by decide +kernel) rfl rfl (Nat.le_of_ble_eq_true rfl) k3_16 (fun H locs hP hD hS => ?_)
  have hP : va_P D vwCl (oA h0 1 [.null, .ref (q1), .ref (q2), .null, .null, .null, .int 0, .int 0, .int 0] :: ([iA ty q1 4] ++ [iA ty q2 60])) H := hP
  have hD : va_D A (oA h0 1 [.null, .ref (q1), .ref (q2), .null, .null, .null, .int 0, .int 0, .int 0] :: ([iA ty q1 4] ++ [iA ty q2 60])) := hD
  refine lv_aload_n X.1 X.2.1 k3_19 rfl (lv_at hl 0 rfl) ?_
  refine lv_bipush (v := 60) X.1 X.2.1 k3_20 (by decide) ?_
  refine k_newI (n := 60) X hP hD hS hA rfl (by omega) (Nat.le_of_ble_eq_true rfl) (Nat.le_of_ble_eq_true rfl) k3_22 (fun q3 H hP hD hS => ?_)
  have hP : va_P D vwCl (oA h0 1 [.null, .ref (q1), .ref (q2), .null, .null, .null, .int 0, .int 0, .int 0] :: ([iA ty q1 4] ++ [iA ty q2 60] ++ [iA ty q3 60])) H := hP
  have hD : va_D A (oA h0 1 [.null, .ref (q1), .ref (q2), .null, .null, .null, .int 0, .int 0, .int 0] :: ([iA ty q1 4] ++ [iA ty q2 60] ++ [iA ty q3 60])) := hD
  refine k_put (k := 3) (t := (.array .int)) (C := RX1) (T := TX1) (N := 9) X hin rfl hP hD hS (by decide) (mem_at (p := 238) (by decide +kernel)) rfl rfl (by decide +kernel) rfl rfl (Nat.le_of_ble_eq_true rfl) k3_24 (fun H locs hP hD hS => ?_)
  have hP : va_P D vwCl (oA h0 1 [.null, .ref (q1), .ref (q2), .ref (q3), .null, .null, .int 0, .int 0, .int 0] :: ([iA ty q1 4] ++ [iA ty q2 60] ++ [iA ty q3 60])) H := hP
  have hD : va_D A (oA h0 1 [.null, .ref (q1), .ref (q2), .ref (q3), .null, .null, .int 0, .int 0, .int 0] :: ([iA ty q1 4] ++ [iA ty q2 60] ++ [iA ty q3 60])) := hD
  refine lv_aload_n X.1 X.2.1 k3_27 rfl (lv_at hl 0 rfl) ?_
  refine lv_bipush (v := 60) X.1 X.2.1 k3_28 (by decide) ?_
  refine k_newI (n := 60) X hP hD hS hA rfl (by omega) (Nat.le_of_ble_eq_true rfl) (Nat.le_of_ble_eq_true rfl) k3_30 (fun q4 H hP hD hS => ?_)
  have hP : va_P D vwCl (oA h0 1 [.null, .ref (q1), .ref (q2), .ref (q3), .null, .null, .int 0, .int 0, .int 0] :: ([iA ty q1 4] ++ [iA ty q2 60] ++ [iA ty q3 60] ++ [iA ty q4 60])) H := hP
  have hD : va_D A (oA h0 1 [.null, .ref (q1), .ref (q2), .ref (q3), .null, .null, .int 0, .int 0, .int 0] :: ([iA ty q1 4] ++ [iA ty q2 60] ++ [iA ty q3 60] ++ [iA ty q4 60])) := hD
  refine k_put (k := 4) (t := (.array .int)) (C := RX1) (T := TX1) (N := 9) X hin rfl hP hD hS (by decide) (mem_at (p := 239) (by decide +kernel)) rfl rfl (by decide +kernel) rfl rfl (Nat.le_of_ble_eq_true rfl) k3_32 (fun H locs hP hD hS => ?_)
  have hP : va_P D vwCl (oA h0 1 [.null, .ref (q1), .ref (q2), .ref (q3), .ref (q4), .null, .int 0, .int 0, .int 0] :: ([iA ty q1 4] ++ [iA ty q2 60] ++ [iA ty q3 60] ++ [iA ty q4 60])) H := hP
  have hD : va_D A (oA h0 1 [.null, .ref (q1), .ref (q2), .ref (q3), .ref (q4), .null, .int 0, .int 0, .int 0] :: ([iA ty q1 4] ++ [iA ty q2 60] ++ [iA ty q3 60] ++ [iA ty q4 60])) := hD
  refine lv_aload_n X.1 X.2.1 k3_35 rfl (lv_at hl 0 rfl) ?_
  refine lv_bipush (v := 60) X.1 X.2.1 k3_36 (by decide) ?_
  refine k_newI (n := 60) X hP hD hS hA rfl (by omega) (Nat.le_of_ble_eq_true rfl) (Nat.le_of_ble_eq_true rfl) k3_38 (fun q5 H hP hD hS => ?_)
  have hP : va_P D vwCl (oA h0 1 [.null, .ref (q1), .ref (q2), .ref (q3), .ref (q4), .null, .int 0, .int 0, .int 0] :: ([iA ty q1 4] ++ [iA ty q2 60] ++ [iA ty q3 60] ++ [iA ty q4 60] ++ [iA ty q5 60])) H := hP
  have hD : va_D A (oA h0 1 [.null, .ref (q1), .ref (q2), .ref (q3), .ref (q4), .null, .int 0, .int 0, .int 0] :: ([iA ty q1 4] ++ [iA ty q2 60] ++ [iA ty q3 60] ++ [iA ty q4 60] ++ [iA ty q5 60])) := hD
  refine k_put (k := 5) (t := (.array .int)) (C := RX1) (T := TX1) (N := 9) X hin rfl hP hD hS (by decide) (mem_at (p := 240) (by decide +kernel)) rfl rfl (by decide +kernel) rfl rfl (Nat.le_of_ble_eq_true rfl) k3_40 (fun H locs hP hD hS => ?_)
  have hP : va_P D vwCl (oA h0 1 [.null, .ref (q1), .ref (q2), .ref (q3), .ref (q4), .ref (q5), .int 0, .int 0, .int 0] :: ([iA ty q1 4] ++ [iA ty q2 60] ++ [iA ty q3 60] ++ [iA ty q4 60] ++ [iA ty q5 60])) H := hP
  have hD : va_D A (oA h0 1 [.null, .ref (q1), .ref (q2), .ref (q3), .ref (q4), .ref (q5), .int 0, .int 0, .int 0] :: ([iA ty q1 4] ++ [iA ty q2 60] ++ [iA ty q3 60] ++ [iA ty q4 60] ++ [iA ty q5 60])) := hD
  refine lv_aload_n X.1 X.2.1 k3_43 rfl (lv_at hl 0 rfl) ?_
  refine lv_aload_n X.1 X.2.1 k3_44 rfl (lv_at hl 1 rfl) ?_
  refine k_put (k := 0) (t := (.object "YieldLines$State")) (C := RX1) (T := TX1) (N := 9) X hin rfl hP hD hS (by decide) (mem_at (p := 235) (by decide +kernel)) rfl rfl (by decide +kernel) rfl rfl (Nat.le_of_ble_eq_true rfl) k3_45 (fun H locs hP hD hS => ?_)
  have hP : va_P D vwCl (oA h0 1 [.ref (x1), .ref (q1), .ref (q2), .ref (q3), .ref (q4), .ref (q5), .int 0, .int 0, .int 0] :: ([iA ty q1 4] ++ [iA ty q2 60] ++ [iA ty q3 60] ++ [iA ty q4 60] ++ [iA ty q5 60])) H := hP
  have hD : va_D A (oA h0 1 [.ref (x1), .ref (q1), .ref (q2), .ref (q3), .ref (q4), .ref (q5), .int 0, .int 0, .int 0] :: ([iA ty q1 4] ++ [iA ty q2 60] ++ [iA ty q3 60] ++ [iA ty q4 60] ++ [iA ty q5 60])) := hD
  have hP : va_P D vwCl (maW x1 ty (fun j => if j = 0 then h0 else if j = 1 then q1 else if j = 2 then q2 else if j = 3 then q3 else if j = 4 then q4 else q5)) H := hP
  have hD : va_D A (maW x1 ty (fun j => if j = 0 then h0 else if j = 1 then q1 else if j = 2 then q2 else if j = 3 then q3 else if j = 4 then q4 else q5)) := hD
  refine W.widen (k := 5) (n := 244) (Nat.le_of_ble_eq_true rfl) (Nat.le_of_ble_eq_true rfl) ?_
  exact k_ret X hr hlocks rfl hP hD hS k3_48
theorem k19_0 : decode cX2_init 0 = .ok (.aload_n 0, 1) := by decide +kernel
theorem k19_1 : decode cX2_init 1 = .ok (.invokespecial 3, 3) := by decide +kernel
theorem k19_4 : decode cX2_init 4 = .ok (.aload_n 0, 1) := by decide +kernel
theorem k19_5 : decode cX2_init 5 = .ok (.sipush 240, 3) := by decide +kernel
theorem k19_8 : decode cX2_init 8 = .ok (.newarray .int, 2) := by decide +kernel
theorem k19_10 : decode cX2_init 10 = .ok (.putfield 9, 3) := by decide +kernel
theorem k19_13 : decode cX2_init 13 = .ok (.aload_n 0, 1) := by decide +kernel
theorem k19_14 : decode cX2_init 14 = .ok (.bipush 8, 2) := by decide +kernel
theorem k19_16 : decode cX2_init 16 = .ok (.newarray .int, 2) := by decide +kernel
theorem k19_18 : decode cX2_init 18 = .ok (.putfield 15, 3) := by decide +kernel
theorem k19_21 : decode cX2_init 21 = .ok (.aload_n 0, 1) := by decide +kernel
theorem k19_22 : decode cX2_init 22 = .ok (.bipush 8, 2) := by decide +kernel
theorem k19_24 : decode cX2_init 24 = .ok (.newarray .int, 2) := by decide +kernel
theorem k19_26 : decode cX2_init 26 = .ok (.putfield 18, 3) := by decide +kernel
theorem k19_29 : decode cX2_init 29 = .ok (.aload_n 0, 1) := by decide +kernel
theorem k19_30 : decode cX2_init 30 = .ok (.bipush 8, 2) := by decide +kernel
theorem k19_32 : decode cX2_init 32 = .ok (.newarray .int, 2) := by decide +kernel
theorem k19_34 : decode cX2_init 34 = .ok (.putfield 21, 3) := by decide +kernel
theorem k19_37 : decode cX2_init 37 = .ok (.aload_n 0, 1) := by decide +kernel
theorem k19_38 : decode cX2_init 38 = .ok (.bipush 8, 2) := by decide +kernel
theorem k19_40 : decode cX2_init 40 = .ok (.newarray .int, 2) := by decide +kernel
theorem k19_42 : decode cX2_init 42 = .ok (.putfield 24, 3) := by decide +kernel
theorem k19_45 : decode cX2_init 45 = .ok (.aload_n 0, 1) := by decide +kernel
theorem k19_46 : decode cX2_init 46 = .ok (.iconst 4, 1) := by decide +kernel
theorem k19_47 : decode cX2_init 47 = .ok (.newarray .int, 2) := by decide +kernel
theorem k19_49 : decode cX2_init 49 = .ok (.putfield 27, 3) := by decide +kernel
theorem k19_52 : decode cX2_init 52 = .ok (.return_, 1) := by decide +kernel
theorem ok_19 : kOk yX2_init cX2_init 1 0 := ⟨mem_at (p := 271) (by decide +kernel), mem_at (p := 270) (by decide +kernel), mem_at (p := 88) (by decide +kernel), by decide +kernel, rfl⟩
set_option maxRecDepth 20000 in
set_option maxHeartbeats 4000000 in
theorem c_Outcome (l : Launch) : kMet l yX2_init cX2_init 1 { frames := 1, cells := 6, slots := 276, locals := 12 } [] 2 [.int 0, .null, .int 0, .null, .null, .null, .null, .null] ouW := by
  refine kMet.of (by decide +kernel) rfl (fun q => Nat.le_of_ble_eq_true rfl) ?_
  intro p e s m args below meth c ty D h0 A ls X hin hr hlocks hA hP hD hS hl
  have hl : lv_has ls 1 [(0, .ref h0)] := hl
  refine lv_aload_n X.1 X.2.1 k19_0 rfl (lv_at hl 0 rfl) ?_
  refine k_obj X (mem_at (p := 272) (by decide +kernel)) hl.1 (Nat.le_of_ble_eq_true rfl) (Nat.le_of_ble_eq_true rfl) k19_1 ?_
  have hP : va_P D vwCl (oA h0 2 [.int 0, .null, .int 0, .null, .null, .null, .null, .null] :: (([] : va_W))) s.heap := hP
  have hD : va_D A (oA h0 2 [.int 0, .null, .int 0, .null, .null, .null, .null, .null] :: (([] : va_W))) := hD
  refine lv_aload_n X.1 X.2.1 k19_4 rfl (lv_at hl 0 rfl) ?_
  refine lv_sipush (v := 240) X.1 X.2.1 k19_5 (by decide) ?_
  refine k_newI (n := 240) X hP hD hS hA rfl (by omega) (Nat.le_of_ble_eq_true rfl) (Nat.le_of_ble_eq_true rfl) k19_8 (fun q1 H hP hD hS => ?_)
  have hP : va_P D vwCl (oA h0 2 [.int 0, .null, .int 0, .null, .null, .null, .null, .null] :: ([iA ty q1 240])) H := hP
  have hD : va_D A (oA h0 2 [.int 0, .null, .int 0, .null, .null, .null, .null, .null] :: ([iA ty q1 240])) := hD
  refine k_put (k := 1) (t := (.array .int)) (C := RX2) (T := TX2) (N := 8) X hin rfl hP hD hS (by decide) (mem_at (p := 275) (by decide +kernel)) rfl rfl (by decide +kernel) rfl rfl (Nat.le_of_ble_eq_true rfl) k19_10 (fun H locs hP hD hS => ?_)
  have hP : va_P D vwCl (oA h0 2 [.int 0, .ref (q1), .int 0, .null, .null, .null, .null, .null] :: ([iA ty q1 240])) H := hP
  have hD : va_D A (oA h0 2 [.int 0, .ref (q1), .int 0, .null, .null, .null, .null, .null] :: ([iA ty q1 240])) := hD
  refine lv_aload_n X.1 X.2.1 k19_13 rfl (lv_at hl 0 rfl) ?_
  refine lv_bipush (v := 8) X.1 X.2.1 k19_14 (by decide) ?_
  refine k_newI (n := 8) X hP hD hS hA rfl (by omega) (Nat.le_of_ble_eq_true rfl) (Nat.le_of_ble_eq_true rfl) k19_16 (fun q2 H hP hD hS => ?_)
  have hP : va_P D vwCl (oA h0 2 [.int 0, .ref (q1), .int 0, .null, .null, .null, .null, .null] :: ([iA ty q1 240] ++ [iA ty q2 8])) H := hP
  have hD : va_D A (oA h0 2 [.int 0, .ref (q1), .int 0, .null, .null, .null, .null, .null] :: ([iA ty q1 240] ++ [iA ty q2 8])) := hD
  refine k_put (k := 3) (t := (.array .int)) (C := RX2) (T := TX2) (N := 8) X hin rfl hP hD hS (by decide) (mem_at (p := 278) (by decide +kernel)) rfl rfl (by decide +kernel) rfl rfl (Nat.le_of_ble_eq_true rfl) k19_18 (fun H locs hP hD hS => ?_)
  have hP : va_P D vwCl (oA h0 2 [.int 0, .ref (q1), .int 0, .ref (q2), .null, .null, .null, .null] :: ([iA ty q1 240] ++ [iA ty q2 8])) H := hP
  have hD : va_D A (oA h0 2 [.int 0, .ref (q1), .int 0, .ref (q2), .null, .null, .null, .null] :: ([iA ty q1 240] ++ [iA ty q2 8])) := hD
  refine lv_aload_n X.1 X.2.1 k19_21 rfl (lv_at hl 0 rfl) ?_
  refine lv_bipush (v := 8) X.1 X.2.1 k19_22 (by decide) ?_
  refine k_newI (n := 8) X hP hD hS hA rfl (by omega) (Nat.le_of_ble_eq_true rfl) (Nat.le_of_ble_eq_true rfl) k19_24 (fun q3 H hP hD hS => ?_)
  have hP : va_P D vwCl (oA h0 2 [.int 0, .ref (q1), .int 0, .ref (q2), .null, .null, .null, .null] :: ([iA ty q1 240] ++ [iA ty q2 8] ++ [iA ty q3 8])) H := hP
  have hD : va_D A (oA h0 2 [.int 0, .ref (q1), .int 0, .ref (q2), .null, .null, .null, .null] :: ([iA ty q1 240] ++ [iA ty q2 8] ++ [iA ty q3 8])) := hD
  refine k_put (k := 4) (t := (.array .int)) (C := RX2) (T := TX2) (N := 8) X hin rfl hP hD hS (by decide) (mem_at (p := 280) (by decide +kernel)) rfl rfl (by decide +kernel) rfl rfl (Nat.le_of_ble_eq_true rfl) k19_26 (fun H locs hP hD hS => ?_)
  have hP : va_P D vwCl (oA h0 2 [.int 0, .ref (q1), .int 0, .ref (q2), .ref (q3), .null, .null, .null] :: ([iA ty q1 240] ++ [iA ty q2 8] ++ [iA ty q3 8])) H := hP
  have hD : va_D A (oA h0 2 [.int 0, .ref (q1), .int 0, .ref (q2), .ref (q3), .null, .null, .null] :: ([iA ty q1 240] ++ [iA ty q2 8] ++ [iA ty q3 8])) := hD
  refine lv_aload_n X.1 X.2.1 k19_29 rfl (lv_at hl 0 rfl) ?_
  refine lv_bipush (v := 8) X.1 X.2.1 k19_30 (by decide) ?_
  refine k_newI (n := 8) X hP hD hS hA rfl (by omega) (Nat.le_of_ble_eq_true rfl) (Nat.le_of_ble_eq_true rfl) k19_32 (fun q4 H hP hD hS => ?_)
  have hP : va_P D vwCl (oA h0 2 [.int 0, .ref (q1), .int 0, .ref (q2), .ref (q3), .null, .null, .null] :: ([iA ty q1 240] ++ [iA ty q2 8] ++ [iA ty q3 8] ++ [iA ty q4 8])) H := hP
  have hD : va_D A (oA h0 2 [.int 0, .ref (q1), .int 0, .ref (q2), .ref (q3), .null, .null, .null] :: ([iA ty q1 240] ++ [iA ty q2 8] ++ [iA ty q3 8] ++ [iA ty q4 8])) := hD
  refine k_put (k := 5) (t := (.array .int)) (C := RX2) (T := TX2) (N := 8) X hin rfl hP hD hS (by decide) (mem_at (p := 282) (by decide +kernel)) rfl rfl (by decide +kernel) rfl rfl (Nat.le_of_ble_eq_true rfl) k19_34 (fun H locs hP hD hS => ?_)
  have hP : va_P D vwCl (oA h0 2 [.int 0, .ref (q1), .int 0, .ref (q2), .ref (q3), .ref (q4), .null, .null] :: ([iA ty q1 240] ++ [iA ty q2 8] ++ [iA ty q3 8] ++ [iA ty q4 8])) H := hP
  have hD : va_D A (oA h0 2 [.int 0, .ref (q1), .int 0, .ref (q2), .ref (q3), .ref (q4), .null, .null] :: ([iA ty q1 240] ++ [iA ty q2 8] ++ [iA ty q3 8] ++ [iA ty q4 8])) := hD
  refine lv_aload_n X.1 X.2.1 k19_37 rfl (lv_at hl 0 rfl) ?_
  refine lv_bipush (v := 8) X.1 X.2.1 k19_38 (by decide) ?_
  refine k_newI (n := 8) X hP hD hS hA rfl (by omega) (Nat.le_of_ble_eq_true rfl) (Nat.le_of_ble_eq_true rfl) k19_40 (fun q5 H hP hD hS => ?_)
  have hP : va_P D vwCl (oA h0 2 [.int 0, .ref (q1), .int 0, .ref (q2), .ref (q3), .ref (q4), .null, .null] :: ([iA ty q1 240] ++ [iA ty q2 8] ++ [iA ty q3 8] ++ [iA ty q4 8] ++ [iA ty q5 8])) H := hP
  have hD : va_D A (oA h0 2 [.int 0, .ref (q1), .int 0, .ref (q2), .ref (q3), .ref (q4), .null, .null] :: ([iA ty q1 240] ++ [iA ty q2 8] ++ [iA ty q3 8] ++ [iA ty q4 8] ++ [iA ty q5 8])) := hD
  refine k_put (k := 6) (t := (.array .int)) (C := RX2) (T := TX2) (N := 8) X hin rfl hP hD hS (by decide) (mem_at (p := 284) (by decide +kernel)) rfl rfl (by decide +kernel) rfl rfl (Nat.le_of_ble_eq_true rfl) k19_42 (fun H locs hP hD hS => ?_)
  have hP : va_P D vwCl (oA h0 2 [.int 0, .ref (q1), .int 0, .ref (q2), .ref (q3), .ref (q4), .ref (q5), .null] :: ([iA ty q1 240] ++ [iA ty q2 8] ++ [iA ty q3 8] ++ [iA ty q4 8] ++ [iA ty q5 8])) H := hP
  have hD : va_D A (oA h0 2 [.int 0, .ref (q1), .int 0, .ref (q2), .ref (q3), .ref (q4), .ref (q5), .null] :: ([iA ty q1 240] ++ [iA ty q2 8] ++ [iA ty q3 8] ++ [iA ty q4 8] ++ [iA ty q5 8])) := hD
  refine lv_aload_n X.1 X.2.1 k19_45 rfl (lv_at hl 0 rfl) ?_
  refine lv_iconst (v := 4) X.1 X.2.1 k19_46 (by decide) ?_
  refine k_newI (n := 4) X hP hD hS hA rfl (by omega) (Nat.le_of_ble_eq_true rfl) (Nat.le_of_ble_eq_true rfl) k19_47 (fun q6 H hP hD hS => ?_)
  have hP : va_P D vwCl (oA h0 2 [.int 0, .ref (q1), .int 0, .ref (q2), .ref (q3), .ref (q4), .ref (q5), .null] :: ([iA ty q1 240] ++ [iA ty q2 8] ++ [iA ty q3 8] ++ [iA ty q4 8] ++ [iA ty q5 8] ++ [iA ty q6 4])) H := hP
  have hD : va_D A (oA h0 2 [.int 0, .ref (q1), .int 0, .ref (q2), .ref (q3), .ref (q4), .ref (q5), .null] :: ([iA ty q1 240] ++ [iA ty q2 8] ++ [iA ty q3 8] ++ [iA ty q4 8] ++ [iA ty q5 8] ++ [iA ty q6 4])) := hD
  refine k_put (k := 7) (t := (.array .int)) (C := RX2) (T := TX2) (N := 8) X hin rfl hP hD hS (by decide) (mem_at (p := 286) (by decide +kernel)) rfl rfl (by decide +kernel) rfl rfl (Nat.le_of_ble_eq_true rfl) k19_49 (fun H locs hP hD hS => ?_)
  have hP : va_P D vwCl (oA h0 2 [.int 0, .ref (q1), .int 0, .ref (q2), .ref (q3), .ref (q4), .ref (q5), .ref (q6)] :: ([iA ty q1 240] ++ [iA ty q2 8] ++ [iA ty q3 8] ++ [iA ty q4 8] ++ [iA ty q5 8] ++ [iA ty q6 4])) H := hP
  have hD : va_D A (oA h0 2 [.int 0, .ref (q1), .int 0, .ref (q2), .ref (q3), .ref (q4), .ref (q5), .ref (q6)] :: ([iA ty q1 240] ++ [iA ty q2 8] ++ [iA ty q3 8] ++ [iA ty q4 8] ++ [iA ty q5 8] ++ [iA ty q6 4])) := hD
  have hP : va_P D vwCl (ouW ty (fun j => if j = 0 then h0 else if j = 1 then q1 else if j = 2 then q2 else if j = 3 then q3 else if j = 4 then q4 else if j = 5 then q5 else q6)) H := hP
  have hD : va_D A (ouW ty (fun j => if j = 0 then h0 else if j = 1 then q1 else if j = 2 then q2 else if j = 3 then q3 else if j = 4 then q4 else if j = 5 then q5 else q6)) := hD
  refine W.widen (k := 6) (n := 276) (Nat.le_of_ble_eq_true rfl) (Nat.le_of_ble_eq_true rfl) ?_
  exact k_ret X hr hlocks rfl hP hD hS k19_52
theorem k0_0 : decode cX0_init 0 = .ok (.aload_n 0, 1) := by decide +kernel
theorem k0_1 : decode cX0_init 1 = .ok (.invokespecial 3, 3) := by decide +kernel
theorem k0_4 : decode cX0_init 4 = .ok (.aload_n 0, 1) := by decide +kernel
theorem k0_5 : decode cX0_init 5 = .ok (.iconst 5, 1) := by decide +kernel
theorem k0_6 : decode cX0_init 6 = .ok (.anewarray 9, 3) := by decide +kernel
theorem k0_9 : decode cX0_init 9 = .ok (.putfield 11, 3) := by decide +kernel
theorem k0_12 : decode cX0_init 12 = .ok (.iconst 0, 1) := by decide +kernel
theorem k0_13 : decode cX0_init 13 = .ok (.istore_n 1, 1) := by decide +kernel
theorem k0_14 : decode cX0_init 14 = .ok (.iload_n 1, 1) := by decide +kernel
theorem k0_15 : decode cX0_init 15 = .ok (.iconst 5, 1) := by decide +kernel
theorem k0_16 : decode cX0_init 16 = .ok (.if_icmp .ge 22, 3) := by decide +kernel
theorem k0_19 : decode cX0_init 19 = .ok (.aload_n 0, 1) := by decide +kernel
theorem k0_20 : decode cX0_init 20 = .ok (.getfield 11, 3) := by decide +kernel
theorem k0_23 : decode cX0_init 23 = .ok (.iload_n 1, 1) := by decide +kernel
theorem k0_24 : decode cX0_init 24 = .ok (.new 9, 3) := by decide +kernel
theorem k0_27 : decode cX0_init 27 = .ok (.dup, 1) := by decide +kernel
theorem k0_28 : decode cX0_init 28 = .ok (.invokespecial 17, 3) := by decide +kernel
theorem k0_31 : decode cX0_init 31 = .ok (.aastore, 1) := by decide +kernel
theorem k0_32 : decode cX0_init 32 = .ok (.iinc 1 1, 3) := by decide +kernel
theorem k0_35 : decode cX0_init 35 = .ok (.goto (-21), 3) := by decide +kernel
theorem k0_38 : decode cX0_init 38 = .ok (.return_, 1) := by decide +kernel
theorem ok_0 : kOk yX0_init cX0_init 2 0 := ⟨mem_at (p := 213) (by decide +kernel), mem_at (p := 212) (by decide +kernel), mem_at (p := 86) (by decide +kernel), by decide +kernel, rfl⟩
set_option maxRecDepth 20000 in
set_option maxHeartbeats 4000000 in
theorem c_History (l : Launch) : kMet l yX0_init cX0_init 2 { frames := 2, cells := 56, slots := 1480, locals := 32 } [] 0 [.null, .int 0, .int 0] (fun ty ad => hiW ty (hiR ad) ad) := by
  refine kMet.of (by decide +kernel) rfl (fun q => Nat.le_of_ble_eq_true rfl) ?_
  intro p e s m args below meth c ty D h0 A ls X hin hr hlocks hA hP hD hS hl
  have hl : lv_has ls 2 [(0, .ref h0)] := hl
  refine lv_aload_n X.1 X.2.1 k0_0 rfl (lv_at hl 0 rfl) ?_
  refine k_obj X (mem_at (p := 214) (by decide +kernel)) hl.1 (Nat.le_of_ble_eq_true rfl) (Nat.le_of_ble_eq_true rfl) k0_1 ?_
  have hP : va_P D vwCl (oA h0 0 [.null, .int 0, .int 0] :: (([] : va_W))) s.heap := hP
  have hD : va_D A (oA h0 0 [.null, .int 0, .int 0] :: (([] : va_W))) := hD
  refine lv_aload_n X.1 X.2.1 k0_4 rfl (lv_at hl 0 rfl) ?_
  refine lv_iconst (v := 5) X.1 X.2.1 k0_5 (by decide) ?_
  refine k_newQ (n := 5) X hP hD hS hA rfl (by omega) (Nat.le_of_ble_eq_true rfl) (Nat.le_of_ble_eq_true rfl) (mem_at (p := 215) (by decide +kernel)) k0_6 (fun qr H hP hD hS => ?_)
  have hP : va_P D vwCl (oA h0 0 [.null, .int 0, .int 0] :: (qA ty qr 5 (fun _ => none) :: (([] : va_W)))) H := hP
  have hD : va_D A (oA h0 0 [.null, .int 0, .int 0] :: (qA ty qr 5 (fun _ => none) :: (([] : va_W)))) := hD
  refine k_put (k := 0) (t := (.array (.object "YieldLines$State"))) (C := RX0) (T := TX0) (N := 3) X hin rfl hP hD hS (by decide) (mem_at (p := 218) (by decide +kernel)) rfl rfl (by decide +kernel) rfl rfl (Nat.le_of_ble_eq_true rfl) k0_9 (fun H locs hP hD hS => ?_)
  have hP : va_P D vwCl (oA h0 0 [.ref (qr), .int 0, .int 0] :: (qA ty qr 5 (fun _ => none) :: (([] : va_W)))) H := hP
  have hD : va_D A (oA h0 0 [.ref (qr), .int 0, .int 0] :: (qA ty qr 5 (fun _ => none) :: (([] : va_W)))) := hD
  refine lv_iconst (v := 0) X.1 X.2.1 k0_12 (by decide) ?_
  refine lv_istore_n (lv' := [(1, .int 0), (0, .ref h0)]) X.1 X.2.1 k0_13 rfl hl (by decide) rfl (fun ls hl => ?_)
  refine lv_iload_n X.1 X.2.1 k0_14 rfl (lv_at hl 0 rfl) ?_
  refine lv_iconst (v := 5) X.1 X.2.1 k0_15 (by decide) ?_
  refine lv_icmp_ge (tgt := 38) X.1 X.2.1 k0_16 (by decide) (fun z => absurd z (by decide)) (fun _ => ?_)
  refine lv_aload_n X.1 X.2.1 k0_19 rfl (lv_at hl 1 rfl) ?_
  refine k_get (k := 0) (C := RX0) (T := TX0) (N := 3) X rfl hP (by decide) (mem_at (p := 218) (by decide +kernel)) rfl k0_20 ?_
  refine lv_iload_n X.1 X.2.1 k0_23 rfl (lv_at hl 0 rfl) ?_
  refine k_new (ci := 4) (C := RX4) (T := TX4) (N := 11) (fs := [.null, .null, .null, .null, .null, .null, .null, .null, .null, .null, .int 0]) tyX4 X rfl tyX4_ok (mem_at (p := 215) (by decide +kernel)) (mem_at (p := 101) (by decide +kernel)) (mem_at (p := 84) (by decide +kernel)) hP hD hS hA (fun j hj => by rcases (show j = 0 ∨ j = 1 ∨ j = 2 ∨ j = 3 ∨ j = 4 ∨ j = 5 ∨ j = 6 ∨ j = 7 ∨ j = 8 ∨ j = 9 ∨ j = 10 by omega) with rfl | rfl | rfl | rfl | rfl | rfl | rfl | rfl | rfl | rfl | rfl <;> rfl) (Nat.le_of_ble_eq_true rfl) (Nat.le_of_ble_eq_true rfl) k0_24 (fun q0 H hP hD hS => ?_)
  refine lv_dup X.1 X.2.1 k0_27 rfl ?_
  refine k_callN (ho := "YieldLines") (vs := []) X (c_State l) ok_47 (mem_at (p := 217) (by decide +kernel)) hP hD hS hA rfl ⟨Nat.le_of_ble_eq_true rfl, Nat.le_of_ble_eq_true rfl⟩ hl.1 (Nat.le_of_ble_eq_true rfl) ⟨Nat.le_of_ble_eq_true rfl, Nat.le_of_ble_eq_true rfl⟩ k0_28 (fun a0 H locs had hPn hDn hS => ?_)
  subst had
  have hP : va_P D vwCl (oA h0 0 [.ref (qr), .int 0, .int 0] :: (qA ty qr 5 (fun _ => none) :: (stW ty a0))) H := hPn
  have hD : va_D A (oA h0 0 [.ref (qr), .int 0, .int 0] :: (qA ty qr 5 (fun _ => none) :: (stW ty a0))) := hDn
  refine va_astq X.1 X.2.1 X.2.2.2.2.2.2.1 hP hD hS 1 2 2 4 rfl rfl rfl rfl (r := (RX4, TX4, 11)) (vp_in_nI (n := 0) (by omega) (by decide)) k0_31 (fun H locs hP hD hS => ?_)
  have hP : va_P D vwCl (oA h0 0 [.ref (qr), .int 0, .int 0] :: (qA ty qr 5 (va_up (fun _ => none) 0 (some (a0 0))) :: (stW ty a0))) H := hP
  have hD : va_D A (oA h0 0 [.ref (qr), .int 0, .int 0] :: (qA ty qr 5 (va_up (fun _ => none) 0 (some (a0 0))) :: (stW ty a0))) := hD
  refine lv_iinc (v := 1) (lv' := [(1, .int 1), (0, .ref h0)]) X.1 X.2.1 k0_32 hl (k := 0) rfl (by decide) (by decide) rfl (fun ls hl => ?_)
  refine lv_goto (tgt := 14) X.1 X.2.1 k0_35 (by decide) ?_
  refine lv_iload_n X.1 X.2.1 k0_14 rfl (lv_at hl 0 rfl) ?_
  refine lv_iconst (v := 5) X.1 X.2.1 k0_15 (by decide) ?_
  refine lv_icmp_ge (tgt := 38) X.1 X.2.1 k0_16 (by decide) (fun z => absurd z (by decide)) (fun _ => ?_)
  refine lv_aload_n X.1 X.2.1 k0_19 rfl (lv_at hl 1 rfl) ?_
  refine k_get (k := 0) (C := RX0) (T := TX0) (N := 3) X rfl hP (by decide) (mem_at (p := 218) (by decide +kernel)) rfl k0_20 ?_
  refine lv_iload_n X.1 X.2.1 k0_23 rfl (lv_at hl 0 rfl) ?_
  refine k_new (ci := 4) (C := RX4) (T := TX4) (N := 11) (fs := [.null, .null, .null, .null, .null, .null, .null, .null, .null, .null, .int 0]) tyX4 X rfl tyX4_ok (mem_at (p := 215) (by decide +kernel)) (mem_at (p := 101) (by decide +kernel)) (mem_at (p := 84) (by decide +kernel)) hP hD hS hA (fun j hj => by rcases (show j = 0 ∨ j = 1 ∨ j = 2 ∨ j = 3 ∨ j = 4 ∨ j = 5 ∨ j = 6 ∨ j = 7 ∨ j = 8 ∨ j = 9 ∨ j = 10 by omega) with rfl | rfl | rfl | rfl | rfl | rfl | rfl | rfl | rfl | rfl | rfl <;> rfl) (Nat.le_of_ble_eq_true rfl) (Nat.le_of_ble_eq_true rfl) k0_24 (fun q1 H hP hD hS => ?_)
  refine lv_dup X.1 X.2.1 k0_27 rfl ?_
  refine k_callN (ho := "YieldLines") (vs := []) X (c_State l) ok_47 (mem_at (p := 217) (by decide +kernel)) hP hD hS hA rfl ⟨Nat.le_of_ble_eq_true rfl, Nat.le_of_ble_eq_true rfl⟩ hl.1 (Nat.le_of_ble_eq_true rfl) ⟨Nat.le_of_ble_eq_true rfl, Nat.le_of_ble_eq_true rfl⟩ k0_28 (fun a1 H locs had hPn hDn hS => ?_)
  subst had
  have hP : va_P D vwCl (oA h0 0 [.ref (qr), .int 0, .int 0] :: (qA ty qr 5 (va_up (fun _ => none) 0 (some (a0 0))) :: (stW ty a0 ++ stW ty a1))) H := hPn
  have hD : va_D A (oA h0 0 [.ref (qr), .int 0, .int 0] :: (qA ty qr 5 (va_up (fun _ => none) 0 (some (a0 0))) :: (stW ty a0 ++ stW ty a1))) := hDn
  refine va_astq X.1 X.2.1 X.2.2.2.2.2.2.1 hP hD hS 1 2 13 4 rfl rfl rfl rfl (r := (RX4, TX4, 11)) (vp_in_nI (n := 1) (by omega) (by decide)) k0_31 (fun H locs hP hD hS => ?_)
  have hP : va_P D vwCl (oA h0 0 [.ref (qr), .int 0, .int 0] :: (qA ty qr 5 (va_up (va_up (fun _ => none) 0 (some (a0 0))) 1 (some (a1 0))) :: (stW ty a0 ++ stW ty a1))) H := hP
  have hD : va_D A (oA h0 0 [.ref (qr), .int 0, .int 0] :: (qA ty qr 5 (va_up (va_up (fun _ => none) 0 (some (a0 0))) 1 (some (a1 0))) :: (stW ty a0 ++ stW ty a1))) := hD
  refine lv_iinc (v := 2) (lv' := [(1, .int 2), (0, .ref h0)]) X.1 X.2.1 k0_32 hl (k := 0) rfl (by decide) (by decide) rfl (fun ls hl => ?_)
  refine lv_goto (tgt := 14) X.1 X.2.1 k0_35 (by decide) ?_
  refine lv_iload_n X.1 X.2.1 k0_14 rfl (lv_at hl 0 rfl) ?_
  refine lv_iconst (v := 5) X.1 X.2.1 k0_15 (by decide) ?_
  refine lv_icmp_ge (tgt := 38) X.1 X.2.1 k0_16 (by decide) (fun z => absurd z (by decide)) (fun _ => ?_)
  refine lv_aload_n X.1 X.2.1 k0_19 rfl (lv_at hl 1 rfl) ?_
  refine k_get (k := 0) (C := RX0) (T := TX0) (N := 3) X rfl hP (by decide) (mem_at (p := 218) (by decide +kernel)) rfl k0_20 ?_
  refine lv_iload_n X.1 X.2.1 k0_23 rfl (lv_at hl 0 rfl) ?_
  refine k_new (ci := 4) (C := RX4) (T := TX4) (N := 11) (fs := [.null, .null, .null, .null, .null, .null, .null, .null, .null, .null, .int 0]) tyX4 X rfl tyX4_ok (mem_at (p := 215) (by decide +kernel)) (mem_at (p := 101) (by decide +kernel)) (mem_at (p := 84) (by decide +kernel)) hP hD hS hA (fun j hj => by rcases (show j = 0 ∨ j = 1 ∨ j = 2 ∨ j = 3 ∨ j = 4 ∨ j = 5 ∨ j = 6 ∨ j = 7 ∨ j = 8 ∨ j = 9 ∨ j = 10 by omega) with rfl | rfl | rfl | rfl | rfl | rfl | rfl | rfl | rfl | rfl | rfl <;> rfl) (Nat.le_of_ble_eq_true rfl) (Nat.le_of_ble_eq_true rfl) k0_24 (fun q2 H hP hD hS => ?_)
  refine lv_dup X.1 X.2.1 k0_27 rfl ?_
  refine k_callN (ho := "YieldLines") (vs := []) X (c_State l) ok_47 (mem_at (p := 217) (by decide +kernel)) hP hD hS hA rfl ⟨Nat.le_of_ble_eq_true rfl, Nat.le_of_ble_eq_true rfl⟩ hl.1 (Nat.le_of_ble_eq_true rfl) ⟨Nat.le_of_ble_eq_true rfl, Nat.le_of_ble_eq_true rfl⟩ k0_28 (fun a2 H locs had hPn hDn hS => ?_)
  subst had
  have hP : va_P D vwCl (oA h0 0 [.ref (qr), .int 0, .int 0] :: (qA ty qr 5 (va_up (va_up (fun _ => none) 0 (some (a0 0))) 1 (some (a1 0))) :: (stW ty a0 ++ stW ty a1 ++ stW ty a2))) H := hPn
  have hD : va_D A (oA h0 0 [.ref (qr), .int 0, .int 0] :: (qA ty qr 5 (va_up (va_up (fun _ => none) 0 (some (a0 0))) 1 (some (a1 0))) :: (stW ty a0 ++ stW ty a1 ++ stW ty a2))) := hDn
  refine va_astq X.1 X.2.1 X.2.2.2.2.2.2.1 hP hD hS 1 2 24 4 rfl rfl rfl rfl (r := (RX4, TX4, 11)) (vp_in_nI (n := 2) (by omega) (by decide)) k0_31 (fun H locs hP hD hS => ?_)
  have hP : va_P D vwCl (oA h0 0 [.ref (qr), .int 0, .int 0] :: (qA ty qr 5 (va_up (va_up (va_up (fun _ => none) 0 (some (a0 0))) 1 (some (a1 0))) 2 (some (a2 0))) :: (stW ty a0 ++ stW ty a1 ++ stW ty a2))) H := hP
  have hD : va_D A (oA h0 0 [.ref (qr), .int 0, .int 0] :: (qA ty qr 5 (va_up (va_up (va_up (fun _ => none) 0 (some (a0 0))) 1 (some (a1 0))) 2 (some (a2 0))) :: (stW ty a0 ++ stW ty a1 ++ stW ty a2))) := hD
  refine lv_iinc (v := 3) (lv' := [(1, .int 3), (0, .ref h0)]) X.1 X.2.1 k0_32 hl (k := 0) rfl (by decide) (by decide) rfl (fun ls hl => ?_)
  refine lv_goto (tgt := 14) X.1 X.2.1 k0_35 (by decide) ?_
  refine lv_iload_n X.1 X.2.1 k0_14 rfl (lv_at hl 0 rfl) ?_
  refine lv_iconst (v := 5) X.1 X.2.1 k0_15 (by decide) ?_
  refine lv_icmp_ge (tgt := 38) X.1 X.2.1 k0_16 (by decide) (fun z => absurd z (by decide)) (fun _ => ?_)
  refine lv_aload_n X.1 X.2.1 k0_19 rfl (lv_at hl 1 rfl) ?_
  refine k_get (k := 0) (C := RX0) (T := TX0) (N := 3) X rfl hP (by decide) (mem_at (p := 218) (by decide +kernel)) rfl k0_20 ?_
  refine lv_iload_n X.1 X.2.1 k0_23 rfl (lv_at hl 0 rfl) ?_
  refine k_new (ci := 4) (C := RX4) (T := TX4) (N := 11) (fs := [.null, .null, .null, .null, .null, .null, .null, .null, .null, .null, .int 0]) tyX4 X rfl tyX4_ok (mem_at (p := 215) (by decide +kernel)) (mem_at (p := 101) (by decide +kernel)) (mem_at (p := 84) (by decide +kernel)) hP hD hS hA (fun j hj => by rcases (show j = 0 ∨ j = 1 ∨ j = 2 ∨ j = 3 ∨ j = 4 ∨ j = 5 ∨ j = 6 ∨ j = 7 ∨ j = 8 ∨ j = 9 ∨ j = 10 by omega) with rfl | rfl | rfl | rfl | rfl | rfl | rfl | rfl | rfl | rfl | rfl <;> rfl) (Nat.le_of_ble_eq_true rfl) (Nat.le_of_ble_eq_true rfl) k0_24 (fun q3 H hP hD hS => ?_)
  refine lv_dup X.1 X.2.1 k0_27 rfl ?_
  refine k_callN (ho := "YieldLines") (vs := []) X (c_State l) ok_47 (mem_at (p := 217) (by decide +kernel)) hP hD hS hA rfl ⟨Nat.le_of_ble_eq_true rfl, Nat.le_of_ble_eq_true rfl⟩ hl.1 (Nat.le_of_ble_eq_true rfl) ⟨Nat.le_of_ble_eq_true rfl, Nat.le_of_ble_eq_true rfl⟩ k0_28 (fun a3 H locs had hPn hDn hS => ?_)
  subst had
  have hP : va_P D vwCl (oA h0 0 [.ref (qr), .int 0, .int 0] :: (qA ty qr 5 (va_up (va_up (va_up (fun _ => none) 0 (some (a0 0))) 1 (some (a1 0))) 2 (some (a2 0))) :: (stW ty a0 ++ stW ty a1 ++ stW ty a2 ++ stW ty a3))) H := hPn
  have hD : va_D A (oA h0 0 [.ref (qr), .int 0, .int 0] :: (qA ty qr 5 (va_up (va_up (va_up (fun _ => none) 0 (some (a0 0))) 1 (some (a1 0))) 2 (some (a2 0))) :: (stW ty a0 ++ stW ty a1 ++ stW ty a2 ++ stW ty a3))) := hDn
  refine va_astq X.1 X.2.1 X.2.2.2.2.2.2.1 hP hD hS 1 2 35 4 rfl rfl rfl rfl (r := (RX4, TX4, 11)) (vp_in_nI (n := 3) (by omega) (by decide)) k0_31 (fun H locs hP hD hS => ?_)
  have hP : va_P D vwCl (oA h0 0 [.ref (qr), .int 0, .int 0] :: (qA ty qr 5 (va_up (va_up (va_up (va_up (fun _ => none) 0 (some (a0 0))) 1 (some (a1 0))) 2 (some (a2 0))) 3 (some (a3 0))) :: (stW ty a0 ++ stW ty a1 ++ stW ty a2 ++ stW ty a3))) H := hP
  have hD : va_D A (oA h0 0 [.ref (qr), .int 0, .int 0] :: (qA ty qr 5 (va_up (va_up (va_up (va_up (fun _ => none) 0 (some (a0 0))) 1 (some (a1 0))) 2 (some (a2 0))) 3 (some (a3 0))) :: (stW ty a0 ++ stW ty a1 ++ stW ty a2 ++ stW ty a3))) := hD
  refine lv_iinc (v := 4) (lv' := [(1, .int 4), (0, .ref h0)]) X.1 X.2.1 k0_32 hl (k := 0) rfl (by decide) (by decide) rfl (fun ls hl => ?_)
  refine lv_goto (tgt := 14) X.1 X.2.1 k0_35 (by decide) ?_
  refine lv_iload_n X.1 X.2.1 k0_14 rfl (lv_at hl 0 rfl) ?_
  refine lv_iconst (v := 5) X.1 X.2.1 k0_15 (by decide) ?_
  refine lv_icmp_ge (tgt := 38) X.1 X.2.1 k0_16 (by decide) (fun z => absurd z (by decide)) (fun _ => ?_)
  refine lv_aload_n X.1 X.2.1 k0_19 rfl (lv_at hl 1 rfl) ?_
  refine k_get (k := 0) (C := RX0) (T := TX0) (N := 3) X rfl hP (by decide) (mem_at (p := 218) (by decide +kernel)) rfl k0_20 ?_
  refine lv_iload_n X.1 X.2.1 k0_23 rfl (lv_at hl 0 rfl) ?_
  refine k_new (ci := 4) (C := RX4) (T := TX4) (N := 11) (fs := [.null, .null, .null, .null, .null, .null, .null, .null, .null, .null, .int 0]) tyX4 X rfl tyX4_ok (mem_at (p := 215) (by decide +kernel)) (mem_at (p := 101) (by decide +kernel)) (mem_at (p := 84) (by decide +kernel)) hP hD hS hA (fun j hj => by rcases (show j = 0 ∨ j = 1 ∨ j = 2 ∨ j = 3 ∨ j = 4 ∨ j = 5 ∨ j = 6 ∨ j = 7 ∨ j = 8 ∨ j = 9 ∨ j = 10 by omega) with rfl | rfl | rfl | rfl | rfl | rfl | rfl | rfl | rfl | rfl | rfl <;> rfl) (Nat.le_of_ble_eq_true rfl) (Nat.le_of_ble_eq_true rfl) k0_24 (fun q4 H hP hD hS => ?_)
  refine lv_dup X.1 X.2.1 k0_27 rfl ?_
  refine k_callN (ho := "YieldLines") (vs := []) X (c_State l) ok_47 (mem_at (p := 217) (by decide +kernel)) hP hD hS hA rfl ⟨Nat.le_of_ble_eq_true rfl, Nat.le_of_ble_eq_true rfl⟩ hl.1 (Nat.le_of_ble_eq_true rfl) ⟨Nat.le_of_ble_eq_true rfl, Nat.le_of_ble_eq_true rfl⟩ k0_28 (fun a4 H locs had hPn hDn hS => ?_)
  subst had
  have hP : va_P D vwCl (oA h0 0 [.ref (qr), .int 0, .int 0] :: (qA ty qr 5 (va_up (va_up (va_up (va_up (fun _ => none) 0 (some (a0 0))) 1 (some (a1 0))) 2 (some (a2 0))) 3 (some (a3 0))) :: (stW ty a0 ++ stW ty a1 ++ stW ty a2 ++ stW ty a3 ++ stW ty a4))) H := hPn
  have hD : va_D A (oA h0 0 [.ref (qr), .int 0, .int 0] :: (qA ty qr 5 (va_up (va_up (va_up (va_up (fun _ => none) 0 (some (a0 0))) 1 (some (a1 0))) 2 (some (a2 0))) 3 (some (a3 0))) :: (stW ty a0 ++ stW ty a1 ++ stW ty a2 ++ stW ty a3 ++ stW ty a4))) := hDn
  refine va_astq X.1 X.2.1 X.2.2.2.2.2.2.1 hP hD hS 1 2 46 4 rfl rfl rfl rfl (r := (RX4, TX4, 11)) (vp_in_nI (n := 4) (by omega) (by decide)) k0_31 (fun H locs hP hD hS => ?_)
  have hP : va_P D vwCl (oA h0 0 [.ref (qr), .int 0, .int 0] :: (qA ty qr 5 (va_up (va_up (va_up (va_up (va_up (fun _ => none) 0 (some (a0 0))) 1 (some (a1 0))) 2 (some (a2 0))) 3 (some (a3 0))) 4 (some (a4 0))) :: (stW ty a0 ++ stW ty a1 ++ stW ty a2 ++ stW ty a3 ++ stW ty a4))) H := hP
  have hD : va_D A (oA h0 0 [.ref (qr), .int 0, .int 0] :: (qA ty qr 5 (va_up (va_up (va_up (va_up (va_up (fun _ => none) 0 (some (a0 0))) 1 (some (a1 0))) 2 (some (a2 0))) 3 (some (a3 0))) 4 (some (a4 0))) :: (stW ty a0 ++ stW ty a1 ++ stW ty a2 ++ stW ty a3 ++ stW ty a4))) := hD
  refine lv_iinc (v := 5) (lv' := [(1, .int 5), (0, .ref h0)]) X.1 X.2.1 k0_32 hl (k := 0) rfl (by decide) (by decide) rfl (fun ls hl => ?_)
  refine lv_goto (tgt := 14) X.1 X.2.1 k0_35 (by decide) ?_
  refine lv_iload_n X.1 X.2.1 k0_14 rfl (lv_at hl 0 rfl) ?_
  refine lv_iconst (v := 5) X.1 X.2.1 k0_15 (by decide) ?_
  refine lv_icmp_ge (tgt := 38) X.1 X.2.1 k0_16 (by decide) (fun _ => ?_) (fun z => absurd (by decide) z)
  have hf : (va_up (va_up (va_up (va_up (va_up (fun _ => none) 0 (some (a0 0))) 1 (some (a1 0))) 2 (some (a2 0))) 3 (some (a3 0))) 4 (some (a4 0))) = fun i => [a0 0, a1 0, a2 0, a3 0, a4 0][i]? := funext (fun i => by match i with | 0 => rfl | 1 => rfl | 2 => rfl | 3 => rfl | 4 => rfl | n + 5 => rfl)
  rw [hf] at hP hD
  have hP : va_P D vwCl ((fun ad => hiW ty (hiR ad) ad) (fun j => if j = 0 then h0 else if j = 1 then qr else if j < 13 then a0 (j - 2) else if j < 24 then a1 (j - 13) else if j < 35 then a2 (j - 24) else if j < 46 then a3 (j - 35) else a4 (j - 46))) H := hP
  have hD : va_D A ((fun ad => hiW ty (hiR ad) ad) (fun j => if j = 0 then h0 else if j = 1 then qr else if j < 13 then a0 (j - 2) else if j < 24 then a1 (j - 13) else if j < 35 then a2 (j - 24) else if j < 46 then a3 (j - 35) else a4 (j - 46))) := hD
  refine W.widen (k := 56) (n := 1480) (Nat.le_of_ble_eq_true rfl) (Nat.le_of_ble_eq_true rfl) ?_
  exact k_ret (wf := fun ad => hiW ty (hiR ad) ad) X hr hlocks rfl hP hD hS k0_38
theorem k51_0 : decode cX5_init 0 = .ok (.aload_n 0, 1) := by decide +kernel
theorem k51_1 : decode cX5_init 1 = .ok (.invokespecial 1, 3) := by decide +kernel
theorem k51_4 : decode cX5_init 4 = .ok (.aload_n 0, 1) := by decide +kernel
theorem k51_5 : decode cX5_init 5 = .ok (.sipush 150, 3) := by decide +kernel
theorem k51_8 : decode cX5_init 8 = .ok (.newarray .int, 2) := by decide +kernel
theorem k51_10 : decode cX5_init 10 = .ok (.putfield 9, 3) := by decide +kernel
theorem k51_13 : decode cX5_init 13 = .ok (.aload_n 0, 1) := by decide +kernel
theorem k51_14 : decode cX5_init 14 = .ok (.new 13, 3) := by decide +kernel
theorem k51_17 : decode cX5_init 17 = .ok (.dup, 1) := by decide +kernel
theorem k51_18 : decode cX5_init 18 = .ok (.invokespecial 15, 3) := by decide +kernel
theorem k51_21 : decode cX5_init 21 = .ok (.putfield 16, 3) := by decide +kernel
theorem k51_24 : decode cX5_init 24 = .ok (.aload_n 0, 1) := by decide +kernel
theorem k51_25 : decode cX5_init 25 = .ok (.new 20, 3) := by decide +kernel
theorem k51_28 : decode cX5_init 28 = .ok (.dup, 1) := by decide +kernel
theorem k51_29 : decode cX5_init 29 = .ok (.invokespecial 22, 3) := by decide +kernel
theorem k51_32 : decode cX5_init 32 = .ok (.putfield 23, 3) := by decide +kernel
theorem k51_35 : decode cX5_init 35 = .ok (.aload_n 0, 1) := by decide +kernel
theorem k51_36 : decode cX5_init 36 = .ok (.new 27, 3) := by decide +kernel
theorem k51_39 : decode cX5_init 39 = .ok (.dup, 1) := by decide +kernel
theorem k51_40 : decode cX5_init 40 = .ok (.invokespecial 29, 3) := by decide +kernel
theorem k51_43 : decode cX5_init 43 = .ok (.putfield 30, 3) := by decide +kernel
theorem k51_46 : decode cX5_init 46 = .ok (.aload_n 0, 1) := by decide +kernel
theorem k51_47 : decode cX5_init 47 = .ok (.new 34, 3) := by decide +kernel
theorem k51_50 : decode cX5_init 50 = .ok (.dup, 1) := by decide +kernel
theorem k51_51 : decode cX5_init 51 = .ok (.aload_n 0, 1) := by decide +kernel
theorem k51_52 : decode cX5_init 52 = .ok (.getfield 16, 3) := by decide +kernel
theorem k51_55 : decode cX5_init 55 = .ok (.invokespecial 36, 3) := by decide +kernel
theorem k51_58 : decode cX5_init 58 = .ok (.putfield 39, 3) := by decide +kernel
theorem k51_61 : decode cX5_init 61 = .ok (.aload_n 0, 1) := by decide +kernel
theorem k51_62 : decode cX5_init 62 = .ok (.new 43, 3) := by decide +kernel
theorem k51_65 : decode cX5_init 65 = .ok (.dup, 1) := by decide +kernel
theorem k51_66 : decode cX5_init 66 = .ok (.invokespecial 45, 3) := by decide +kernel
theorem k51_69 : decode cX5_init 69 = .ok (.putfield 46, 3) := by decide +kernel
theorem k51_72 : decode cX5_init 72 = .ok (.return_, 1) := by decide +kernel
theorem ok_51 : kOk yX5_init cX5_init 1 0 := ⟨mem_at (p := 96) (by decide +kernel), mem_at (p := 95) (by decide +kernel), mem_at (p := 83) (by decide +kernel), by decide +kernel, rfl⟩
set_option maxRecDepth 20000 in
set_option maxHeartbeats 4000000 in
theorem c_Y (l : Launch) : kMet l yX5_init cX5_init 1 { frames := 3, cells := 96, slots := 2909, locals := 53 } [] 5 [.null, .int 0, .null, .null, .null, .null, .null, .int 0, .int 0, .int 0] (fun ty ad => ywW ty (hiR (fun j => ad (27 + j))) ad) := by
  refine kMet.of (by decide +kernel) rfl (fun q => Nat.le_of_ble_eq_true rfl) ?_
  intro p e s m args below meth c ty D h0 A ls X hin hr hlocks hA hP hD hS hl
  have hl : lv_has ls 1 [(0, .ref h0)] := hl
  refine lv_aload_n X.1 X.2.1 k51_0 rfl (lv_at hl 0 rfl) ?_
  refine k_obj X (mem_at (p := 97) (by decide +kernel)) hl.1 (Nat.le_of_ble_eq_true rfl) (Nat.le_of_ble_eq_true rfl) k51_1 ?_
  have hP : va_P D vwCl (oA h0 5 [.null, .int 0, .null, .null, .null, .null, .null, .int 0, .int 0, .int 0] :: (([] : va_W))) s.heap := hP
  have hD : va_D A (oA h0 5 [.null, .int 0, .null, .null, .null, .null, .null, .int 0, .int 0, .int 0] :: (([] : va_W))) := hD
  refine lv_aload_n X.1 X.2.1 k51_4 rfl (lv_at hl 0 rfl) ?_
  refine lv_sipush (v := 150) X.1 X.2.1 k51_5 (by decide) ?_
  refine k_newI (n := 150) X hP hD hS hA rfl (by omega) (Nat.le_of_ble_eq_true rfl) (Nat.le_of_ble_eq_true rfl) k51_8 (fun q1 H hP hD hS => ?_)
  have hP : va_P D vwCl (oA h0 5 [.null, .int 0, .null, .null, .null, .null, .null, .int 0, .int 0, .int 0] :: ([iA ty q1 150])) H := hP
  have hD : va_D A (oA h0 5 [.null, .int 0, .null, .null, .null, .null, .null, .int 0, .int 0, .int 0] :: ([iA ty q1 150])) := hD
  refine k_put (k := 0) (t := (.array .int)) (C := RX5) (T := TX5) (N := 10) X hin rfl hP hD hS (by decide) (mem_at (p := 305) (by decide +kernel)) rfl rfl (by decide +kernel) rfl rfl (Nat.le_of_ble_eq_true rfl) k51_10 (fun H locs hP hD hS => ?_)
  have hP : va_P D vwCl (oA h0 5 [.ref (q1), .int 0, .null, .null, .null, .null, .null, .int 0, .int 0, .int 0] :: ([iA ty q1 150])) H := hP
  have hD : va_D A (oA h0 5 [.ref (q1), .int 0, .null, .null, .null, .null, .null, .int 0, .int 0, .int 0] :: ([iA ty q1 150])) := hD
  refine lv_aload_n X.1 X.2.1 k51_13 rfl (lv_at hl 0 rfl) ?_
  refine k_new (ci := 4) (C := RX4) (T := TX4) (N := 11) (fs := [.null, .null, .null, .null, .null, .null, .null, .null, .null, .null, .int 0]) tyX4 X rfl tyX4_ok (mem_at (p := 100) (by decide +kernel)) (mem_at (p := 101) (by decide +kernel)) (mem_at (p := 84) (by decide +kernel)) hP hD hS hA (fun j hj => by rcases (show j = 0 ∨ j = 1 ∨ j = 2 ∨ j = 3 ∨ j = 4 ∨ j = 5 ∨ j = 6 ∨ j = 7 ∨ j = 8 ∨ j = 9 ∨ j = 10 by omega) with rfl | rfl | rfl | rfl | rfl | rfl | rfl | rfl | rfl | rfl | rfl <;> rfl) (Nat.le_of_ble_eq_true rfl) (Nat.le_of_ble_eq_true rfl) k51_14 (fun q0 H hP hD hS => ?_)
  refine lv_dup X.1 X.2.1 k51_17 rfl ?_
  refine k_callN (ho := "YieldLines") (vs := []) X (c_State l) ok_47 (mem_at (p := 102) (by decide +kernel)) hP hD hS hA rfl ⟨Nat.le_of_ble_eq_true rfl, Nat.le_of_ble_eq_true rfl⟩ hl.1 (Nat.le_of_ble_eq_true rfl) ⟨Nat.le_of_ble_eq_true rfl, Nat.le_of_ble_eq_true rfl⟩ k51_18 (fun a1 H locs had hPn hDn hS => ?_)
  subst had
  have hP : va_P D vwCl (oA h0 5 [.ref (q1), .int 0, .null, .null, .null, .null, .null, .int 0, .int 0, .int 0] :: (iA ty q1 150 :: (stW ty a1))) H := hPn
  have hD : va_D A (oA h0 5 [.ref (q1), .int 0, .null, .null, .null, .null, .null, .int 0, .int 0, .int 0] :: (iA ty q1 150 :: (stW ty a1))) := hDn
  refine k_put (k := 2) (t := (.object "YieldLines$State")) (C := RX5) (T := TX5) (N := 10) X hin rfl hP hD hS (by decide) (mem_at (p := 307) (by decide +kernel)) rfl rfl (by decide +kernel) rfl rfl (Nat.le_of_ble_eq_true rfl) k51_21 (fun H locs hP hD hS => ?_)
  have hP : va_P D vwCl (oA h0 5 [.ref (q1), .int 0, .ref (a1 0), .null, .null, .null, .null, .int 0, .int 0, .int 0] :: (iA ty q1 150 :: (stW ty a1))) H := hP
  have hD : va_D A (oA h0 5 [.ref (q1), .int 0, .ref (a1 0), .null, .null, .null, .null, .int 0, .int 0, .int 0] :: (iA ty q1 150 :: (stW ty a1))) := hD
  refine lv_aload_n X.1 X.2.1 k51_24 rfl (lv_at hl 0 rfl) ?_
  refine k_new (ci := 3) (C := RX3) (T := TX3) (N := 11) (fs := [.null, .null, .null, .int 0, .int 0, .int 0, .int 0, .int 0, .int 0, .int 0, .int 0]) tyX3 X rfl tyX3_ok (mem_at (p := 166) (by decide +kernel)) (mem_at (p := 167) (by decide +kernel)) (mem_at (p := 85) (by decide +kernel)) hP hD hS hA (fun j hj => by rcases (show j = 0 ∨ j = 1 ∨ j = 2 ∨ j = 3 ∨ j = 4 ∨ j = 5 ∨ j = 6 ∨ j = 7 ∨ j = 8 ∨ j = 9 ∨ j = 10 by omega) with rfl | rfl | rfl | rfl | rfl | rfl | rfl | rfl | rfl | rfl | rfl <;> rfl) (Nat.le_of_ble_eq_true rfl) (Nat.le_of_ble_eq_true rfl) k51_25 (fun q0 H hP hD hS => ?_)
  refine lv_dup X.1 X.2.1 k51_28 rfl ?_
  refine k_callN (ho := "YieldLines") (vs := []) X (c_Reader l) ok_25 (mem_at (p := 168) (by decide +kernel)) hP hD hS hA rfl ⟨Nat.le_of_ble_eq_true rfl, Nat.le_of_ble_eq_true rfl⟩ hl.1 (Nat.le_of_ble_eq_true rfl) ⟨Nat.le_of_ble_eq_true rfl, Nat.le_of_ble_eq_true rfl⟩ k51_29 (fun a2 H locs had hPn hDn hS => ?_)
  subst had
  have hP : va_P D vwCl (oA h0 5 [.ref (q1), .int 0, .ref (a1 0), .null, .null, .null, .null, .int 0, .int 0, .int 0] :: (iA ty q1 150 :: (stW ty a1 ++ rdW ty a2))) H := hPn
  have hD : va_D A (oA h0 5 [.ref (q1), .int 0, .ref (a1 0), .null, .null, .null, .null, .int 0, .int 0, .int 0] :: (iA ty q1 150 :: (stW ty a1 ++ rdW ty a2))) := hDn
  refine k_put (k := 3) (t := (.object "YieldLines$Reader")) (C := RX5) (T := TX5) (N := 10) X hin rfl hP hD hS (by decide) (mem_at (p := 308) (by decide +kernel)) rfl rfl (by decide +kernel) rfl rfl (Nat.le_of_ble_eq_true rfl) k51_32 (fun H locs hP hD hS => ?_)
  have hP : va_P D vwCl (oA h0 5 [.ref (q1), .int 0, .ref (a1 0), .ref (a2 0), .null, .null, .null, .int 0, .int 0, .int 0] :: (iA ty q1 150 :: (stW ty a1 ++ rdW ty a2))) H := hP
  have hD : va_D A (oA h0 5 [.ref (q1), .int 0, .ref (a1 0), .ref (a2 0), .null, .null, .null, .int 0, .int 0, .int 0] :: (iA ty q1 150 :: (stW ty a1 ++ rdW ty a2))) := hD
  refine lv_aload_n X.1 X.2.1 k51_35 rfl (lv_at hl 0 rfl) ?_
  refine k_new (ci := 0) (C := RX0) (T := TX0) (N := 3) (fs := [.null, .int 0, .int 0]) tyX0 X rfl tyX0_ok (mem_at (p := 209) (by decide +kernel)) (mem_at (p := 210) (by decide +kernel)) (mem_at (p := 86) (by decide +kernel)) hP hD hS hA (fun j hj => by rcases (show j = 0 ∨ j = 1 ∨ j = 2 by omega) with rfl | rfl | rfl <;> rfl) (Nat.le_of_ble_eq_true rfl) (Nat.le_of_ble_eq_true rfl) k51_36 (fun q0 H hP hD hS => ?_)
  refine lv_dup X.1 X.2.1 k51_39 rfl ?_
  refine k_callL (vs := []) X (c_History l) ok_0 (mem_at (p := 211) (by decide +kernel)) hP hD hS hA rfl ⟨Nat.le_of_ble_eq_true rfl, Nat.le_of_ble_eq_true rfl⟩ hl.1 (Nat.le_of_ble_eq_true rfl) ⟨Nat.le_of_ble_eq_true rfl, Nat.le_of_ble_eq_true rfl⟩ k51_40 (fun a3 H locs had hPn hDn hS => ?_)
  subst had
  have hP : va_P D vwCl (oA h0 5 [.ref (q1), .int 0, .ref (a1 0), .ref (a2 0), .null, .null, .null, .int 0, .int 0, .int 0] :: (iA ty q1 150 :: (stW ty a1 ++ rdW ty a2 ++ hiW ty (hiR a3) a3))) H := hPn
  have hD : va_D A (oA h0 5 [.ref (q1), .int 0, .ref (a1 0), .ref (a2 0), .null, .null, .null, .int 0, .int 0, .int 0] :: (iA ty q1 150 :: (stW ty a1 ++ rdW ty a2 ++ hiW ty (hiR a3) a3))) := hDn
  refine k_put (k := 4) (t := (.object "YieldLines$History")) (C := RX5) (T := TX5) (N := 10) X hin rfl hP hD hS (by decide) (mem_at (p := 309) (by decide +kernel)) rfl rfl (by decide +kernel) rfl rfl (Nat.le_of_ble_eq_true rfl) k51_43 (fun H locs hP hD hS => ?_)
  have hP : va_P D vwCl (oA h0 5 [.ref (q1), .int 0, .ref (a1 0), .ref (a2 0), .ref (a3 0), .null, .null, .int 0, .int 0, .int 0] :: (iA ty q1 150 :: (stW ty a1 ++ rdW ty a2 ++ hiW ty (hiR a3) a3))) H := hP
  have hD : va_D A (oA h0 5 [.ref (q1), .int 0, .ref (a1 0), .ref (a2 0), .ref (a3 0), .null, .null, .int 0, .int 0, .int 0] :: (iA ty q1 150 :: (stW ty a1 ++ rdW ty a2 ++ hiW ty (hiR a3) a3))) := hD
  refine lv_aload_n X.1 X.2.1 k51_46 rfl (lv_at hl 0 rfl) ?_
  refine k_new (ci := 1) (C := RX1) (T := TX1) (N := 9) (fs := [.null, .null, .null, .null, .null, .null, .int 0, .int 0, .int 0]) tyX1 X rfl tyX1_ok (mem_at (p := 229) (by decide +kernel)) (mem_at (p := 230) (by decide +kernel)) (mem_at (p := 87) (by decide +kernel)) hP hD hS hA (fun j hj => by rcases (show j = 0 ∨ j = 1 ∨ j = 2 ∨ j = 3 ∨ j = 4 ∨ j = 5 ∨ j = 6 ∨ j = 7 ∨ j = 8 by omega) with rfl | rfl | rfl | rfl | rfl | rfl | rfl | rfl | rfl <;> rfl) (Nat.le_of_ble_eq_true rfl) (Nat.le_of_ble_eq_true rfl) k51_47 (fun q0 H hP hD hS => ?_)
  refine lv_dup X.1 X.2.1 k51_50 rfl ?_
  refine lv_aload_n X.1 X.2.1 k51_51 rfl (lv_at hl 0 rfl) ?_
  refine k_get (k := 2) (C := RX5) (T := TX5) (N := 10) X rfl hP (by decide) (mem_at (p := 307) (by decide +kernel)) rfl k51_52 ?_
  refine k_callL (vs := [.ref (a1 0)]) X (c_Machine l _) ok_3 (mem_at (p := 231) (by decide +kernel)) hP hD hS hA rfl ⟨Nat.le_of_ble_eq_true rfl, Nat.le_of_ble_eq_true rfl⟩ hl.1 (Nat.le_of_ble_eq_true rfl) ⟨Nat.le_of_ble_eq_true rfl, Nat.le_of_ble_eq_true rfl⟩ k51_55 (fun a4 H locs had hPn hDn hS => ?_)
  subst had
  have hP : va_P D vwCl (oA h0 5 [.ref (q1), .int 0, .ref (a1 0), .ref (a2 0), .ref (a3 0), .null, .null, .int 0, .int 0, .int 0] :: (iA ty q1 150 :: (stW ty a1 ++ rdW ty a2 ++ hiW ty (hiR a3) a3 ++ maW (a1 0) ty a4))) H := hPn
  have hD : va_D A (oA h0 5 [.ref (q1), .int 0, .ref (a1 0), .ref (a2 0), .ref (a3 0), .null, .null, .int 0, .int 0, .int 0] :: (iA ty q1 150 :: (stW ty a1 ++ rdW ty a2 ++ hiW ty (hiR a3) a3 ++ maW (a1 0) ty a4))) := hDn
  refine k_put (k := 5) (t := (.object "YieldLines$Machine")) (C := RX5) (T := TX5) (N := 10) X hin rfl hP hD hS (by decide) (mem_at (p := 310) (by decide +kernel)) rfl rfl (by decide +kernel) rfl rfl (Nat.le_of_ble_eq_true rfl) k51_58 (fun H locs hP hD hS => ?_)
  have hP : va_P D vwCl (oA h0 5 [.ref (q1), .int 0, .ref (a1 0), .ref (a2 0), .ref (a3 0), .ref (a4 0), .null, .int 0, .int 0, .int 0] :: (iA ty q1 150 :: (stW ty a1 ++ rdW ty a2 ++ hiW ty (hiR a3) a3 ++ maW (a1 0) ty a4))) H := hP
  have hD : va_D A (oA h0 5 [.ref (q1), .int 0, .ref (a1 0), .ref (a2 0), .ref (a3 0), .ref (a4 0), .null, .int 0, .int 0, .int 0] :: (iA ty q1 150 :: (stW ty a1 ++ rdW ty a2 ++ hiW ty (hiR a3) a3 ++ maW (a1 0) ty a4))) := hD
  refine lv_aload_n X.1 X.2.1 k51_61 rfl (lv_at hl 0 rfl) ?_
  refine k_new (ci := 2) (C := RX2) (T := TX2) (N := 8) (fs := [.int 0, .null, .int 0, .null, .null, .null, .null, .null]) tyX2 X rfl tyX2_ok (mem_at (p := 267) (by decide +kernel)) (mem_at (p := 268) (by decide +kernel)) (mem_at (p := 88) (by decide +kernel)) hP hD hS hA (fun j hj => by rcases (show j = 0 ∨ j = 1 ∨ j = 2 ∨ j = 3 ∨ j = 4 ∨ j = 5 ∨ j = 6 ∨ j = 7 by omega) with rfl | rfl | rfl | rfl | rfl | rfl | rfl | rfl <;> rfl) (Nat.le_of_ble_eq_true rfl) (Nat.le_of_ble_eq_true rfl) k51_62 (fun q0 H hP hD hS => ?_)
  refine lv_dup X.1 X.2.1 k51_65 rfl ?_
  refine k_callN (ho := "YieldLines") (vs := []) X (c_Outcome l) ok_19 (mem_at (p := 269) (by decide +kernel)) hP hD hS hA rfl ⟨Nat.le_of_ble_eq_true rfl, Nat.le_of_ble_eq_true rfl⟩ hl.1 (Nat.le_of_ble_eq_true rfl) ⟨Nat.le_of_ble_eq_true rfl, Nat.le_of_ble_eq_true rfl⟩ k51_66 (fun a5 H locs had hPn hDn hS => ?_)
  subst had
  have hP : va_P D vwCl (oA h0 5 [.ref (q1), .int 0, .ref (a1 0), .ref (a2 0), .ref (a3 0), .ref (a4 0), .null, .int 0, .int 0, .int 0] :: (iA ty q1 150 :: (stW ty a1 ++ rdW ty a2 ++ hiW ty (hiR a3) a3 ++ maW (a1 0) ty a4 ++ ouW ty a5))) H := hPn
  have hD : va_D A (oA h0 5 [.ref (q1), .int 0, .ref (a1 0), .ref (a2 0), .ref (a3 0), .ref (a4 0), .null, .int 0, .int 0, .int 0] :: (iA ty q1 150 :: (stW ty a1 ++ rdW ty a2 ++ hiW ty (hiR a3) a3 ++ maW (a1 0) ty a4 ++ ouW ty a5))) := hDn
  refine k_put (k := 6) (t := (.object "YieldLines$Outcome")) (C := RX5) (T := TX5) (N := 10) X hin rfl hP hD hS (by decide) (mem_at (p := 311) (by decide +kernel)) rfl rfl (by decide +kernel) rfl rfl (Nat.le_of_ble_eq_true rfl) k51_69 (fun H locs hP hD hS => ?_)
  have hP : va_P D vwCl (oA h0 5 [.ref (q1), .int 0, .ref (a1 0), .ref (a2 0), .ref (a3 0), .ref (a4 0), .ref (a5 0), .int 0, .int 0, .int 0] :: (iA ty q1 150 :: (stW ty a1 ++ rdW ty a2 ++ hiW ty (hiR a3) a3 ++ maW (a1 0) ty a4 ++ ouW ty a5))) H := hP
  have hD : va_D A (oA h0 5 [.ref (q1), .int 0, .ref (a1 0), .ref (a2 0), .ref (a3 0), .ref (a4 0), .ref (a5 0), .int 0, .int 0, .int 0] :: (iA ty q1 150 :: (stW ty a1 ++ rdW ty a2 ++ hiW ty (hiR a3) a3 ++ maW (a1 0) ty a4 ++ ouW ty a5))) := hD
  have hP : va_P D vwCl ((fun ad => ywW ty (hiR (fun j => ad (27 + j))) ad) (fun j => if j = 0 then h0 else if j = 1 then q1 else if j < 13 then a1 (j - 2) else if j < 27 then a2 (j - 13) else if j < 84 then a3 (j - 27) else if j < 90 then a4 (j - 84) else a5 (j - 90))) H := hP
  have hD : va_D A ((fun ad => ywW ty (hiR (fun j => ad (27 + j))) ad) (fun j => if j = 0 then h0 else if j = 1 then q1 else if j < 13 then a1 (j - 2) else if j < 27 then a2 (j - 13) else if j < 84 then a3 (j - 27) else if j < 90 then a4 (j - 84) else a5 (j - 90))) := hD
  refine W.widen (k := 96) (n := 2909) (Nat.le_of_ble_eq_true rfl) (Nat.le_of_ble_eq_true rfl) ?_
  exact k_ret (ad := fun j => if j = 0 then h0 else if j = 1 then q1 else if j < 13 then a1 (j - 2) else if j < 27 then a2 (j - 13) else if j < 84 then a3 (j - 27) else if j < 90 then a4 (j - 84) else a5 (j - 90)) (wf := fun ad => ywW ty (hiR (fun j => ad (27 + j))) ad) X hr hlocks rfl hP hD hS k51_72
theorem k79_0 : decode cX6_init 0 = .ok (.aload_n 0, 1) := by decide +kernel
theorem k79_1 : decode cX6_init 1 = .ok (.invokespecial 1, 3) := by decide +kernel
theorem k79_4 : decode cX6_init 4 = .ok (.aload_n 0, 1) := by decide +kernel
theorem k79_5 : decode cX6_init 5 = .ok (.bipush 89, 2) := by decide +kernel
theorem k79_7 : decode cX6_init 7 = .ok (.newarray .int, 2) := by decide +kernel
theorem k79_9 : decode cX6_init 9 = .ok (.putfield 7, 3) := by decide +kernel
theorem k79_12 : decode cX6_init 12 = .ok (.aload_n 0, 1) := by decide +kernel
theorem k79_13 : decode cX6_init 13 = .ok (.bipush 89, 2) := by decide +kernel
theorem k79_15 : decode cX6_init 15 = .ok (.newarray .int, 2) := by decide +kernel
theorem k79_17 : decode cX6_init 17 = .ok (.putfield 13, 3) := by decide +kernel
theorem k79_20 : decode cX6_init 20 = .ok (.aload_n 0, 1) := by decide +kernel
theorem k79_21 : decode cX6_init 21 = .ok (.sipush 445, 3) := by decide +kernel
theorem k79_24 : decode cX6_init 24 = .ok (.newarray .int, 2) := by decide +kernel
theorem k79_26 : decode cX6_init 26 = .ok (.putfield 16, 3) := by decide +kernel
theorem k79_29 : decode cX6_init 29 = .ok (.aload_n 0, 1) := by decide +kernel
theorem k79_30 : decode cX6_init 30 = .ok (.iconst 3, 1) := by decide +kernel
theorem k79_31 : decode cX6_init 31 = .ok (.newarray .int, 2) := by decide +kernel
theorem k79_33 : decode cX6_init 33 = .ok (.putfield 19, 3) := by decide +kernel
theorem k79_36 : decode cX6_init 36 = .ok (.aload_n 0, 1) := by decide +kernel
theorem k79_37 : decode cX6_init 37 = .ok (.sipush 150, 3) := by decide +kernel
theorem k79_40 : decode cX6_init 40 = .ok (.newarray .int, 2) := by decide +kernel
theorem k79_42 : decode cX6_init 42 = .ok (.putfield 22, 3) := by decide +kernel
theorem k79_45 : decode cX6_init 45 = .ok (.aload_n 0, 1) := by decide +kernel
theorem k79_46 : decode cX6_init 46 = .ok (.bipush 89, 2) := by decide +kernel
theorem k79_48 : decode cX6_init 48 = .ok (.newarray .int, 2) := by decide +kernel
theorem k79_50 : decode cX6_init 50 = .ok (.putfield 25, 3) := by decide +kernel
theorem k79_53 : decode cX6_init 53 = .ok (.aload_n 0, 1) := by decide +kernel
theorem k79_54 : decode cX6_init 54 = .ok (.bipush 64, 2) := by decide +kernel
theorem k79_56 : decode cX6_init 56 = .ok (.newarray .int, 2) := by decide +kernel
theorem k79_58 : decode cX6_init 58 = .ok (.putfield 28, 3) := by decide +kernel
theorem k79_61 : decode cX6_init 61 = .ok (.aload_n 0, 1) := by decide +kernel
theorem k79_62 : decode cX6_init 62 = .ok (.bipush 64, 2) := by decide +kernel
theorem k79_64 : decode cX6_init 64 = .ok (.newarray .boolean, 2) := by decide +kernel
theorem k79_66 : decode cX6_init 66 = .ok (.putfield 31, 3) := by decide +kernel
theorem k79_69 : decode cX6_init 69 = .ok (.aload_n 0, 1) := by decide +kernel
theorem k79_70 : decode cX6_init 70 = .ok (.bipush 80, 2) := by decide +kernel
theorem k79_72 : decode cX6_init 72 = .ok (.newarray .int, 2) := by decide +kernel
theorem k79_74 : decode cX6_init 74 = .ok (.putfield 35, 3) := by decide +kernel
theorem k79_77 : decode cX6_init 77 = .ok (.aload_n 0, 1) := by decide +kernel
theorem k79_78 : decode cX6_init 78 = .ok (.bipush 80, 2) := by decide +kernel
theorem k79_80 : decode cX6_init 80 = .ok (.newarray .int, 2) := by decide +kernel
theorem k79_82 : decode cX6_init 82 = .ok (.putfield 38, 3) := by decide +kernel
theorem k79_85 : decode cX6_init 85 = .ok (.aload_n 0, 1) := by decide +kernel
theorem k79_86 : decode cX6_init 86 = .ok (.bipush 60, 2) := by decide +kernel
theorem k79_88 : decode cX6_init 88 = .ok (.newarray .int, 2) := by decide +kernel
theorem k79_90 : decode cX6_init 90 = .ok (.putfield 41, 3) := by decide +kernel
theorem k79_93 : decode cX6_init 93 = .ok (.aload_n 0, 1) := by decide +kernel
theorem k79_94 : decode cX6_init 94 = .ok (.bipush 60, 2) := by decide +kernel
theorem k79_96 : decode cX6_init 96 = .ok (.newarray .int, 2) := by decide +kernel
theorem k79_98 : decode cX6_init 98 = .ok (.putfield 44, 3) := by decide +kernel
theorem k79_101 : decode cX6_init 101 = .ok (.aload_n 0, 1) := by decide +kernel
theorem k79_102 : decode cX6_init 102 = .ok (.bipush 60, 2) := by decide +kernel
theorem k79_104 : decode cX6_init 104 = .ok (.newarray .int, 2) := by decide +kernel
theorem k79_106 : decode cX6_init 106 = .ok (.putfield 47, 3) := by decide +kernel
theorem k79_109 : decode cX6_init 109 = .ok (.aload_n 0, 1) := by decide +kernel
theorem k79_110 : decode cX6_init 110 = .ok (.bipush 60, 2) := by decide +kernel
theorem k79_112 : decode cX6_init 112 = .ok (.newarray .int, 2) := by decide +kernel
theorem k79_114 : decode cX6_init 114 = .ok (.putfield 50, 3) := by decide +kernel
theorem k79_117 : decode cX6_init 117 = .ok (.aload_n 0, 1) := by decide +kernel
theorem k79_118 : decode cX6_init 118 = .ok (.iconst 4, 1) := by decide +kernel
theorem k79_119 : decode cX6_init 119 = .ok (.newarray .int, 2) := by decide +kernel
theorem k79_121 : decode cX6_init 121 = .ok (.putfield 53, 3) := by decide +kernel
theorem k79_124 : decode cX6_init 124 = .ok (.aload_n 0, 1) := by decide +kernel
theorem k79_125 : decode cX6_init 125 = .ok (.bipush 60, 2) := by decide +kernel
theorem k79_127 : decode cX6_init 127 = .ok (.newarray .int, 2) := by decide +kernel
theorem k79_129 : decode cX6_init 129 = .ok (.putfield 56, 3) := by decide +kernel
theorem k79_132 : decode cX6_init 132 = .ok (.aload_n 0, 1) := by decide +kernel
theorem k79_133 : decode cX6_init 133 = .ok (.sipush 240, 3) := by decide +kernel
theorem k79_136 : decode cX6_init 136 = .ok (.newarray .int, 2) := by decide +kernel
theorem k79_138 : decode cX6_init 138 = .ok (.putfield 59, 3) := by decide +kernel
theorem k79_141 : decode cX6_init 141 = .ok (.aload_n 0, 1) := by decide +kernel
theorem k79_142 : decode cX6_init 142 = .ok (.bipush 8, 2) := by decide +kernel
theorem k79_144 : decode cX6_init 144 = .ok (.newarray .int, 2) := by decide +kernel
theorem k79_146 : decode cX6_init 146 = .ok (.putfield 62, 3) := by decide +kernel
theorem k79_149 : decode cX6_init 149 = .ok (.aload_n 0, 1) := by decide +kernel
theorem k79_150 : decode cX6_init 150 = .ok (.bipush 8, 2) := by decide +kernel
theorem k79_152 : decode cX6_init 152 = .ok (.newarray .int, 2) := by decide +kernel
theorem k79_154 : decode cX6_init 154 = .ok (.putfield 65, 3) := by decide +kernel
theorem k79_157 : decode cX6_init 157 = .ok (.aload_n 0, 1) := by decide +kernel
theorem k79_158 : decode cX6_init 158 = .ok (.bipush 8, 2) := by decide +kernel
theorem k79_160 : decode cX6_init 160 = .ok (.newarray .boolean, 2) := by decide +kernel
theorem k79_162 : decode cX6_init 162 = .ok (.putfield 68, 3) := by decide +kernel
theorem k79_165 : decode cX6_init 165 = .ok (.aload_n 0, 1) := by decide +kernel
theorem k79_166 : decode cX6_init 166 = .ok (.iconst 0, 1) := by decide +kernel
theorem k79_167 : decode cX6_init 167 = .ok (.putfield 71, 3) := by decide +kernel
theorem k79_170 : decode cX6_init 170 = .ok (.return_, 1) := by decide +kernel
theorem ok_79 : kOk yX6_init cX6_init 1 0 := ⟨mem_at (p := 659) (by decide +kernel), mem_at (p := 658) (by decide +kernel), mem_at (p := 89) (by decide +kernel), by decide +kernel, rfl⟩
set_option maxRecDepth 20000 in
set_option maxHeartbeats 4000000 in
theorem c_M (l : Launch) : kMet l yX6_init cX6_init 1 { frames := 1, cells := 20, slots := 1721, locals := 12 } [] 6 [.null, .null, .null, .int 0, .null, .null, .int 0, .int 0, .int 0, .null, .int 0, .int 0, .null, .null, .int 0, .null, .null, .int 0, .int 0, .null, .null, .null, .null, .null, .int 0, .int 0, .int 0, .int 0, .int 0, .int 0, .int 0, .null, .null, .int 0, .null, .null, .null, .long 0] mdW := by
  refine kMet.of (by decide +kernel) rfl (fun q => Nat.le_of_ble_eq_true rfl) ?_
  intro p e s m args below meth c ty D h0 A ls X hin hr hlocks hA hP hD hS hl
  have hl : lv_has ls 1 [(0, .ref h0)] := hl
  refine lv_aload_n X.1 X.2.1 k79_0 rfl (lv_at hl 0 rfl) ?_
  refine k_obj X (mem_at (p := 660) (by decide +kernel)) hl.1 (Nat.le_of_ble_eq_true rfl) (Nat.le_of_ble_eq_true rfl) k79_1 ?_
  have hP : va_P D vwCl (oA h0 6 [.null, .null, .null, .int 0, .null, .null, .int 0, .int 0, .int 0, .null, .int 0, .int 0, .null, .null, .int 0, .null, .null, .int 0, .int 0, .null, .null, .null, .null, .null, .int 0, .int 0, .int 0, .int 0, .int 0, .int 0, .int 0, .null, .null, .int 0, .null, .null, .null, .long 0] :: (([] : va_W))) s.heap := hP
  have hD : va_D A (oA h0 6 [.null, .null, .null, .int 0, .null, .null, .int 0, .int 0, .int 0, .null, .int 0, .int 0, .null, .null, .int 0, .null, .null, .int 0, .int 0, .null, .null, .null, .null, .null, .int 0, .int 0, .int 0, .int 0, .int 0, .int 0, .int 0, .null, .null, .int 0, .null, .null, .null, .long 0] :: (([] : va_W))) := hD
  refine lv_aload_n X.1 X.2.1 k79_4 rfl (lv_at hl 0 rfl) ?_
  refine lv_bipush (v := 89) X.1 X.2.1 k79_5 (by decide) ?_
  refine k_newI (n := 89) X hP hD hS hA rfl (by omega) (Nat.le_of_ble_eq_true rfl) (Nat.le_of_ble_eq_true rfl) k79_7 (fun q1 H hP hD hS => ?_)
  have hP : va_P D vwCl (oA h0 6 [.null, .null, .null, .int 0, .null, .null, .int 0, .int 0, .int 0, .null, .int 0, .int 0, .null, .null, .int 0, .null, .null, .int 0, .int 0, .null, .null, .null, .null, .null, .int 0, .int 0, .int 0, .int 0, .int 0, .int 0, .int 0, .null, .null, .int 0, .null, .null, .null, .long 0] :: ([iA ty q1 89])) H := hP
  have hD : va_D A (oA h0 6 [.null, .null, .null, .int 0, .null, .null, .int 0, .int 0, .int 0, .null, .int 0, .int 0, .null, .null, .int 0, .null, .null, .int 0, .int 0, .null, .null, .null, .null, .null, .int 0, .int 0, .int 0, .int 0, .int 0, .int 0, .int 0, .null, .null, .int 0, .null, .null, .null, .long 0] :: ([iA ty q1 89])) := hD
  refine k_put (k := 0) (t := (.array .int)) (C := RX6) (T := TX6) (N := 38) X hin rfl hP hD hS (by decide) (mem_at (p := 661) (by decide +kernel)) rfl rfl (by decide +kernel) rfl rfl (Nat.le_of_ble_eq_true rfl) k79_9 (fun H locs hP hD hS => ?_)
  have hP : va_P D vwCl (oA h0 6 [.ref (q1), .null, .null, .int 0, .null, .null, .int 0, .int 0, .int 0, .null, .int 0, .int 0, .null, .null, .int 0, .null, .null, .int 0, .int 0, .null, .null, .null, .null, .null, .int 0, .int 0, .int 0, .int 0, .int 0, .int 0, .int 0, .null, .null, .int 0, .null, .null, .null, .long 0] :: ([iA ty q1 89])) H := hP
  have hD : va_D A (oA h0 6 [.ref (q1), .null, .null, .int 0, .null, .null, .int 0, .int 0, .int 0, .null, .int 0, .int 0, .null, .null, .int 0, .null, .null, .int 0, .int 0, .null, .null, .null, .null, .null, .int 0, .int 0, .int 0, .int 0, .int 0, .int 0, .int 0, .null, .null, .int 0, .null, .null, .null, .long 0] :: ([iA ty q1 89])) := hD
  refine lv_aload_n X.1 X.2.1 k79_12 rfl (lv_at hl 0 rfl) ?_
  refine lv_bipush (v := 89) X.1 X.2.1 k79_13 (by decide) ?_
  refine k_newI (n := 89) X hP hD hS hA rfl (by omega) (Nat.le_of_ble_eq_true rfl) (Nat.le_of_ble_eq_true rfl) k79_15 (fun q2 H hP hD hS => ?_)
  have hP : va_P D vwCl (oA h0 6 [.ref (q1), .null, .null, .int 0, .null, .null, .int 0, .int 0, .int 0, .null, .int 0, .int 0, .null, .null, .int 0, .null, .null, .int 0, .int 0, .null, .null, .null, .null, .null, .int 0, .int 0, .int 0, .int 0, .int 0, .int 0, .int 0, .null, .null, .int 0, .null, .null, .null, .long 0] :: ([iA ty q1 89] ++ [iA ty q2 89])) H := hP
  have hD : va_D A (oA h0 6 [.ref (q1), .null, .null, .int 0, .null, .null, .int 0, .int 0, .int 0, .null, .int 0, .int 0, .null, .null, .int 0, .null, .null, .int 0, .int 0, .null, .null, .null, .null, .null, .int 0, .int 0, .int 0, .int 0, .int 0, .int 0, .int 0, .null, .null, .int 0, .null, .null, .null, .long 0] :: ([iA ty q1 89] ++ [iA ty q2 89])) := hD
  refine k_put (k := 1) (t := (.array .int)) (C := RX6) (T := TX6) (N := 38) X hin rfl hP hD hS (by decide) (mem_at (p := 662) (by decide +kernel)) rfl rfl (by decide +kernel) rfl rfl (Nat.le_of_ble_eq_true rfl) k79_17 (fun H locs hP hD hS => ?_)
  have hP : va_P D vwCl (oA h0 6 [.ref (q1), .ref (q2), .null, .int 0, .null, .null, .int 0, .int 0, .int 0, .null, .int 0, .int 0, .null, .null, .int 0, .null, .null, .int 0, .int 0, .null, .null, .null, .null, .null, .int 0, .int 0, .int 0, .int 0, .int 0, .int 0, .int 0, .null, .null, .int 0, .null, .null, .null, .long 0] :: ([iA ty q1 89] ++ [iA ty q2 89])) H := hP
  have hD : va_D A (oA h0 6 [.ref (q1), .ref (q2), .null, .int 0, .null, .null, .int 0, .int 0, .int 0, .null, .int 0, .int 0, .null, .null, .int 0, .null, .null, .int 0, .int 0, .null, .null, .null, .null, .null, .int 0, .int 0, .int 0, .int 0, .int 0, .int 0, .int 0, .null, .null, .int 0, .null, .null, .null, .long 0] :: ([iA ty q1 89] ++ [iA ty q2 89])) := hD
  refine lv_aload_n X.1 X.2.1 k79_20 rfl (lv_at hl 0 rfl) ?_
  refine lv_sipush (v := 445) X.1 X.2.1 k79_21 (by decide) ?_
  refine k_newI (n := 445) X hP hD hS hA rfl (by omega) (Nat.le_of_ble_eq_true rfl) (Nat.le_of_ble_eq_true rfl) k79_24 (fun q3 H hP hD hS => ?_)
  have hP : va_P D vwCl (oA h0 6 [.ref (q1), .ref (q2), .null, .int 0, .null, .null, .int 0, .int 0, .int 0, .null, .int 0, .int 0, .null, .null, .int 0, .null, .null, .int 0, .int 0, .null, .null, .null, .null, .null, .int 0, .int 0, .int 0, .int 0, .int 0, .int 0, .int 0, .null, .null, .int 0, .null, .null, .null, .long 0] :: ([iA ty q1 89] ++ [iA ty q2 89] ++ [iA ty q3 445])) H := hP
  have hD : va_D A (oA h0 6 [.ref (q1), .ref (q2), .null, .int 0, .null, .null, .int 0, .int 0, .int 0, .null, .int 0, .int 0, .null, .null, .int 0, .null, .null, .int 0, .int 0, .null, .null, .null, .null, .null, .int 0, .int 0, .int 0, .int 0, .int 0, .int 0, .int 0, .null, .null, .int 0, .null, .null, .null, .long 0] :: ([iA ty q1 89] ++ [iA ty q2 89] ++ [iA ty q3 445])) := hD
  refine k_put (k := 2) (t := (.array .int)) (C := RX6) (T := TX6) (N := 38) X hin rfl hP hD hS (by decide) (mem_at (p := 663) (by decide +kernel)) rfl rfl (by decide +kernel) rfl rfl (Nat.le_of_ble_eq_true rfl) k79_26 (fun H locs hP hD hS => ?_)
  have hP : va_P D vwCl (oA h0 6 [.ref (q1), .ref (q2), .ref (q3), .int 0, .null, .null, .int 0, .int 0, .int 0, .null, .int 0, .int 0, .null, .null, .int 0, .null, .null, .int 0, .int 0, .null, .null, .null, .null, .null, .int 0, .int 0, .int 0, .int 0, .int 0, .int 0, .int 0, .null, .null, .int 0, .null, .null, .null, .long 0] :: ([iA ty q1 89] ++ [iA ty q2 89] ++ [iA ty q3 445])) H := hP
  have hD : va_D A (oA h0 6 [.ref (q1), .ref (q2), .ref (q3), .int 0, .null, .null, .int 0, .int 0, .int 0, .null, .int 0, .int 0, .null, .null, .int 0, .null, .null, .int 0, .int 0, .null, .null, .null, .null, .null, .int 0, .int 0, .int 0, .int 0, .int 0, .int 0, .int 0, .null, .null, .int 0, .null, .null, .null, .long 0] :: ([iA ty q1 89] ++ [iA ty q2 89] ++ [iA ty q3 445])) := hD
  refine lv_aload_n X.1 X.2.1 k79_29 rfl (lv_at hl 0 rfl) ?_
  refine lv_iconst (v := 3) X.1 X.2.1 k79_30 (by decide) ?_
  refine k_newI (n := 3) X hP hD hS hA rfl (by omega) (Nat.le_of_ble_eq_true rfl) (Nat.le_of_ble_eq_true rfl) k79_31 (fun q4 H hP hD hS => ?_)
  have hP : va_P D vwCl (oA h0 6 [.ref (q1), .ref (q2), .ref (q3), .int 0, .null, .null, .int 0, .int 0, .int 0, .null, .int 0, .int 0, .null, .null, .int 0, .null, .null, .int 0, .int 0, .null, .null, .null, .null, .null, .int 0, .int 0, .int 0, .int 0, .int 0, .int 0, .int 0, .null, .null, .int 0, .null, .null, .null, .long 0] :: ([iA ty q1 89] ++ [iA ty q2 89] ++ [iA ty q3 445] ++ [iA ty q4 3])) H := hP
  have hD : va_D A (oA h0 6 [.ref (q1), .ref (q2), .ref (q3), .int 0, .null, .null, .int 0, .int 0, .int 0, .null, .int 0, .int 0, .null, .null, .int 0, .null, .null, .int 0, .int 0, .null, .null, .null, .null, .null, .int 0, .int 0, .int 0, .int 0, .int 0, .int 0, .int 0, .null, .null, .int 0, .null, .null, .null, .long 0] :: ([iA ty q1 89] ++ [iA ty q2 89] ++ [iA ty q3 445] ++ [iA ty q4 3])) := hD
  refine k_put (k := 4) (t := (.array .int)) (C := RX6) (T := TX6) (N := 38) X hin rfl hP hD hS (by decide) (mem_at (p := 665) (by decide +kernel)) rfl rfl (by decide +kernel) rfl rfl (Nat.le_of_ble_eq_true rfl) k79_33 (fun H locs hP hD hS => ?_)
  have hP : va_P D vwCl (oA h0 6 [.ref (q1), .ref (q2), .ref (q3), .int 0, .ref (q4), .null, .int 0, .int 0, .int 0, .null, .int 0, .int 0, .null, .null, .int 0, .null, .null, .int 0, .int 0, .null, .null, .null, .null, .null, .int 0, .int 0, .int 0, .int 0, .int 0, .int 0, .int 0, .null, .null, .int 0, .null, .null, .null, .long 0] :: ([iA ty q1 89] ++ [iA ty q2 89] ++ [iA ty q3 445] ++ [iA ty q4 3])) H := hP
  have hD : va_D A (oA h0 6 [.ref (q1), .ref (q2), .ref (q3), .int 0, .ref (q4), .null, .int 0, .int 0, .int 0, .null, .int 0, .int 0, .null, .null, .int 0, .null, .null, .int 0, .int 0, .null, .null, .null, .null, .null, .int 0, .int 0, .int 0, .int 0, .int 0, .int 0, .int 0, .null, .null, .int 0, .null, .null, .null, .long 0] :: ([iA ty q1 89] ++ [iA ty q2 89] ++ [iA ty q3 445] ++ [iA ty q4 3])) := hD
  refine lv_aload_n X.1 X.2.1 k79_36 rfl (lv_at hl 0 rfl) ?_
  refine lv_sipush (v := 150) X.1 X.2.1 k79_37 (by decide) ?_
  refine k_newI (n := 150) X hP hD hS hA rfl (by omega) (Nat.le_of_ble_eq_true rfl) (Nat.le_of_ble_eq_true rfl) k79_40 (fun q5 H hP hD hS => ?_)
  have hP : va_P D vwCl (oA h0 6 [.ref (q1), .ref (q2), .ref (q3), .int 0, .ref (q4), .null, .int 0, .int 0, .int 0, .null, .int 0, .int 0, .null, .null, .int 0, .null, .null, .int 0, .int 0, .null, .null, .null, .null, .null, .int 0, .int 0, .int 0, .int 0, .int 0, .int 0, .int 0, .null, .null, .int 0, .null, .null, .null, .long 0] :: ([iA ty q1 89] ++ [iA ty q2 89] ++ [iA ty q3 445] ++ [iA ty q4 3] ++ [iA ty q5 150])) H := hP
  have hD : va_D A (oA h0 6 [.ref (q1), .ref (q2), .ref (q3), .int 0, .ref (q4), .null, .int 0, .int 0, .int 0, .null, .int 0, .int 0, .null, .null, .int 0, .null, .null, .int 0, .int 0, .null, .null, .null, .null, .null, .int 0, .int 0, .int 0, .int 0, .int 0, .int 0, .int 0, .null, .null, .int 0, .null, .null, .null, .long 0] :: ([iA ty q1 89] ++ [iA ty q2 89] ++ [iA ty q3 445] ++ [iA ty q4 3] ++ [iA ty q5 150])) := hD
  refine k_put (k := 5) (t := (.array .int)) (C := RX6) (T := TX6) (N := 38) X hin rfl hP hD hS (by decide) (mem_at (p := 666) (by decide +kernel)) rfl rfl (by decide +kernel) rfl rfl (Nat.le_of_ble_eq_true rfl) k79_42 (fun H locs hP hD hS => ?_)
  have hP : va_P D vwCl (oA h0 6 [.ref (q1), .ref (q2), .ref (q3), .int 0, .ref (q4), .ref (q5), .int 0, .int 0, .int 0, .null, .int 0, .int 0, .null, .null, .int 0, .null, .null, .int 0, .int 0, .null, .null, .null, .null, .null, .int 0, .int 0, .int 0, .int 0, .int 0, .int 0, .int 0, .null, .null, .int 0, .null, .null, .null, .long 0] :: ([iA ty q1 89] ++ [iA ty q2 89] ++ [iA ty q3 445] ++ [iA ty q4 3] ++ [iA ty q5 150])) H := hP
  have hD : va_D A (oA h0 6 [.ref (q1), .ref (q2), .ref (q3), .int 0, .ref (q4), .ref (q5), .int 0, .int 0, .int 0, .null, .int 0, .int 0, .null, .null, .int 0, .null, .null, .int 0, .int 0, .null, .null, .null, .null, .null, .int 0, .int 0, .int 0, .int 0, .int 0, .int 0, .int 0, .null, .null, .int 0, .null, .null, .null, .long 0] :: ([iA ty q1 89] ++ [iA ty q2 89] ++ [iA ty q3 445] ++ [iA ty q4 3] ++ [iA ty q5 150])) := hD
  refine lv_aload_n X.1 X.2.1 k79_45 rfl (lv_at hl 0 rfl) ?_
  refine lv_bipush (v := 89) X.1 X.2.1 k79_46 (by decide) ?_
  refine k_newI (n := 89) X hP hD hS hA rfl (by omega) (Nat.le_of_ble_eq_true rfl) (Nat.le_of_ble_eq_true rfl) k79_48 (fun q6 H hP hD hS => ?_)
  have hP : va_P D vwCl (oA h0 6 [.ref (q1), .ref (q2), .ref (q3), .int 0, .ref (q4), .ref (q5), .int 0, .int 0, .int 0, .null, .int 0, .int 0, .null, .null, .int 0, .null, .null, .int 0, .int 0, .null, .null, .null, .null, .null, .int 0, .int 0, .int 0, .int 0, .int 0, .int 0, .int 0, .null, .null, .int 0, .null, .null, .null, .long 0] :: ([iA ty q1 89] ++ [iA ty q2 89] ++ [iA ty q3 445] ++ [iA ty q4 3] ++ [iA ty q5 150] ++ [iA ty q6 89])) H := hP
  have hD : va_D A (oA h0 6 [.ref (q1), .ref (q2), .ref (q3), .int 0, .ref (q4), .ref (q5), .int 0, .int 0, .int 0, .null, .int 0, .int 0, .null, .null, .int 0, .null, .null, .int 0, .int 0, .null, .null, .null, .null, .null, .int 0, .int 0, .int 0, .int 0, .int 0, .int 0, .int 0, .null, .null, .int 0, .null, .null, .null, .long 0] :: ([iA ty q1 89] ++ [iA ty q2 89] ++ [iA ty q3 445] ++ [iA ty q4 3] ++ [iA ty q5 150] ++ [iA ty q6 89])) := hD
  refine k_put (k := 9) (t := (.array .int)) (C := RX6) (T := TX6) (N := 38) X hin rfl hP hD hS (by decide) (mem_at (p := 670) (by decide +kernel)) rfl rfl (by decide +kernel) rfl rfl (Nat.le_of_ble_eq_true rfl) k79_50 (fun H locs hP hD hS => ?_)
  have hP : va_P D vwCl (oA h0 6 [.ref (q1), .ref (q2), .ref (q3), .int 0, .ref (q4), .ref (q5), .int 0, .int 0, .int 0, .ref (q6), .int 0, .int 0, .null, .null, .int 0, .null, .null, .int 0, .int 0, .null, .null, .null, .null, .null, .int 0, .int 0, .int 0, .int 0, .int 0, .int 0, .int 0, .null, .null, .int 0, .null, .null, .null, .long 0] :: ([iA ty q1 89] ++ [iA ty q2 89] ++ [iA ty q3 445] ++ [iA ty q4 3] ++ [iA ty q5 150] ++ [iA ty q6 89])) H := hP
  have hD : va_D A (oA h0 6 [.ref (q1), .ref (q2), .ref (q3), .int 0, .ref (q4), .ref (q5), .int 0, .int 0, .int 0, .ref (q6), .int 0, .int 0, .null, .null, .int 0, .null, .null, .int 0, .int 0, .null, .null, .null, .null, .null, .int 0, .int 0, .int 0, .int 0, .int 0, .int 0, .int 0, .null, .null, .int 0, .null, .null, .null, .long 0] :: ([iA ty q1 89] ++ [iA ty q2 89] ++ [iA ty q3 445] ++ [iA ty q4 3] ++ [iA ty q5 150] ++ [iA ty q6 89])) := hD
  refine lv_aload_n X.1 X.2.1 k79_53 rfl (lv_at hl 0 rfl) ?_
  refine lv_bipush (v := 64) X.1 X.2.1 k79_54 (by decide) ?_
  refine k_newI (n := 64) X hP hD hS hA rfl (by omega) (Nat.le_of_ble_eq_true rfl) (Nat.le_of_ble_eq_true rfl) k79_56 (fun q7 H hP hD hS => ?_)
  have hP : va_P D vwCl (oA h0 6 [.ref (q1), .ref (q2), .ref (q3), .int 0, .ref (q4), .ref (q5), .int 0, .int 0, .int 0, .ref (q6), .int 0, .int 0, .null, .null, .int 0, .null, .null, .int 0, .int 0, .null, .null, .null, .null, .null, .int 0, .int 0, .int 0, .int 0, .int 0, .int 0, .int 0, .null, .null, .int 0, .null, .null, .null, .long 0] :: ([iA ty q1 89] ++ [iA ty q2 89] ++ [iA ty q3 445] ++ [iA ty q4 3] ++ [iA ty q5 150] ++ [iA ty q6 89] ++ [iA ty q7 64])) H := hP
  have hD : va_D A (oA h0 6 [.ref (q1), .ref (q2), .ref (q3), .int 0, .ref (q4), .ref (q5), .int 0, .int 0, .int 0, .ref (q6), .int 0, .int 0, .null, .null, .int 0, .null, .null, .int 0, .int 0, .null, .null, .null, .null, .null, .int 0, .int 0, .int 0, .int 0, .int 0, .int 0, .int 0, .null, .null, .int 0, .null, .null, .null, .long 0] :: ([iA ty q1 89] ++ [iA ty q2 89] ++ [iA ty q3 445] ++ [iA ty q4 3] ++ [iA ty q5 150] ++ [iA ty q6 89] ++ [iA ty q7 64])) := hD
  refine k_put (k := 12) (t := (.array .int)) (C := RX6) (T := TX6) (N := 38) X hin rfl hP hD hS (by decide) (mem_at (p := 673) (by decide +kernel)) rfl rfl (by decide +kernel) rfl rfl (Nat.le_of_ble_eq_true rfl) k79_58 (fun H locs hP hD hS => ?_)
  have hP : va_P D vwCl (oA h0 6 [.ref (q1), .ref (q2), .ref (q3), .int 0, .ref (q4), .ref (q5), .int 0, .int 0, .int 0, .ref (q6), .int 0, .int 0, .ref (q7), .null, .int 0, .null, .null, .int 0, .int 0, .null, .null, .null, .null, .null, .int 0, .int 0, .int 0, .int 0, .int 0, .int 0, .int 0, .null, .null, .int 0, .null, .null, .null, .long 0] :: ([iA ty q1 89] ++ [iA ty q2 89] ++ [iA ty q3 445] ++ [iA ty q4 3] ++ [iA ty q5 150] ++ [iA ty q6 89] ++ [iA ty q7 64])) H := hP
  have hD : va_D A (oA h0 6 [.ref (q1), .ref (q2), .ref (q3), .int 0, .ref (q4), .ref (q5), .int 0, .int 0, .int 0, .ref (q6), .int 0, .int 0, .ref (q7), .null, .int 0, .null, .null, .int 0, .int 0, .null, .null, .null, .null, .null, .int 0, .int 0, .int 0, .int 0, .int 0, .int 0, .int 0, .null, .null, .int 0, .null, .null, .null, .long 0] :: ([iA ty q1 89] ++ [iA ty q2 89] ++ [iA ty q3 445] ++ [iA ty q4 3] ++ [iA ty q5 150] ++ [iA ty q6 89] ++ [iA ty q7 64])) := hD
  refine lv_aload_n X.1 X.2.1 k79_61 rfl (lv_at hl 0 rfl) ?_
  refine lv_bipush (v := 64) X.1 X.2.1 k79_62 (by decide) ?_
  refine k_newZ (n := 64) X hP hD hS hA rfl (by omega) (Nat.le_of_ble_eq_true rfl) (Nat.le_of_ble_eq_true rfl) k79_64 (fun q8 H hP hD hS => ?_)
  have hP : va_P D vwCl (oA h0 6 [.ref (q1), .ref (q2), .ref (q3), .int 0, .ref (q4), .ref (q5), .int 0, .int 0, .int 0, .ref (q6), .int 0, .int 0, .ref (q7), .null, .int 0, .null, .null, .int 0, .int 0, .null, .null, .null, .null, .null, .int 0, .int 0, .int 0, .int 0, .int 0, .int 0, .int 0, .null, .null, .int 0, .null, .null, .null, .long 0] :: ([iA ty q1 89] ++ [iA ty q2 89] ++ [iA ty q3 445] ++ [iA ty q4 3] ++ [iA ty q5 150] ++ [iA ty q6 89] ++ [iA ty q7 64] ++ [zA ty q8 64])) H := hP
  have hD : va_D A (oA h0 6 [.ref (q1), .ref (q2), .ref (q3), .int 0, .ref (q4), .ref (q5), .int 0, .int 0, .int 0, .ref (q6), .int 0, .int 0, .ref (q7), .null, .int 0, .null, .null, .int 0, .int 0, .null, .null, .null, .null, .null, .int 0, .int 0, .int 0, .int 0, .int 0, .int 0, .int 0, .null, .null, .int 0, .null, .null, .null, .long 0] :: ([iA ty q1 89] ++ [iA ty q2 89] ++ [iA ty q3 445] ++ [iA ty q4 3] ++ [iA ty q5 150] ++ [iA ty q6 89] ++ [iA ty q7 64] ++ [zA ty q8 64])) := hD
  refine k_put (k := 13) (t := (.array .boolean)) (C := RX6) (T := TX6) (N := 38) X hin rfl hP hD hS (by decide) (mem_at (p := 674) (by decide +kernel)) rfl rfl (by decide +kernel) rfl rfl (Nat.le_of_ble_eq_true rfl) k79_66 (fun H locs hP hD hS => ?_)
  have hP : va_P D vwCl (oA h0 6 [.ref (q1), .ref (q2), .ref (q3), .int 0, .ref (q4), .ref (q5), .int 0, .int 0, .int 0, .ref (q6), .int 0, .int 0, .ref (q7), .ref (q8), .int 0, .null, .null, .int 0, .int 0, .null, .null, .null, .null, .null, .int 0, .int 0, .int 0, .int 0, .int 0, .int 0, .int 0, .null, .null, .int 0, .null, .null, .null, .long 0] :: ([iA ty q1 89] ++ [iA ty q2 89] ++ [iA ty q3 445] ++ [iA ty q4 3] ++ [iA ty q5 150] ++ [iA ty q6 89] ++ [iA ty q7 64] ++ [zA ty q8 64])) H := hP
  have hD : va_D A (oA h0 6 [.ref (q1), .ref (q2), .ref (q3), .int 0, .ref (q4), .ref (q5), .int 0, .int 0, .int 0, .ref (q6), .int 0, .int 0, .ref (q7), .ref (q8), .int 0, .null, .null, .int 0, .int 0, .null, .null, .null, .null, .null, .int 0, .int 0, .int 0, .int 0, .int 0, .int 0, .int 0, .null, .null, .int 0, .null, .null, .null, .long 0] :: ([iA ty q1 89] ++ [iA ty q2 89] ++ [iA ty q3 445] ++ [iA ty q4 3] ++ [iA ty q5 150] ++ [iA ty q6 89] ++ [iA ty q7 64] ++ [zA ty q8 64])) := hD
  refine lv_aload_n X.1 X.2.1 k79_69 rfl (lv_at hl 0 rfl) ?_
  refine lv_bipush (v := 80) X.1 X.2.1 k79_70 (by decide) ?_
  refine k_newI (n := 80) X hP hD hS hA rfl (by omega) (Nat.le_of_ble_eq_true rfl) (Nat.le_of_ble_eq_true rfl) k79_72 (fun q9 H hP hD hS => ?_)
  have hP : va_P D vwCl (oA h0 6 [.ref (q1), .ref (q2), .ref (q3), .int 0, .ref (q4), .ref (q5), .int 0, .int 0, .int 0, .ref (q6), .int 0, .int 0, .ref (q7), .ref (q8), .int 0, .null, .null, .int 0, .int 0, .null, .null, .null, .null, .null, .int 0, .int 0, .int 0, .int 0, .int 0, .int 0, .int 0, .null, .null, .int 0, .null, .null, .null, .long 0] :: ([iA ty q1 89] ++ [iA ty q2 89] ++ [iA ty q3 445] ++ [iA ty q4 3] ++ [iA ty q5 150] ++ [iA ty q6 89] ++ [iA ty q7 64] ++ [zA ty q8 64] ++ [iA ty q9 80])) H := hP
  have hD : va_D A (oA h0 6 [.ref (q1), .ref (q2), .ref (q3), .int 0, .ref (q4), .ref (q5), .int 0, .int 0, .int 0, .ref (q6), .int 0, .int 0, .ref (q7), .ref (q8), .int 0, .null, .null, .int 0, .int 0, .null, .null, .null, .null, .null, .int 0, .int 0, .int 0, .int 0, .int 0, .int 0, .int 0, .null, .null, .int 0, .null, .null, .null, .long 0] :: ([iA ty q1 89] ++ [iA ty q2 89] ++ [iA ty q3 445] ++ [iA ty q4 3] ++ [iA ty q5 150] ++ [iA ty q6 89] ++ [iA ty q7 64] ++ [zA ty q8 64] ++ [iA ty q9 80])) := hD
  refine k_put (k := 15) (t := (.array .int)) (C := RX6) (T := TX6) (N := 38) X hin rfl hP hD hS (by decide) (mem_at (p := 676) (by decide +kernel)) rfl rfl (by decide +kernel) rfl rfl (Nat.le_of_ble_eq_true rfl) k79_74 (fun H locs hP hD hS => ?_)
  have hP : va_P D vwCl (oA h0 6 [.ref (q1), .ref (q2), .ref (q3), .int 0, .ref (q4), .ref (q5), .int 0, .int 0, .int 0, .ref (q6), .int 0, .int 0, .ref (q7), .ref (q8), .int 0, .ref (q9), .null, .int 0, .int 0, .null, .null, .null, .null, .null, .int 0, .int 0, .int 0, .int 0, .int 0, .int 0, .int 0, .null, .null, .int 0, .null, .null, .null, .long 0] :: ([iA ty q1 89] ++ [iA ty q2 89] ++ [iA ty q3 445] ++ [iA ty q4 3] ++ [iA ty q5 150] ++ [iA ty q6 89] ++ [iA ty q7 64] ++ [zA ty q8 64] ++ [iA ty q9 80])) H := hP
  have hD : va_D A (oA h0 6 [.ref (q1), .ref (q2), .ref (q3), .int 0, .ref (q4), .ref (q5), .int 0, .int 0, .int 0, .ref (q6), .int 0, .int 0, .ref (q7), .ref (q8), .int 0, .ref (q9), .null, .int 0, .int 0, .null, .null, .null, .null, .null, .int 0, .int 0, .int 0, .int 0, .int 0, .int 0, .int 0, .null, .null, .int 0, .null, .null, .null, .long 0] :: ([iA ty q1 89] ++ [iA ty q2 89] ++ [iA ty q3 445] ++ [iA ty q4 3] ++ [iA ty q5 150] ++ [iA ty q6 89] ++ [iA ty q7 64] ++ [zA ty q8 64] ++ [iA ty q9 80])) := hD
  refine lv_aload_n X.1 X.2.1 k79_77 rfl (lv_at hl 0 rfl) ?_
  refine lv_bipush (v := 80) X.1 X.2.1 k79_78 (by decide) ?_
  refine k_newI (n := 80) X hP hD hS hA rfl (by omega) (Nat.le_of_ble_eq_true rfl) (Nat.le_of_ble_eq_true rfl) k79_80 (fun q10 H hP hD hS => ?_)
  have hP : va_P D vwCl (oA h0 6 [.ref (q1), .ref (q2), .ref (q3), .int 0, .ref (q4), .ref (q5), .int 0, .int 0, .int 0, .ref (q6), .int 0, .int 0, .ref (q7), .ref (q8), .int 0, .ref (q9), .null, .int 0, .int 0, .null, .null, .null, .null, .null, .int 0, .int 0, .int 0, .int 0, .int 0, .int 0, .int 0, .null, .null, .int 0, .null, .null, .null, .long 0] :: ([iA ty q1 89] ++ [iA ty q2 89] ++ [iA ty q3 445] ++ [iA ty q4 3] ++ [iA ty q5 150] ++ [iA ty q6 89] ++ [iA ty q7 64] ++ [zA ty q8 64] ++ [iA ty q9 80] ++ [iA ty q10 80])) H := hP
  have hD : va_D A (oA h0 6 [.ref (q1), .ref (q2), .ref (q3), .int 0, .ref (q4), .ref (q5), .int 0, .int 0, .int 0, .ref (q6), .int 0, .int 0, .ref (q7), .ref (q8), .int 0, .ref (q9), .null, .int 0, .int 0, .null, .null, .null, .null, .null, .int 0, .int 0, .int 0, .int 0, .int 0, .int 0, .int 0, .null, .null, .int 0, .null, .null, .null, .long 0] :: ([iA ty q1 89] ++ [iA ty q2 89] ++ [iA ty q3 445] ++ [iA ty q4 3] ++ [iA ty q5 150] ++ [iA ty q6 89] ++ [iA ty q7 64] ++ [zA ty q8 64] ++ [iA ty q9 80] ++ [iA ty q10 80])) := hD
  refine k_put (k := 16) (t := (.array .int)) (C := RX6) (T := TX6) (N := 38) X hin rfl hP hD hS (by decide) (mem_at (p := 677) (by decide +kernel)) rfl rfl (by decide +kernel) rfl rfl (Nat.le_of_ble_eq_true rfl) k79_82 (fun H locs hP hD hS => ?_)
  have hP : va_P D vwCl (oA h0 6 [.ref (q1), .ref (q2), .ref (q3), .int 0, .ref (q4), .ref (q5), .int 0, .int 0, .int 0, .ref (q6), .int 0, .int 0, .ref (q7), .ref (q8), .int 0, .ref (q9), .ref (q10), .int 0, .int 0, .null, .null, .null, .null, .null, .int 0, .int 0, .int 0, .int 0, .int 0, .int 0, .int 0, .null, .null, .int 0, .null, .null, .null, .long 0] :: ([iA ty q1 89] ++ [iA ty q2 89] ++ [iA ty q3 445] ++ [iA ty q4 3] ++ [iA ty q5 150] ++ [iA ty q6 89] ++ [iA ty q7 64] ++ [zA ty q8 64] ++ [iA ty q9 80] ++ [iA ty q10 80])) H := hP
  have hD : va_D A (oA h0 6 [.ref (q1), .ref (q2), .ref (q3), .int 0, .ref (q4), .ref (q5), .int 0, .int 0, .int 0, .ref (q6), .int 0, .int 0, .ref (q7), .ref (q8), .int 0, .ref (q9), .ref (q10), .int 0, .int 0, .null, .null, .null, .null, .null, .int 0, .int 0, .int 0, .int 0, .int 0, .int 0, .int 0, .null, .null, .int 0, .null, .null, .null, .long 0] :: ([iA ty q1 89] ++ [iA ty q2 89] ++ [iA ty q3 445] ++ [iA ty q4 3] ++ [iA ty q5 150] ++ [iA ty q6 89] ++ [iA ty q7 64] ++ [zA ty q8 64] ++ [iA ty q9 80] ++ [iA ty q10 80])) := hD
  refine lv_aload_n X.1 X.2.1 k79_85 rfl (lv_at hl 0 rfl) ?_
  refine lv_bipush (v := 60) X.1 X.2.1 k79_86 (by decide) ?_
  refine k_newI (n := 60) X hP hD hS hA rfl (by omega) (Nat.le_of_ble_eq_true rfl) (Nat.le_of_ble_eq_true rfl) k79_88 (fun q11 H hP hD hS => ?_)
  have hP : va_P D vwCl (oA h0 6 [.ref (q1), .ref (q2), .ref (q3), .int 0, .ref (q4), .ref (q5), .int 0, .int 0, .int 0, .ref (q6), .int 0, .int 0, .ref (q7), .ref (q8), .int 0, .ref (q9), .ref (q10), .int 0, .int 0, .null, .null, .null, .null, .null, .int 0, .int 0, .int 0, .int 0, .int 0, .int 0, .int 0, .null, .null, .int 0, .null, .null, .null, .long 0] :: ([iA ty q1 89] ++ [iA ty q2 89] ++ [iA ty q3 445] ++ [iA ty q4 3] ++ [iA ty q5 150] ++ [iA ty q6 89] ++ [iA ty q7 64] ++ [zA ty q8 64] ++ [iA ty q9 80] ++ [iA ty q10 80] ++ [iA ty q11 60])) H := hP
  have hD : va_D A (oA h0 6 [.ref (q1), .ref (q2), .ref (q3), .int 0, .ref (q4), .ref (q5), .int 0, .int 0, .int 0, .ref (q6), .int 0, .int 0, .ref (q7), .ref (q8), .int 0, .ref (q9), .ref (q10), .int 0, .int 0, .null, .null, .null, .null, .null, .int 0, .int 0, .int 0, .int 0, .int 0, .int 0, .int 0, .null, .null, .int 0, .null, .null, .null, .long 0] :: ([iA ty q1 89] ++ [iA ty q2 89] ++ [iA ty q3 445] ++ [iA ty q4 3] ++ [iA ty q5 150] ++ [iA ty q6 89] ++ [iA ty q7 64] ++ [zA ty q8 64] ++ [iA ty q9 80] ++ [iA ty q10 80] ++ [iA ty q11 60])) := hD
  refine k_put (k := 19) (t := (.array .int)) (C := RX6) (T := TX6) (N := 38) X hin rfl hP hD hS (by decide) (mem_at (p := 680) (by decide +kernel)) rfl rfl (by decide +kernel) rfl rfl (Nat.le_of_ble_eq_true rfl) k79_90 (fun H locs hP hD hS => ?_)
  have hP : va_P D vwCl (oA h0 6 [.ref (q1), .ref (q2), .ref (q3), .int 0, .ref (q4), .ref (q5), .int 0, .int 0, .int 0, .ref (q6), .int 0, .int 0, .ref (q7), .ref (q8), .int 0, .ref (q9), .ref (q10), .int 0, .int 0, .ref (q11), .null, .null, .null, .null, .int 0, .int 0, .int 0, .int 0, .int 0, .int 0, .int 0, .null, .null, .int 0, .null, .null, .null, .long 0] :: ([iA ty q1 89] ++ [iA ty q2 89] ++ [iA ty q3 445] ++ [iA ty q4 3] ++ [iA ty q5 150] ++ [iA ty q6 89] ++ [iA ty q7 64] ++ [zA ty q8 64] ++ [iA ty q9 80] ++ [iA ty q10 80] ++ [iA ty q11 60])) H := hP
  have hD : va_D A (oA h0 6 [.ref (q1), .ref (q2), .ref (q3), .int 0, .ref (q4), .ref (q5), .int 0, .int 0, .int 0, .ref (q6), .int 0, .int 0, .ref (q7), .ref (q8), .int 0, .ref (q9), .ref (q10), .int 0, .int 0, .ref (q11), .null, .null, .null, .null, .int 0, .int 0, .int 0, .int 0, .int 0, .int 0, .int 0, .null, .null, .int 0, .null, .null, .null, .long 0] :: ([iA ty q1 89] ++ [iA ty q2 89] ++ [iA ty q3 445] ++ [iA ty q4 3] ++ [iA ty q5 150] ++ [iA ty q6 89] ++ [iA ty q7 64] ++ [zA ty q8 64] ++ [iA ty q9 80] ++ [iA ty q10 80] ++ [iA ty q11 60])) := hD
  refine lv_aload_n X.1 X.2.1 k79_93 rfl (lv_at hl 0 rfl) ?_
  refine lv_bipush (v := 60) X.1 X.2.1 k79_94 (by decide) ?_
  refine k_newI (n := 60) X hP hD hS hA rfl (by omega) (Nat.le_of_ble_eq_true rfl) (Nat.le_of_ble_eq_true rfl) k79_96 (fun q12 H hP hD hS => ?_)
  have hP : va_P D vwCl (oA h0 6 [.ref (q1), .ref (q2), .ref (q3), .int 0, .ref (q4), .ref (q5), .int 0, .int 0, .int 0, .ref (q6), .int 0, .int 0, .ref (q7), .ref (q8), .int 0, .ref (q9), .ref (q10), .int 0, .int 0, .ref (q11), .null, .null, .null, .null, .int 0, .int 0, .int 0, .int 0, .int 0, .int 0, .int 0, .null, .null, .int 0, .null, .null, .null, .long 0] :: ([iA ty q1 89] ++ [iA ty q2 89] ++ [iA ty q3 445] ++ [iA ty q4 3] ++ [iA ty q5 150] ++ [iA ty q6 89] ++ [iA ty q7 64] ++ [zA ty q8 64] ++ [iA ty q9 80] ++ [iA ty q10 80] ++ [iA ty q11 60] ++ [iA ty q12 60])) H := hP
  have hD : va_D A (oA h0 6 [.ref (q1), .ref (q2), .ref (q3), .int 0, .ref (q4), .ref (q5), .int 0, .int 0, .int 0, .ref (q6), .int 0, .int 0, .ref (q7), .ref (q8), .int 0, .ref (q9), .ref (q10), .int 0, .int 0, .ref (q11), .null, .null, .null, .null, .int 0, .int 0, .int 0, .int 0, .int 0, .int 0, .int 0, .null, .null, .int 0, .null, .null, .null, .long 0] :: ([iA ty q1 89] ++ [iA ty q2 89] ++ [iA ty q3 445] ++ [iA ty q4 3] ++ [iA ty q5 150] ++ [iA ty q6 89] ++ [iA ty q7 64] ++ [zA ty q8 64] ++ [iA ty q9 80] ++ [iA ty q10 80] ++ [iA ty q11 60] ++ [iA ty q12 60])) := hD
  refine k_put (k := 20) (t := (.array .int)) (C := RX6) (T := TX6) (N := 38) X hin rfl hP hD hS (by decide) (mem_at (p := 681) (by decide +kernel)) rfl rfl (by decide +kernel) rfl rfl (Nat.le_of_ble_eq_true rfl) k79_98 (fun H locs hP hD hS => ?_)
  have hP : va_P D vwCl (oA h0 6 [.ref (q1), .ref (q2), .ref (q3), .int 0, .ref (q4), .ref (q5), .int 0, .int 0, .int 0, .ref (q6), .int 0, .int 0, .ref (q7), .ref (q8), .int 0, .ref (q9), .ref (q10), .int 0, .int 0, .ref (q11), .ref (q12), .null, .null, .null, .int 0, .int 0, .int 0, .int 0, .int 0, .int 0, .int 0, .null, .null, .int 0, .null, .null, .null, .long 0] :: ([iA ty q1 89] ++ [iA ty q2 89] ++ [iA ty q3 445] ++ [iA ty q4 3] ++ [iA ty q5 150] ++ [iA ty q6 89] ++ [iA ty q7 64] ++ [zA ty q8 64] ++ [iA ty q9 80] ++ [iA ty q10 80] ++ [iA ty q11 60] ++ [iA ty q12 60])) H := hP
  have hD : va_D A (oA h0 6 [.ref (q1), .ref (q2), .ref (q3), .int 0, .ref (q4), .ref (q5), .int 0, .int 0, .int 0, .ref (q6), .int 0, .int 0, .ref (q7), .ref (q8), .int 0, .ref (q9), .ref (q10), .int 0, .int 0, .ref (q11), .ref (q12), .null, .null, .null, .int 0, .int 0, .int 0, .int 0, .int 0, .int 0, .int 0, .null, .null, .int 0, .null, .null, .null, .long 0] :: ([iA ty q1 89] ++ [iA ty q2 89] ++ [iA ty q3 445] ++ [iA ty q4 3] ++ [iA ty q5 150] ++ [iA ty q6 89] ++ [iA ty q7 64] ++ [zA ty q8 64] ++ [iA ty q9 80] ++ [iA ty q10 80] ++ [iA ty q11 60] ++ [iA ty q12 60])) := hD
  refine lv_aload_n X.1 X.2.1 k79_101 rfl (lv_at hl 0 rfl) ?_
  refine lv_bipush (v := 60) X.1 X.2.1 k79_102 (by decide) ?_
  refine k_newI (n := 60) X hP hD hS hA rfl (by omega) (Nat.le_of_ble_eq_true rfl) (Nat.le_of_ble_eq_true rfl) k79_104 (fun q13 H hP hD hS => ?_)
  have hP : va_P D vwCl (oA h0 6 [.ref (q1), .ref (q2), .ref (q3), .int 0, .ref (q4), .ref (q5), .int 0, .int 0, .int 0, .ref (q6), .int 0, .int 0, .ref (q7), .ref (q8), .int 0, .ref (q9), .ref (q10), .int 0, .int 0, .ref (q11), .ref (q12), .null, .null, .null, .int 0, .int 0, .int 0, .int 0, .int 0, .int 0, .int 0, .null, .null, .int 0, .null, .null, .null, .long 0] :: ([iA ty q1 89] ++ [iA ty q2 89] ++ [iA ty q3 445] ++ [iA ty q4 3] ++ [iA ty q5 150] ++ [iA ty q6 89] ++ [iA ty q7 64] ++ [zA ty q8 64] ++ [iA ty q9 80] ++ [iA ty q10 80] ++ [iA ty q11 60] ++ [iA ty q12 60] ++ [iA ty q13 60])) H := hP
  have hD : va_D A (oA h0 6 [.ref (q1), .ref (q2), .ref (q3), .int 0, .ref (q4), .ref (q5), .int 0, .int 0, .int 0, .ref (q6), .int 0, .int 0, .ref (q7), .ref (q8), .int 0, .ref (q9), .ref (q10), .int 0, .int 0, .ref (q11), .ref (q12), .null, .null, .null, .int 0, .int 0, .int 0, .int 0, .int 0, .int 0, .int 0, .null, .null, .int 0, .null, .null, .null, .long 0] :: ([iA ty q1 89] ++ [iA ty q2 89] ++ [iA ty q3 445] ++ [iA ty q4 3] ++ [iA ty q5 150] ++ [iA ty q6 89] ++ [iA ty q7 64] ++ [zA ty q8 64] ++ [iA ty q9 80] ++ [iA ty q10 80] ++ [iA ty q11 60] ++ [iA ty q12 60] ++ [iA ty q13 60])) := hD
  refine k_put (k := 21) (t := (.array .int)) (C := RX6) (T := TX6) (N := 38) X hin rfl hP hD hS (by decide) (mem_at (p := 682) (by decide +kernel)) rfl rfl (by decide +kernel) rfl rfl (Nat.le_of_ble_eq_true rfl) k79_106 (fun H locs hP hD hS => ?_)
  have hP : va_P D vwCl (oA h0 6 [.ref (q1), .ref (q2), .ref (q3), .int 0, .ref (q4), .ref (q5), .int 0, .int 0, .int 0, .ref (q6), .int 0, .int 0, .ref (q7), .ref (q8), .int 0, .ref (q9), .ref (q10), .int 0, .int 0, .ref (q11), .ref (q12), .ref (q13), .null, .null, .int 0, .int 0, .int 0, .int 0, .int 0, .int 0, .int 0, .null, .null, .int 0, .null, .null, .null, .long 0] :: ([iA ty q1 89] ++ [iA ty q2 89] ++ [iA ty q3 445] ++ [iA ty q4 3] ++ [iA ty q5 150] ++ [iA ty q6 89] ++ [iA ty q7 64] ++ [zA ty q8 64] ++ [iA ty q9 80] ++ [iA ty q10 80] ++ [iA ty q11 60] ++ [iA ty q12 60] ++ [iA ty q13 60])) H := hP
  have hD : va_D A (oA h0 6 [.ref (q1), .ref (q2), .ref (q3), .int 0, .ref (q4), .ref (q5), .int 0, .int 0, .int 0, .ref (q6), .int 0, .int 0, .ref (q7), .ref (q8), .int 0, .ref (q9), .ref (q10), .int 0, .int 0, .ref (q11), .ref (q12), .ref (q13), .null, .null, .int 0, .int 0, .int 0, .int 0, .int 0, .int 0, .int 0, .null, .null, .int 0, .null, .null, .null, .long 0] :: ([iA ty q1 89] ++ [iA ty q2 89] ++ [iA ty q3 445] ++ [iA ty q4 3] ++ [iA ty q5 150] ++ [iA ty q6 89] ++ [iA ty q7 64] ++ [zA ty q8 64] ++ [iA ty q9 80] ++ [iA ty q10 80] ++ [iA ty q11 60] ++ [iA ty q12 60] ++ [iA ty q13 60])) := hD
  refine lv_aload_n X.1 X.2.1 k79_109 rfl (lv_at hl 0 rfl) ?_
  refine lv_bipush (v := 60) X.1 X.2.1 k79_110 (by decide) ?_
  refine k_newI (n := 60) X hP hD hS hA rfl (by omega) (Nat.le_of_ble_eq_true rfl) (Nat.le_of_ble_eq_true rfl) k79_112 (fun q14 H hP hD hS => ?_)
  have hP : va_P D vwCl (oA h0 6 [.ref (q1), .ref (q2), .ref (q3), .int 0, .ref (q4), .ref (q5), .int 0, .int 0, .int 0, .ref (q6), .int 0, .int 0, .ref (q7), .ref (q8), .int 0, .ref (q9), .ref (q10), .int 0, .int 0, .ref (q11), .ref (q12), .ref (q13), .null, .null, .int 0, .int 0, .int 0, .int 0, .int 0, .int 0, .int 0, .null, .null, .int 0, .null, .null, .null, .long 0] :: ([iA ty q1 89] ++ [iA ty q2 89] ++ [iA ty q3 445] ++ [iA ty q4 3] ++ [iA ty q5 150] ++ [iA ty q6 89] ++ [iA ty q7 64] ++ [zA ty q8 64] ++ [iA ty q9 80] ++ [iA ty q10 80] ++ [iA ty q11 60] ++ [iA ty q12 60] ++ [iA ty q13 60] ++ [iA ty q14 60])) H := hP
  have hD : va_D A (oA h0 6 [.ref (q1), .ref (q2), .ref (q3), .int 0, .ref (q4), .ref (q5), .int 0, .int 0, .int 0, .ref (q6), .int 0, .int 0, .ref (q7), .ref (q8), .int 0, .ref (q9), .ref (q10), .int 0, .int 0, .ref (q11), .ref (q12), .ref (q13), .null, .null, .int 0, .int 0, .int 0, .int 0, .int 0, .int 0, .int 0, .null, .null, .int 0, .null, .null, .null, .long 0] :: ([iA ty q1 89] ++ [iA ty q2 89] ++ [iA ty q3 445] ++ [iA ty q4 3] ++ [iA ty q5 150] ++ [iA ty q6 89] ++ [iA ty q7 64] ++ [zA ty q8 64] ++ [iA ty q9 80] ++ [iA ty q10 80] ++ [iA ty q11 60] ++ [iA ty q12 60] ++ [iA ty q13 60] ++ [iA ty q14 60])) := hD
  refine k_put (k := 22) (t := (.array .int)) (C := RX6) (T := TX6) (N := 38) X hin rfl hP hD hS (by decide) (mem_at (p := 683) (by decide +kernel)) rfl rfl (by decide +kernel) rfl rfl (Nat.le_of_ble_eq_true rfl) k79_114 (fun H locs hP hD hS => ?_)
  have hP : va_P D vwCl (oA h0 6 [.ref (q1), .ref (q2), .ref (q3), .int 0, .ref (q4), .ref (q5), .int 0, .int 0, .int 0, .ref (q6), .int 0, .int 0, .ref (q7), .ref (q8), .int 0, .ref (q9), .ref (q10), .int 0, .int 0, .ref (q11), .ref (q12), .ref (q13), .ref (q14), .null, .int 0, .int 0, .int 0, .int 0, .int 0, .int 0, .int 0, .null, .null, .int 0, .null, .null, .null, .long 0] :: ([iA ty q1 89] ++ [iA ty q2 89] ++ [iA ty q3 445] ++ [iA ty q4 3] ++ [iA ty q5 150] ++ [iA ty q6 89] ++ [iA ty q7 64] ++ [zA ty q8 64] ++ [iA ty q9 80] ++ [iA ty q10 80] ++ [iA ty q11 60] ++ [iA ty q12 60] ++ [iA ty q13 60] ++ [iA ty q14 60])) H := hP
  have hD : va_D A (oA h0 6 [.ref (q1), .ref (q2), .ref (q3), .int 0, .ref (q4), .ref (q5), .int 0, .int 0, .int 0, .ref (q6), .int 0, .int 0, .ref (q7), .ref (q8), .int 0, .ref (q9), .ref (q10), .int 0, .int 0, .ref (q11), .ref (q12), .ref (q13), .ref (q14), .null, .int 0, .int 0, .int 0, .int 0, .int 0, .int 0, .int 0, .null, .null, .int 0, .null, .null, .null, .long 0] :: ([iA ty q1 89] ++ [iA ty q2 89] ++ [iA ty q3 445] ++ [iA ty q4 3] ++ [iA ty q5 150] ++ [iA ty q6 89] ++ [iA ty q7 64] ++ [zA ty q8 64] ++ [iA ty q9 80] ++ [iA ty q10 80] ++ [iA ty q11 60] ++ [iA ty q12 60] ++ [iA ty q13 60] ++ [iA ty q14 60])) := hD
  refine lv_aload_n X.1 X.2.1 k79_117 rfl (lv_at hl 0 rfl) ?_
  refine lv_iconst (v := 4) X.1 X.2.1 k79_118 (by decide) ?_
  refine k_newI (n := 4) X hP hD hS hA rfl (by omega) (Nat.le_of_ble_eq_true rfl) (Nat.le_of_ble_eq_true rfl) k79_119 (fun q15 H hP hD hS => ?_)
  have hP : va_P D vwCl (oA h0 6 [.ref (q1), .ref (q2), .ref (q3), .int 0, .ref (q4), .ref (q5), .int 0, .int 0, .int 0, .ref (q6), .int 0, .int 0, .ref (q7), .ref (q8), .int 0, .ref (q9), .ref (q10), .int 0, .int 0, .ref (q11), .ref (q12), .ref (q13), .ref (q14), .null, .int 0, .int 0, .int 0, .int 0, .int 0, .int 0, .int 0, .null, .null, .int 0, .null, .null, .null, .long 0] :: ([iA ty q1 89] ++ [iA ty q2 89] ++ [iA ty q3 445] ++ [iA ty q4 3] ++ [iA ty q5 150] ++ [iA ty q6 89] ++ [iA ty q7 64] ++ [zA ty q8 64] ++ [iA ty q9 80] ++ [iA ty q10 80] ++ [iA ty q11 60] ++ [iA ty q12 60] ++ [iA ty q13 60] ++ [iA ty q14 60] ++ [iA ty q15 4])) H := hP
  have hD : va_D A (oA h0 6 [.ref (q1), .ref (q2), .ref (q3), .int 0, .ref (q4), .ref (q5), .int 0, .int 0, .int 0, .ref (q6), .int 0, .int 0, .ref (q7), .ref (q8), .int 0, .ref (q9), .ref (q10), .int 0, .int 0, .ref (q11), .ref (q12), .ref (q13), .ref (q14), .null, .int 0, .int 0, .int 0, .int 0, .int 0, .int 0, .int 0, .null, .null, .int 0, .null, .null, .null, .long 0] :: ([iA ty q1 89] ++ [iA ty q2 89] ++ [iA ty q3 445] ++ [iA ty q4 3] ++ [iA ty q5 150] ++ [iA ty q6 89] ++ [iA ty q7 64] ++ [zA ty q8 64] ++ [iA ty q9 80] ++ [iA ty q10 80] ++ [iA ty q11 60] ++ [iA ty q12 60] ++ [iA ty q13 60] ++ [iA ty q14 60] ++ [iA ty q15 4])) := hD
  refine k_put (k := 23) (t := (.array .int)) (C := RX6) (T := TX6) (N := 38) X hin rfl hP hD hS (by decide) (mem_at (p := 684) (by decide +kernel)) rfl rfl (by decide +kernel) rfl rfl (Nat.le_of_ble_eq_true rfl) k79_121 (fun H locs hP hD hS => ?_)
  have hP : va_P D vwCl (oA h0 6 [.ref (q1), .ref (q2), .ref (q3), .int 0, .ref (q4), .ref (q5), .int 0, .int 0, .int 0, .ref (q6), .int 0, .int 0, .ref (q7), .ref (q8), .int 0, .ref (q9), .ref (q10), .int 0, .int 0, .ref (q11), .ref (q12), .ref (q13), .ref (q14), .ref (q15), .int 0, .int 0, .int 0, .int 0, .int 0, .int 0, .int 0, .null, .null, .int 0, .null, .null, .null, .long 0] :: ([iA ty q1 89] ++ [iA ty q2 89] ++ [iA ty q3 445] ++ [iA ty q4 3] ++ [iA ty q5 150] ++ [iA ty q6 89] ++ [iA ty q7 64] ++ [zA ty q8 64] ++ [iA ty q9 80] ++ [iA ty q10 80] ++ [iA ty q11 60] ++ [iA ty q12 60] ++ [iA ty q13 60] ++ [iA ty q14 60] ++ [iA ty q15 4])) H := hP
  have hD : va_D A (oA h0 6 [.ref (q1), .ref (q2), .ref (q3), .int 0, .ref (q4), .ref (q5), .int 0, .int 0, .int 0, .ref (q6), .int 0, .int 0, .ref (q7), .ref (q8), .int 0, .ref (q9), .ref (q10), .int 0, .int 0, .ref (q11), .ref (q12), .ref (q13), .ref (q14), .ref (q15), .int 0, .int 0, .int 0, .int 0, .int 0, .int 0, .int 0, .null, .null, .int 0, .null, .null, .null, .long 0] :: ([iA ty q1 89] ++ [iA ty q2 89] ++ [iA ty q3 445] ++ [iA ty q4 3] ++ [iA ty q5 150] ++ [iA ty q6 89] ++ [iA ty q7 64] ++ [zA ty q8 64] ++ [iA ty q9 80] ++ [iA ty q10 80] ++ [iA ty q11 60] ++ [iA ty q12 60] ++ [iA ty q13 60] ++ [iA ty q14 60] ++ [iA ty q15 4])) := hD
  refine lv_aload_n X.1 X.2.1 k79_124 rfl (lv_at hl 0 rfl) ?_
  refine lv_bipush (v := 60) X.1 X.2.1 k79_125 (by decide) ?_
  refine k_newI (n := 60) X hP hD hS hA rfl (by omega) (Nat.le_of_ble_eq_true rfl) (Nat.le_of_ble_eq_true rfl) k79_127 (fun q16 H hP hD hS => ?_)
  have hP : va_P D vwCl (oA h0 6 [.ref (q1), .ref (q2), .ref (q3), .int 0, .ref (q4), .ref (q5), .int 0, .int 0, .int 0, .ref (q6), .int 0, .int 0, .ref (q7), .ref (q8), .int 0, .ref (q9), .ref (q10), .int 0, .int 0, .ref (q11), .ref (q12), .ref (q13), .ref (q14), .ref (q15), .int 0, .int 0, .int 0, .int 0, .int 0, .int 0, .int 0, .null, .null, .int 0, .null, .null, .null, .long 0] :: ([iA ty q1 89] ++ [iA ty q2 89] ++ [iA ty q3 445] ++ [iA ty q4 3] ++ [iA ty q5 150] ++ [iA ty q6 89] ++ [iA ty q7 64] ++ [zA ty q8 64] ++ [iA ty q9 80] ++ [iA ty q10 80] ++ [iA ty q11 60] ++ [iA ty q12 60] ++ [iA ty q13 60] ++ [iA ty q14 60] ++ [iA ty q15 4] ++ [iA ty q16 60])) H := hP
  have hD : va_D A (oA h0 6 [.ref (q1), .ref (q2), .ref (q3), .int 0, .ref (q4), .ref (q5), .int 0, .int 0, .int 0, .ref (q6), .int 0, .int 0, .ref (q7), .ref (q8), .int 0, .ref (q9), .ref (q10), .int 0, .int 0, .ref (q11), .ref (q12), .ref (q13), .ref (q14), .ref (q15), .int 0, .int 0, .int 0, .int 0, .int 0, .int 0, .int 0, .null, .null, .int 0, .null, .null, .null, .long 0] :: ([iA ty q1 89] ++ [iA ty q2 89] ++ [iA ty q3 445] ++ [iA ty q4 3] ++ [iA ty q5 150] ++ [iA ty q6 89] ++ [iA ty q7 64] ++ [zA ty q8 64] ++ [iA ty q9 80] ++ [iA ty q10 80] ++ [iA ty q11 60] ++ [iA ty q12 60] ++ [iA ty q13 60] ++ [iA ty q14 60] ++ [iA ty q15 4] ++ [iA ty q16 60])) := hD
  refine k_put (k := 31) (t := (.array .int)) (C := RX6) (T := TX6) (N := 38) X hin rfl hP hD hS (by decide) (mem_at (p := 692) (by decide +kernel)) rfl rfl (by decide +kernel) rfl rfl (Nat.le_of_ble_eq_true rfl) k79_129 (fun H locs hP hD hS => ?_)
  have hP : va_P D vwCl (oA h0 6 [.ref (q1), .ref (q2), .ref (q3), .int 0, .ref (q4), .ref (q5), .int 0, .int 0, .int 0, .ref (q6), .int 0, .int 0, .ref (q7), .ref (q8), .int 0, .ref (q9), .ref (q10), .int 0, .int 0, .ref (q11), .ref (q12), .ref (q13), .ref (q14), .ref (q15), .int 0, .int 0, .int 0, .int 0, .int 0, .int 0, .int 0, .ref (q16), .null, .int 0, .null, .null, .null, .long 0] :: ([iA ty q1 89] ++ [iA ty q2 89] ++ [iA ty q3 445] ++ [iA ty q4 3] ++ [iA ty q5 150] ++ [iA ty q6 89] ++ [iA ty q7 64] ++ [zA ty q8 64] ++ [iA ty q9 80] ++ [iA ty q10 80] ++ [iA ty q11 60] ++ [iA ty q12 60] ++ [iA ty q13 60] ++ [iA ty q14 60] ++ [iA ty q15 4] ++ [iA ty q16 60])) H := hP
  have hD : va_D A (oA h0 6 [.ref (q1), .ref (q2), .ref (q3), .int 0, .ref (q4), .ref (q5), .int 0, .int 0, .int 0, .ref (q6), .int 0, .int 0, .ref (q7), .ref (q8), .int 0, .ref (q9), .ref (q10), .int 0, .int 0, .ref (q11), .ref (q12), .ref (q13), .ref (q14), .ref (q15), .int 0, .int 0, .int 0, .int 0, .int 0, .int 0, .int 0, .ref (q16), .null, .int 0, .null, .null, .null, .long 0] :: ([iA ty q1 89] ++ [iA ty q2 89] ++ [iA ty q3 445] ++ [iA ty q4 3] ++ [iA ty q5 150] ++ [iA ty q6 89] ++ [iA ty q7 64] ++ [zA ty q8 64] ++ [iA ty q9 80] ++ [iA ty q10 80] ++ [iA ty q11 60] ++ [iA ty q12 60] ++ [iA ty q13 60] ++ [iA ty q14 60] ++ [iA ty q15 4] ++ [iA ty q16 60])) := hD
  refine lv_aload_n X.1 X.2.1 k79_132 rfl (lv_at hl 0 rfl) ?_
  refine lv_sipush (v := 240) X.1 X.2.1 k79_133 (by decide) ?_
  refine k_newI (n := 240) X hP hD hS hA rfl (by omega) (Nat.le_of_ble_eq_true rfl) (Nat.le_of_ble_eq_true rfl) k79_136 (fun q17 H hP hD hS => ?_)
  have hP : va_P D vwCl (oA h0 6 [.ref (q1), .ref (q2), .ref (q3), .int 0, .ref (q4), .ref (q5), .int 0, .int 0, .int 0, .ref (q6), .int 0, .int 0, .ref (q7), .ref (q8), .int 0, .ref (q9), .ref (q10), .int 0, .int 0, .ref (q11), .ref (q12), .ref (q13), .ref (q14), .ref (q15), .int 0, .int 0, .int 0, .int 0, .int 0, .int 0, .int 0, .ref (q16), .null, .int 0, .null, .null, .null, .long 0] :: ([iA ty q1 89] ++ [iA ty q2 89] ++ [iA ty q3 445] ++ [iA ty q4 3] ++ [iA ty q5 150] ++ [iA ty q6 89] ++ [iA ty q7 64] ++ [zA ty q8 64] ++ [iA ty q9 80] ++ [iA ty q10 80] ++ [iA ty q11 60] ++ [iA ty q12 60] ++ [iA ty q13 60] ++ [iA ty q14 60] ++ [iA ty q15 4] ++ [iA ty q16 60] ++ [iA ty q17 240])) H := hP
  have hD : va_D A (oA h0 6 [.ref (q1), .ref (q2), .ref (q3), .int 0, .ref (q4), .ref (q5), .int 0, .int 0, .int 0, .ref (q6), .int 0, .int 0, .ref (q7), .ref (q8), .int 0, .ref (q9), .ref (q10), .int 0, .int 0, .ref (q11), .ref (q12), .ref (q13), .ref (q14), .ref (q15), .int 0, .int 0, .int 0, .int 0, .int 0, .int 0, .int 0, .ref (q16), .null, .int 0, .null, .null, .null, .long 0] :: ([iA ty q1 89] ++ [iA ty q2 89] ++ [iA ty q3 445] ++ [iA ty q4 3] ++ [iA ty q5 150] ++ [iA ty q6 89] ++ [iA ty q7 64] ++ [zA ty q8 64] ++ [iA ty q9 80] ++ [iA ty q10 80] ++ [iA ty q11 60] ++ [iA ty q12 60] ++ [iA ty q13 60] ++ [iA ty q14 60] ++ [iA ty q15 4] ++ [iA ty q16 60] ++ [iA ty q17 240])) := hD
  refine k_put (k := 32) (t := (.array .int)) (C := RX6) (T := TX6) (N := 38) X hin rfl hP hD hS (by decide) (mem_at (p := 693) (by decide +kernel)) rfl rfl (by decide +kernel) rfl rfl (Nat.le_of_ble_eq_true rfl) k79_138 (fun H locs hP hD hS => ?_)
  have hP : va_P D vwCl (oA h0 6 [.ref (q1), .ref (q2), .ref (q3), .int 0, .ref (q4), .ref (q5), .int 0, .int 0, .int 0, .ref (q6), .int 0, .int 0, .ref (q7), .ref (q8), .int 0, .ref (q9), .ref (q10), .int 0, .int 0, .ref (q11), .ref (q12), .ref (q13), .ref (q14), .ref (q15), .int 0, .int 0, .int 0, .int 0, .int 0, .int 0, .int 0, .ref (q16), .ref (q17), .int 0, .null, .null, .null, .long 0] :: ([iA ty q1 89] ++ [iA ty q2 89] ++ [iA ty q3 445] ++ [iA ty q4 3] ++ [iA ty q5 150] ++ [iA ty q6 89] ++ [iA ty q7 64] ++ [zA ty q8 64] ++ [iA ty q9 80] ++ [iA ty q10 80] ++ [iA ty q11 60] ++ [iA ty q12 60] ++ [iA ty q13 60] ++ [iA ty q14 60] ++ [iA ty q15 4] ++ [iA ty q16 60] ++ [iA ty q17 240])) H := hP
  have hD : va_D A (oA h0 6 [.ref (q1), .ref (q2), .ref (q3), .int 0, .ref (q4), .ref (q5), .int 0, .int 0, .int 0, .ref (q6), .int 0, .int 0, .ref (q7), .ref (q8), .int 0, .ref (q9), .ref (q10), .int 0, .int 0, .ref (q11), .ref (q12), .ref (q13), .ref (q14), .ref (q15), .int 0, .int 0, .int 0, .int 0, .int 0, .int 0, .int 0, .ref (q16), .ref (q17), .int 0, .null, .null, .null, .long 0] :: ([iA ty q1 89] ++ [iA ty q2 89] ++ [iA ty q3 445] ++ [iA ty q4 3] ++ [iA ty q5 150] ++ [iA ty q6 89] ++ [iA ty q7 64] ++ [zA ty q8 64] ++ [iA ty q9 80] ++ [iA ty q10 80] ++ [iA ty q11 60] ++ [iA ty q12 60] ++ [iA ty q13 60] ++ [iA ty q14 60] ++ [iA ty q15 4] ++ [iA ty q16 60] ++ [iA ty q17 240])) := hD
  refine lv_aload_n X.1 X.2.1 k79_141 rfl (lv_at hl 0 rfl) ?_
  refine lv_bipush (v := 8) X.1 X.2.1 k79_142 (by decide) ?_
  refine k_newI (n := 8) X hP hD hS hA rfl (by omega) (Nat.le_of_ble_eq_true rfl) (Nat.le_of_ble_eq_true rfl) k79_144 (fun q18 H hP hD hS => ?_)
  have hP : va_P D vwCl (oA h0 6 [.ref (q1), .ref (q2), .ref (q3), .int 0, .ref (q4), .ref (q5), .int 0, .int 0, .int 0, .ref (q6), .int 0, .int 0, .ref (q7), .ref (q8), .int 0, .ref (q9), .ref (q10), .int 0, .int 0, .ref (q11), .ref (q12), .ref (q13), .ref (q14), .ref (q15), .int 0, .int 0, .int 0, .int 0, .int 0, .int 0, .int 0, .ref (q16), .ref (q17), .int 0, .null, .null, .null, .long 0] :: ([iA ty q1 89] ++ [iA ty q2 89] ++ [iA ty q3 445] ++ [iA ty q4 3] ++ [iA ty q5 150] ++ [iA ty q6 89] ++ [iA ty q7 64] ++ [zA ty q8 64] ++ [iA ty q9 80] ++ [iA ty q10 80] ++ [iA ty q11 60] ++ [iA ty q12 60] ++ [iA ty q13 60] ++ [iA ty q14 60] ++ [iA ty q15 4] ++ [iA ty q16 60] ++ [iA ty q17 240] ++ [iA ty q18 8])) H := hP
  have hD : va_D A (oA h0 6 [.ref (q1), .ref (q2), .ref (q3), .int 0, .ref (q4), .ref (q5), .int 0, .int 0, .int 0, .ref (q6), .int 0, .int 0, .ref (q7), .ref (q8), .int 0, .ref (q9), .ref (q10), .int 0, .int 0, .ref (q11), .ref (q12), .ref (q13), .ref (q14), .ref (q15), .int 0, .int 0, .int 0, .int 0, .int 0, .int 0, .int 0, .ref (q16), .ref (q17), .int 0, .null, .null, .null, .long 0] :: ([iA ty q1 89] ++ [iA ty q2 89] ++ [iA ty q3 445] ++ [iA ty q4 3] ++ [iA ty q5 150] ++ [iA ty q6 89] ++ [iA ty q7 64] ++ [zA ty q8 64] ++ [iA ty q9 80] ++ [iA ty q10 80] ++ [iA ty q11 60] ++ [iA ty q12 60] ++ [iA ty q13 60] ++ [iA ty q14 60] ++ [iA ty q15 4] ++ [iA ty q16 60] ++ [iA ty q17 240] ++ [iA ty q18 8])) := hD
  refine k_put (k := 34) (t := (.array .int)) (C := RX6) (T := TX6) (N := 38) X hin rfl hP hD hS (by decide) (mem_at (p := 695) (by decide +kernel)) rfl rfl (by decide +kernel) rfl rfl (Nat.le_of_ble_eq_true rfl) k79_146 (fun H locs hP hD hS => ?_)
  have hP : va_P D vwCl (oA h0 6 [.ref (q1), .ref (q2), .ref (q3), .int 0, .ref (q4), .ref (q5), .int 0, .int 0, .int 0, .ref (q6), .int 0, .int 0, .ref (q7), .ref (q8), .int 0, .ref (q9), .ref (q10), .int 0, .int 0, .ref (q11), .ref (q12), .ref (q13), .ref (q14), .ref (q15), .int 0, .int 0, .int 0, .int 0, .int 0, .int 0, .int 0, .ref (q16), .ref (q17), .int 0, .ref (q18), .null, .null, .long 0] :: ([iA ty q1 89] ++ [iA ty q2 89] ++ [iA ty q3 445] ++ [iA ty q4 3] ++ [iA ty q5 150] ++ [iA ty q6 89] ++ [iA ty q7 64] ++ [zA ty q8 64] ++ [iA ty q9 80] ++ [iA ty q10 80] ++ [iA ty q11 60] ++ [iA ty q12 60] ++ [iA ty q13 60] ++ [iA ty q14 60] ++ [iA ty q15 4] ++ [iA ty q16 60] ++ [iA ty q17 240] ++ [iA ty q18 8])) H := hP
  have hD : va_D A (oA h0 6 [.ref (q1), .ref (q2), .ref (q3), .int 0, .ref (q4), .ref (q5), .int 0, .int 0, .int 0, .ref (q6), .int 0, .int 0, .ref (q7), .ref (q8), .int 0, .ref (q9), .ref (q10), .int 0, .int 0, .ref (q11), .ref (q12), .ref (q13), .ref (q14), .ref (q15), .int 0, .int 0, .int 0, .int 0, .int 0, .int 0, .int 0, .ref (q16), .ref (q17), .int 0, .ref (q18), .null, .null, .long 0] :: ([iA ty q1 89] ++ [iA ty q2 89] ++ [iA ty q3 445] ++ [iA ty q4 3] ++ [iA ty q5 150] ++ [iA ty q6 89] ++ [iA ty q7 64] ++ [zA ty q8 64] ++ [iA ty q9 80] ++ [iA ty q10 80] ++ [iA ty q11 60] ++ [iA ty q12 60] ++ [iA ty q13 60] ++ [iA ty q14 60] ++ [iA ty q15 4] ++ [iA ty q16 60] ++ [iA ty q17 240] ++ [iA ty q18 8])) := hD
  refine lv_aload_n X.1 X.2.1 k79_149 rfl (lv_at hl 0 rfl) ?_
  refine lv_bipush (v := 8) X.1 X.2.1 k79_150 (by decide) ?_
  refine k_newI (n := 8) X hP hD hS hA rfl (by omega) (Nat.le_of_ble_eq_true rfl) (Nat.le_of_ble_eq_true rfl) k79_152 (fun q19 H hP hD hS => ?_)
  have hP : va_P D vwCl (oA h0 6 [.ref (q1), .ref (q2), .ref (q3), .int 0, .ref (q4), .ref (q5), .int 0, .int 0, .int 0, .ref (q6), .int 0, .int 0, .ref (q7), .ref (q8), .int 0, .ref (q9), .ref (q10), .int 0, .int 0, .ref (q11), .ref (q12), .ref (q13), .ref (q14), .ref (q15), .int 0, .int 0, .int 0, .int 0, .int 0, .int 0, .int 0, .ref (q16), .ref (q17), .int 0, .ref (q18), .null, .null, .long 0] :: ([iA ty q1 89] ++ [iA ty q2 89] ++ [iA ty q3 445] ++ [iA ty q4 3] ++ [iA ty q5 150] ++ [iA ty q6 89] ++ [iA ty q7 64] ++ [zA ty q8 64] ++ [iA ty q9 80] ++ [iA ty q10 80] ++ [iA ty q11 60] ++ [iA ty q12 60] ++ [iA ty q13 60] ++ [iA ty q14 60] ++ [iA ty q15 4] ++ [iA ty q16 60] ++ [iA ty q17 240] ++ [iA ty q18 8] ++ [iA ty q19 8])) H := hP
  have hD : va_D A (oA h0 6 [.ref (q1), .ref (q2), .ref (q3), .int 0, .ref (q4), .ref (q5), .int 0, .int 0, .int 0, .ref (q6), .int 0, .int 0, .ref (q7), .ref (q8), .int 0, .ref (q9), .ref (q10), .int 0, .int 0, .ref (q11), .ref (q12), .ref (q13), .ref (q14), .ref (q15), .int 0, .int 0, .int 0, .int 0, .int 0, .int 0, .int 0, .ref (q16), .ref (q17), .int 0, .ref (q18), .null, .null, .long 0] :: ([iA ty q1 89] ++ [iA ty q2 89] ++ [iA ty q3 445] ++ [iA ty q4 3] ++ [iA ty q5 150] ++ [iA ty q6 89] ++ [iA ty q7 64] ++ [zA ty q8 64] ++ [iA ty q9 80] ++ [iA ty q10 80] ++ [iA ty q11 60] ++ [iA ty q12 60] ++ [iA ty q13 60] ++ [iA ty q14 60] ++ [iA ty q15 4] ++ [iA ty q16 60] ++ [iA ty q17 240] ++ [iA ty q18 8] ++ [iA ty q19 8])) := hD
  refine k_put (k := 35) (t := (.array .int)) (C := RX6) (T := TX6) (N := 38) X hin rfl hP hD hS (by decide) (mem_at (p := 696) (by decide +kernel)) rfl rfl (by decide +kernel) rfl rfl (Nat.le_of_ble_eq_true rfl) k79_154 (fun H locs hP hD hS => ?_)
  have hP : va_P D vwCl (oA h0 6 [.ref (q1), .ref (q2), .ref (q3), .int 0, .ref (q4), .ref (q5), .int 0, .int 0, .int 0, .ref (q6), .int 0, .int 0, .ref (q7), .ref (q8), .int 0, .ref (q9), .ref (q10), .int 0, .int 0, .ref (q11), .ref (q12), .ref (q13), .ref (q14), .ref (q15), .int 0, .int 0, .int 0, .int 0, .int 0, .int 0, .int 0, .ref (q16), .ref (q17), .int 0, .ref (q18), .ref (q19), .null, .long 0] :: ([iA ty q1 89] ++ [iA ty q2 89] ++ [iA ty q3 445] ++ [iA ty q4 3] ++ [iA ty q5 150] ++ [iA ty q6 89] ++ [iA ty q7 64] ++ [zA ty q8 64] ++ [iA ty q9 80] ++ [iA ty q10 80] ++ [iA ty q11 60] ++ [iA ty q12 60] ++ [iA ty q13 60] ++ [iA ty q14 60] ++ [iA ty q15 4] ++ [iA ty q16 60] ++ [iA ty q17 240] ++ [iA ty q18 8] ++ [iA ty q19 8])) H := hP
  have hD : va_D A (oA h0 6 [.ref (q1), .ref (q2), .ref (q3), .int 0, .ref (q4), .ref (q5), .int 0, .int 0, .int 0, .ref (q6), .int 0, .int 0, .ref (q7), .ref (q8), .int 0, .ref (q9), .ref (q10), .int 0, .int 0, .ref (q11), .ref (q12), .ref (q13), .ref (q14), .ref (q15), .int 0, .int 0, .int 0, .int 0, .int 0, .int 0, .int 0, .ref (q16), .ref (q17), .int 0, .ref (q18), .ref (q19), .null, .long 0] :: ([iA ty q1 89] ++ [iA ty q2 89] ++ [iA ty q3 445] ++ [iA ty q4 3] ++ [iA ty q5 150] ++ [iA ty q6 89] ++ [iA ty q7 64] ++ [zA ty q8 64] ++ [iA ty q9 80] ++ [iA ty q10 80] ++ [iA ty q11 60] ++ [iA ty q12 60] ++ [iA ty q13 60] ++ [iA ty q14 60] ++ [iA ty q15 4] ++ [iA ty q16 60] ++ [iA ty q17 240] ++ [iA ty q18 8] ++ [iA ty q19 8])) := hD
  refine lv_aload_n X.1 X.2.1 k79_157 rfl (lv_at hl 0 rfl) ?_
  refine lv_bipush (v := 8) X.1 X.2.1 k79_158 (by decide) ?_
  refine k_newZ (n := 8) X hP hD hS hA rfl (by omega) (Nat.le_of_ble_eq_true rfl) (Nat.le_of_ble_eq_true rfl) k79_160 (fun q20 H hP hD hS => ?_)
  have hP : va_P D vwCl (oA h0 6 [.ref (q1), .ref (q2), .ref (q3), .int 0, .ref (q4), .ref (q5), .int 0, .int 0, .int 0, .ref (q6), .int 0, .int 0, .ref (q7), .ref (q8), .int 0, .ref (q9), .ref (q10), .int 0, .int 0, .ref (q11), .ref (q12), .ref (q13), .ref (q14), .ref (q15), .int 0, .int 0, .int 0, .int 0, .int 0, .int 0, .int 0, .ref (q16), .ref (q17), .int 0, .ref (q18), .ref (q19), .null, .long 0] :: ([iA ty q1 89] ++ [iA ty q2 89] ++ [iA ty q3 445] ++ [iA ty q4 3] ++ [iA ty q5 150] ++ [iA ty q6 89] ++ [iA ty q7 64] ++ [zA ty q8 64] ++ [iA ty q9 80] ++ [iA ty q10 80] ++ [iA ty q11 60] ++ [iA ty q12 60] ++ [iA ty q13 60] ++ [iA ty q14 60] ++ [iA ty q15 4] ++ [iA ty q16 60] ++ [iA ty q17 240] ++ [iA ty q18 8] ++ [iA ty q19 8] ++ [zA ty q20 8])) H := hP
  have hD : va_D A (oA h0 6 [.ref (q1), .ref (q2), .ref (q3), .int 0, .ref (q4), .ref (q5), .int 0, .int 0, .int 0, .ref (q6), .int 0, .int 0, .ref (q7), .ref (q8), .int 0, .ref (q9), .ref (q10), .int 0, .int 0, .ref (q11), .ref (q12), .ref (q13), .ref (q14), .ref (q15), .int 0, .int 0, .int 0, .int 0, .int 0, .int 0, .int 0, .ref (q16), .ref (q17), .int 0, .ref (q18), .ref (q19), .null, .long 0] :: ([iA ty q1 89] ++ [iA ty q2 89] ++ [iA ty q3 445] ++ [iA ty q4 3] ++ [iA ty q5 150] ++ [iA ty q6 89] ++ [iA ty q7 64] ++ [zA ty q8 64] ++ [iA ty q9 80] ++ [iA ty q10 80] ++ [iA ty q11 60] ++ [iA ty q12 60] ++ [iA ty q13 60] ++ [iA ty q14 60] ++ [iA ty q15 4] ++ [iA ty q16 60] ++ [iA ty q17 240] ++ [iA ty q18 8] ++ [iA ty q19 8] ++ [zA ty q20 8])) := hD
  refine k_put (k := 36) (t := (.array .boolean)) (C := RX6) (T := TX6) (N := 38) X hin rfl hP hD hS (by decide) (mem_at (p := 697) (by decide +kernel)) rfl rfl (by decide +kernel) rfl rfl (Nat.le_of_ble_eq_true rfl) k79_162 (fun H locs hP hD hS => ?_)
  have hP : va_P D vwCl (oA h0 6 [.ref (q1), .ref (q2), .ref (q3), .int 0, .ref (q4), .ref (q5), .int 0, .int 0, .int 0, .ref (q6), .int 0, .int 0, .ref (q7), .ref (q8), .int 0, .ref (q9), .ref (q10), .int 0, .int 0, .ref (q11), .ref (q12), .ref (q13), .ref (q14), .ref (q15), .int 0, .int 0, .int 0, .int 0, .int 0, .int 0, .int 0, .ref (q16), .ref (q17), .int 0, .ref (q18), .ref (q19), .ref (q20), .long 0] :: ([iA ty q1 89] ++ [iA ty q2 89] ++ [iA ty q3 445] ++ [iA ty q4 3] ++ [iA ty q5 150] ++ [iA ty q6 89] ++ [iA ty q7 64] ++ [zA ty q8 64] ++ [iA ty q9 80] ++ [iA ty q10 80] ++ [iA ty q11 60] ++ [iA ty q12 60] ++ [iA ty q13 60] ++ [iA ty q14 60] ++ [iA ty q15 4] ++ [iA ty q16 60] ++ [iA ty q17 240] ++ [iA ty q18 8] ++ [iA ty q19 8] ++ [zA ty q20 8])) H := hP
  have hD : va_D A (oA h0 6 [.ref (q1), .ref (q2), .ref (q3), .int 0, .ref (q4), .ref (q5), .int 0, .int 0, .int 0, .ref (q6), .int 0, .int 0, .ref (q7), .ref (q8), .int 0, .ref (q9), .ref (q10), .int 0, .int 0, .ref (q11), .ref (q12), .ref (q13), .ref (q14), .ref (q15), .int 0, .int 0, .int 0, .int 0, .int 0, .int 0, .int 0, .ref (q16), .ref (q17), .int 0, .ref (q18), .ref (q19), .ref (q20), .long 0] :: ([iA ty q1 89] ++ [iA ty q2 89] ++ [iA ty q3 445] ++ [iA ty q4 3] ++ [iA ty q5 150] ++ [iA ty q6 89] ++ [iA ty q7 64] ++ [zA ty q8 64] ++ [iA ty q9 80] ++ [iA ty q10 80] ++ [iA ty q11 60] ++ [iA ty q12 60] ++ [iA ty q13 60] ++ [iA ty q14 60] ++ [iA ty q15 4] ++ [iA ty q16 60] ++ [iA ty q17 240] ++ [iA ty q18 8] ++ [iA ty q19 8] ++ [zA ty q20 8])) := hD
  refine lv_aload_n X.1 X.2.1 k79_165 rfl (lv_at hl 0 rfl) ?_
  refine lv_iconst (v := 0) X.1 X.2.1 k79_166 (by decide) ?_
  refine k_putI (k := 3) (C := RX6) (T := TX6) (N := 38) X rfl hP hD hS (by decide) (mem_at (p := 664) (by decide +kernel)) rfl (by decide +kernel) (Nat.le_of_ble_eq_true rfl) k79_167 (fun H locs hP hD hS => ?_)
  have hP : va_P D vwCl (oA h0 6 [.ref (q1), .ref (q2), .ref (q3), .int 0, .ref (q4), .ref (q5), .int 0, .int 0, .int 0, .ref (q6), .int 0, .int 0, .ref (q7), .ref (q8), .int 0, .ref (q9), .ref (q10), .int 0, .int 0, .ref (q11), .ref (q12), .ref (q13), .ref (q14), .ref (q15), .int 0, .int 0, .int 0, .int 0, .int 0, .int 0, .int 0, .ref (q16), .ref (q17), .int 0, .ref (q18), .ref (q19), .ref (q20), .long 0] :: ([iA ty q1 89] ++ [iA ty q2 89] ++ [iA ty q3 445] ++ [iA ty q4 3] ++ [iA ty q5 150] ++ [iA ty q6 89] ++ [iA ty q7 64] ++ [zA ty q8 64] ++ [iA ty q9 80] ++ [iA ty q10 80] ++ [iA ty q11 60] ++ [iA ty q12 60] ++ [iA ty q13 60] ++ [iA ty q14 60] ++ [iA ty q15 4] ++ [iA ty q16 60] ++ [iA ty q17 240] ++ [iA ty q18 8] ++ [iA ty q19 8] ++ [zA ty q20 8])) H := hP
  have hD : va_D A (oA h0 6 [.ref (q1), .ref (q2), .ref (q3), .int 0, .ref (q4), .ref (q5), .int 0, .int 0, .int 0, .ref (q6), .int 0, .int 0, .ref (q7), .ref (q8), .int 0, .ref (q9), .ref (q10), .int 0, .int 0, .ref (q11), .ref (q12), .ref (q13), .ref (q14), .ref (q15), .int 0, .int 0, .int 0, .int 0, .int 0, .int 0, .int 0, .ref (q16), .ref (q17), .int 0, .ref (q18), .ref (q19), .ref (q20), .long 0] :: ([iA ty q1 89] ++ [iA ty q2 89] ++ [iA ty q3 445] ++ [iA ty q4 3] ++ [iA ty q5 150] ++ [iA ty q6 89] ++ [iA ty q7 64] ++ [zA ty q8 64] ++ [iA ty q9 80] ++ [iA ty q10 80] ++ [iA ty q11 60] ++ [iA ty q12 60] ++ [iA ty q13 60] ++ [iA ty q14 60] ++ [iA ty q15 4] ++ [iA ty q16 60] ++ [iA ty q17 240] ++ [iA ty q18 8] ++ [iA ty q19 8] ++ [zA ty q20 8])) := hD
  have hP : va_P D vwCl (mdW ty (fun j => if j = 0 then h0 else if j = 1 then q1 else if j = 2 then q2 else if j = 3 then q3 else if j = 4 then q4 else if j = 5 then q5 else if j = 6 then q6 else if j = 7 then q7 else if j = 8 then q8 else if j = 9 then q9 else if j = 10 then q10 else if j = 11 then q11 else if j = 12 then q12 else if j = 13 then q13 else if j = 14 then q14 else if j = 15 then q15 else if j = 16 then q16 else if j = 17 then q17 else if j = 18 then q18 else if j = 19 then q19 else q20)) H := hP
  have hD : va_D A (mdW ty (fun j => if j = 0 then h0 else if j = 1 then q1 else if j = 2 then q2 else if j = 3 then q3 else if j = 4 then q4 else if j = 5 then q5 else if j = 6 then q6 else if j = 7 then q7 else if j = 8 then q8 else if j = 9 then q9 else if j = 10 then q10 else if j = 11 then q11 else if j = 12 then q12 else if j = 13 then q13 else if j = 14 then q14 else if j = 15 then q15 else if j = 16 then q16 else if j = 17 then q17 else if j = 18 then q18 else if j = 19 then q19 else q20)) := hD
  refine W.widen (k := 20) (n := 1721) (Nat.le_of_ble_eq_true rfl) (Nat.le_of_ble_eq_true rfl) ?_
  exact k_ret X hr hlocks rfl hP hD hS k79_170
