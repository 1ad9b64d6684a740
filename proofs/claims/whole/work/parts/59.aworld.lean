/-! THE WORLD BEHIND THE TWO CONSTRUCTORS is the pure machine's, all 0 -/
/-- the state in which all is 0 -/
def z0 : yS := fun _ _ => 0
def mx {α β : Type} (f : Nat → α → β) : Nat → List α → List β
  | _, [] => []
  | k, a :: l => f k a :: mx f (k + 1) l
theorem mx_eq {α β : Type} (f : Nat → α → β) : ∀ (l : List α) (k : Nat), mx f k l = l.mapIdx (fun i => f (i + k)) := by
  intro l
  induction l with
  | nil => intro k; rfl
  | cons a l ih =>
    intro k
    rw [List.mapIdx_cons, Nat.zero_add]
    show f k a :: mx f (k + 1) l = _
    rw [ih (k + 1)]
    congr 1
    congr 1
    funext i
    rw [show i + 1 + k = i + (k + 1) by omega]
theorem mx_0 {α β : Type} (f : Nat → α → β) (l : List α) : l.mapIdx f = mx f 0 l := (mx_eq f l 0).symm
def cellM (ad : Nat → Nat) (ty : Nat → ClassId) (f : Nat → Int32) (d : yC) : va_E := match d with
  | .inl q => .inl (ty q.1, q.2, .inl f)
  | .inr (.inl q) => .inl (ty 2, q.1, .inr (.inr (.inr (.inr (fun i => (q.2[i]?).map ad)))))
  | .inr (.inr q) => .inr (q.1, mx (fun k fd => fv ad f k fd) 0 q.2)
theorem cell_M (ad : Nat → Nat) (ty : Nat → ClassId) (f : Nat → Int32) (d : yC) : cellOf ad ty f d = cellM ad ty f d := by
  match d with
  | .inl q => rfl
  | .inr (.inl q) => rfl
  | .inr (.inr q) =>
    show Sum.inr (q.1, q.2.mapIdx (fun k fd => fv ad f k fd)) = _
    rw [mx_0]; rfl
theorem wd_mx (ad : Nat → Nat) (ty : Nat → ClassId) (σ : yS) : wd ad ty σ = mx (fun c d => (ad c, cellM ad ty (σ c) d)) 0 ysh := by
  rw [← mx_0]
  unfold wd
  congr 1
  funext c d
  rw [cell_M]
def mdV (v : Value) (ty : Nat → ClassId) (ad : Nat → Nat) : va_W := [oA (ad 0) 6 [.ref (ad 1), .ref (ad 2), .ref (ad 3), .int 0, .ref (ad 4), .ref (ad 5), .int 0, .int 0, .int 0, .ref (ad 6), .int 0, .int 0, .ref (ad 7), .ref (ad 8), .int 0, .ref (ad 9), .ref (ad 10), .int 0, .int 0, .ref (ad 11), .ref (ad 12), .ref (ad 13), .ref (ad 14), .ref (ad 15), .int 0, .int 0, .int 0, .int 0, .int 0, .int 0, .int 0, .ref (ad 16), .ref (ad 17), .int 0, .ref (ad 18), .ref (ad 19), .ref (ad 20), v], iA ty (ad 1) 89, iA ty (ad 2) 89, iA ty (ad 3) 445, iA ty (ad 4) 3, iA ty (ad 5) 150, iA ty (ad 6) 89, iA ty (ad 7) 64, zA ty (ad 8) 64, iA ty (ad 9) 80, iA ty (ad 10) 80, iA ty (ad 11) 60, iA ty (ad 12) 60, iA ty (ad 13) 60, iA ty (ad 14) 60, iA ty (ad 15) 4, iA ty (ad 16) 60, iA ty (ad 17) 240, iA ty (ad 18) 8, iA ty (ad 19) 8, zA ty (ad 20) 8]
theorem long0 : lgOf 0 0 = 0 := by decide
set_option maxRecDepth 100000 in
set_option maxHeartbeats 4000000 in
theorem wd0r {ty : Nat → ClassId} {ad : Nat → Nat} : ywW ty (fun i => ([29, 40, 51, 62, 73][i]?).map ad) ad ++ mdV (.long (lgOf 0 0)) ty (fun j => ad (97 + j)) = mx (fun c d => (ad c, cellM ad ty (z0 c) d)) 0 ysh := rfl
theorem wd0 {ty : Nat → ClassId} {ad : Nat → Nat} : ywW ty (hiR (fun j => ad (27 + j))) ad ++ mdW ty (fun j => ad (97 + j)) = wd ad ty z0 := by
  have hr : hiR (fun j => ad (27 + j)) = fun i => ([29, 40, 51, 62, 73][i]?).map ad := funext (fun i => by
    match i with
    | 0 => rfl
    | 1 => rfl
    | 2 => rfl
    | 3 => rfl
    | 4 => rfl
    | n + 5 => rfl)
  have hm : mdW ty (fun j => ad (97 + j)) = mdV (.long (lgOf 0 0)) ty (fun j => ad (97 + j)) := by
    rw [long0]; rfl
  rw [hr, hm, wd_mx]
  exact wd0r
