/-! THE START: the class's first world by the contracts' numbers, and its first memory -/
def sC_tab : List Nat := [0, 1, 44, 45, 99, 100, 101, 102, 106, 107, 109, 110, 46, 47, 48, 40, 49, 52, 55, 58, 41, 103, 50, 53, 56, 59, 42, 104, 51, 54, 57, 60, 43, 105, 2, 61, 3, 62, 4, 63, 5, 64, 6, 14, 22, 30, 65, 73, 81, 89, 7, 15, 23, 31, 66, 74, 82, 90, 38, 39, 97, 98, 8, 9, 10, 11, 12, 13, 16, 17, 18, 19, 20, 21, 24, 25, 26, 27, 28, 29, 32, 33, 34, 35, 36, 37, 67, 68, 69, 70, 71, 72, 75, 76, 77, 78, 79, 80, 83, 84, 85, 86, 87, 88, 91, 92, 93, 94, 95, 96, 108]
def sC_inv : List Nat := [0, 1, 34, 36, 38, 40, 42, 50, 62, 63, 64, 65, 66, 67, 43, 51, 68, 69, 70, 71, 72, 73, 44, 52, 74, 75, 76, 77, 78, 79, 45, 53, 80, 81, 82, 83, 84, 85, 58, 59, 15, 20, 26, 32, 2, 3, 12, 13, 14, 16, 22, 28, 17, 23, 29, 18, 24, 30, 19, 25, 31, 35, 37, 39, 41, 46, 54, 86, 87, 88, 89, 90, 91, 47, 55, 92, 93, 94, 95, 96, 97, 48, 56, 98, 99, 100, 101, 102, 103, 49, 57, 104, 105, 106, 107, 108, 109, 60, 61, 4, 5, 6, 7, 21, 27, 33, 8, 9, 110, 10, 11]
def sC_o (o : Nat) : Nat := sC_tab.getD o 0
theorem sC_io : ∀ o, o < 111 → sC_inv.getD (sC_o o) 0 = o := by decide +kernel
theorem sC_lt : ∀ o, o < 111 → sC_o o < 111 := by decide +kernel
def sM0 : gx_M := fun o j =>
  if o = 0 then (if j = 10 ∨ j = 11 then -1 else 0)
  else if o = 4 then (if j = 15 then -1 else if j = 16 then 21 else 0)
  else if o = 5 then (if j = 4 then -57 else 0)
  else if o = 34 ∨ o = 35 then (if j = 3 then 10 else if j = 5 then 16 else if j = 7 then 1 else if j = 9 then -1 else 0)
  else if 58 ≤ o ∧ o < 62 then (if j = 0 then (if o = 59 ∨ o = 61 then 1 else 0) else if j = 1 ∨ j = 2 then 1 else if j = 3 then 16 else if j = 4 then 10 else 0)
  else if 62 ≤ o then (if j = 2 then 1 else 0)
  else 0
theorem sC_q {D : va_G} {H : Heap} {a : Nat} {c : ClassId} {n : Nat} {f g : Nat → Option Nat} (h : va_at D vwCl (a, .inl (c, n, .inr (.inr (.inr (.inr f))))) H) (e : ∀ j, j < n → f j = g j) : va_at D vwCl (a, .inl (c, n, .inr (.inr (.inr (.inr g))))) H := by
  have h1 : H[a]? = some (vp_cell c (n, .inr (.inr (.inr (.inr f))))) := h
  show H[a]? = some (vp_cell c (n, .inr (.inr (.inr (.inr g)))))
  rw [h1, vp_cell_q, vp_cell_q]
  have h2 : (fun j : Fin n => va_rf (f j.val)) = (fun j : Fin n => va_rf (g j.val)) := funext fun j => by rw [e j.1 j.2]
  show some ({ cls := c, slots := Array.ofFn (n := n) fun j => va_rf (f j.val), vm := .none } : Cell) = some ({ cls := c, slots := Array.ofFn (n := n) fun j => va_rf (g j.val), vm := .none } : Cell)
  rw [h2]
set_option maxHeartbeats 4000000 in
set_option maxRecDepth 20000 in
theorem fl_X3 {ca : Nat → ClassId} {ad : Nat → Nat} : PW_X3 ca ad = [(ad 0, .inr (3, [.int 0, .int 0, .int 1, .int 0, .int 0]))] := by
  unfold PW_X3
  rfl
set_option maxHeartbeats 4000000 in
set_option maxRecDepth 20000 in
theorem fl_X20 {ca : Nat → ClassId} {ad : Nat → Nat} : PW_X2 ca 0 ad = [(ad 0, .inr (2, [.int 0, .int 1, .int 1, .int 16, .int 10, .int 0]))] := by
  unfold PW_X2
  rfl
set_option maxHeartbeats 4000000 in
set_option maxRecDepth 20000 in
theorem fl_X21 {ca : Nat → ClassId} {ad : Nat → Nat} : PW_X2 ca 1 ad = [(ad 0, .inr (2, [.int 1, .int 1, .int 1, .int 16, .int 10, .int 0]))] := by
  unfold PW_X2
  rfl
set_option maxHeartbeats 4000000 in
set_option maxRecDepth 20000 in
theorem fl_X4 {ca : Nat → ClassId} {ad : Nat → Nat} : PW_X4 ca ad = [(ad 0, .inr (4, [.ref (ad 1), .ref (ad 2), .int 0, .int 0])),
    (ad 1, .inl (ca 0, 300, .inl (fun _ => 0))),
    (ad 2, .inl (ca 0, 300, .inl (fun _ => 0)))] := by
  unfold PW_X4
  rfl
set_option maxHeartbeats 4000000 in
set_option maxRecDepth 20000 in
theorem fl_X0 {ca : Nat → ClassId} {ad : Nat → Nat} : PW_X0 ca ad = [(ad 0, .inr (0, [.ref (ad 1), .int 0, .int 0, .int 0, .int 0, .int 0, .int 0])),
    (ad 1, .inl (ca 0, 300, .inl (fun _ => 0)))] := by
  unfold PW_X0
  rfl
set_option maxHeartbeats 4000000 in
set_option maxRecDepth 20000 in
theorem fl_X7 {ca : Nat → ClassId} {ad : Nat → Nat} : PW_X7 ca ad = [(ad 0, .inr (7, [.ref (ad 1)])),
    (ad 1, .inl (ca 0, 320, .inl (fun _ => 0)))] := by
  unfold PW_X7
  rfl
set_option maxHeartbeats 4000000 in
set_option maxRecDepth 20000 in
theorem fl_X6 {ca : Nat → ClassId} {ad : Nat → Nat} : PW_X6 ca ad = [(ad 0, .inr (6, [.ref (ad 1), .int 0, .int 0, .int 0, .int (-57), .int 0])),
    (ad 1, .inl (ca 0, 300, .inl (fun _ => 0)))] := by
  unfold PW_X6
  rfl
set_option maxHeartbeats 4000000 in
set_option maxRecDepth 20000 in
theorem fl_X9 {ca : Nat → ClassId} {ad : Nat → Nat} : PW_X9 ca ad = [(ad 0, .inr (9, [.ref (ad 1), .int 0])),
    (ad 1, .inl (ca 2, 6, .inr (.inr (.inr (.inr (va_up (va_up (va_up (va_up (va_up (va_up (fun _ => none) 0 (some (ad 2))) 1 (some (ad 3))) 2 (some (ad 4))) 3 (some (ad 5))) 4 (some (ad 6))) 5 (some (ad 7)))))))),
    (ad 2, .inr (3, [.int 0, .int 0, .int 1, .int 0, .int 0])),
    (ad 3, .inr (3, [.int 0, .int 0, .int 1, .int 0, .int 0])),
    (ad 4, .inr (3, [.int 0, .int 0, .int 1, .int 0, .int 0])),
    (ad 5, .inr (3, [.int 0, .int 0, .int 1, .int 0, .int 0])),
    (ad 6, .inr (3, [.int 0, .int 0, .int 1, .int 0, .int 0])),
    (ad 7, .inr (3, [.int 0, .int 0, .int 1, .int 0, .int 0]))] := by
  unfold PW_X9
  simp only [fl_X3, List.cons_append, List.nil_append]
  try rfl
set_option maxHeartbeats 4000000 in
set_option maxRecDepth 20000 in
theorem fl_X8 {ca : Nat → ClassId} {ad : Nat → Nat} : PW_X8 ca ad = [(ad 0, .inr (8, [.ref (ad 1), .ref (ad 2), .ref (ad 3), .int 10, .int 0, .int 16, .int 0, .int 1, .int 0, .int (-1)])),
    (ad 1, .inl (ca 3, 4, .inr (.inr (.inr (.inr (va_up (va_up (va_up (va_up (fun _ => none) 0 (some (ad 4))) 1 (some (ad 12))) 2 (some (ad 20))) 3 (some (ad 28)))))))),
    (ad 2, .inl (ca 4, 2, .inr (.inr (.inr (.inr (va_up (va_up (fun _ => none) 0 (some (ad 36))) 1 (some (ad 37)))))))),
    (ad 3, .inl (ca 0, 20, .inl (fun _ => 0))),
    (ad 4, .inr (9, [.ref (ad 5), .int 0])),
    (ad 5, .inl (ca 2, 6, .inr (.inr (.inr (.inr (va_up (va_up (va_up (va_up (va_up (va_up (fun _ => none) 0 (some (ad 6))) 1 (some (ad 7))) 2 (some (ad 8))) 3 (some (ad 9))) 4 (some (ad 10))) 5 (some (ad 11)))))))),
    (ad 6, .inr (3, [.int 0, .int 0, .int 1, .int 0, .int 0])),
    (ad 7, .inr (3, [.int 0, .int 0, .int 1, .int 0, .int 0])),
    (ad 8, .inr (3, [.int 0, .int 0, .int 1, .int 0, .int 0])),
    (ad 9, .inr (3, [.int 0, .int 0, .int 1, .int 0, .int 0])),
    (ad 10, .inr (3, [.int 0, .int 0, .int 1, .int 0, .int 0])),
    (ad 11, .inr (3, [.int 0, .int 0, .int 1, .int 0, .int 0])),
    (ad 12, .inr (9, [.ref (ad 13), .int 0])),
    (ad 13, .inl (ca 2, 6, .inr (.inr (.inr (.inr (va_up (va_up (va_up (va_up (va_up (va_up (fun _ => none) 0 (some (ad 14))) 1 (some (ad 15))) 2 (some (ad 16))) 3 (some (ad 17))) 4 (some (ad 18))) 5 (some (ad 19)))))))),
    (ad 14, .inr (3, [.int 0, .int 0, .int 1, .int 0, .int 0])),
    (ad 15, .inr (3, [.int 0, .int 0, .int 1, .int 0, .int 0])),
    (ad 16, .inr (3, [.int 0, .int 0, .int 1, .int 0, .int 0])),
    (ad 17, .inr (3, [.int 0, .int 0, .int 1, .int 0, .int 0])),
    (ad 18, .inr (3, [.int 0, .int 0, .int 1, .int 0, .int 0])),
    (ad 19, .inr (3, [.int 0, .int 0, .int 1, .int 0, .int 0])),
    (ad 20, .inr (9, [.ref (ad 21), .int 0])),
    (ad 21, .inl (ca 2, 6, .inr (.inr (.inr (.inr (va_up (va_up (va_up (va_up (va_up (va_up (fun _ => none) 0 (some (ad 22))) 1 (some (ad 23))) 2 (some (ad 24))) 3 (some (ad 25))) 4 (some (ad 26))) 5 (some (ad 27)))))))),
    (ad 22, .inr (3, [.int 0, .int 0, .int 1, .int 0, .int 0])),
    (ad 23, .inr (3, [.int 0, .int 0, .int 1, .int 0, .int 0])),
    (ad 24, .inr (3, [.int 0, .int 0, .int 1, .int 0, .int 0])),
    (ad 25, .inr (3, [.int 0, .int 0, .int 1, .int 0, .int 0])),
    (ad 26, .inr (3, [.int 0, .int 0, .int 1, .int 0, .int 0])),
    (ad 27, .inr (3, [.int 0, .int 0, .int 1, .int 0, .int 0])),
    (ad 28, .inr (9, [.ref (ad 29), .int 0])),
    (ad 29, .inl (ca 2, 6, .inr (.inr (.inr (.inr (va_up (va_up (va_up (va_up (va_up (va_up (fun _ => none) 0 (some (ad 30))) 1 (some (ad 31))) 2 (some (ad 32))) 3 (some (ad 33))) 4 (some (ad 34))) 5 (some (ad 35)))))))),
    (ad 30, .inr (3, [.int 0, .int 0, .int 1, .int 0, .int 0])),
    (ad 31, .inr (3, [.int 0, .int 0, .int 1, .int 0, .int 0])),
    (ad 32, .inr (3, [.int 0, .int 0, .int 1, .int 0, .int 0])),
    (ad 33, .inr (3, [.int 0, .int 0, .int 1, .int 0, .int 0])),
    (ad 34, .inr (3, [.int 0, .int 0, .int 1, .int 0, .int 0])),
    (ad 35, .inr (3, [.int 0, .int 0, .int 1, .int 0, .int 0])),
    (ad 36, .inr (2, [.int 0, .int 1, .int 1, .int 16, .int 10, .int 0])),
    (ad 37, .inr (2, [.int 1, .int 1, .int 1, .int 16, .int 10, .int 0]))] := by
  unfold PW_X8
  simp only [fl_X9, fl_X20, fl_X21, List.cons_append, List.nil_append]
  try rfl
set_option maxHeartbeats 4000000 in
set_option maxRecDepth 20000 in
theorem fl_X5 {ca : Nat → ClassId} {ad : Nat → Nat} : PW_X5 ca ad = [(ad 0, .inr (5, [.ref (ad 1), .ref (ad 3), .int 0, .int 0, .int 0, .int 0, .int 0, .int 0, .int 0, .int 0, .int 0, .int 0, .int 0, .int 0, .int 0, .int (-1), .ref (ad 4)])),
    (ad 1, .inr (6, [.ref (ad 2), .int 0, .int 0, .int 0, .int (-57), .int 0])),
    (ad 2, .inl (ca 0, 300, .inl (fun _ => 0))),
    (ad 3, .inl (ca 0, 300, .inl (fun _ => 0))),
    (ad 4, .inr (4, [.ref (ad 5), .ref (ad 6), .int 0, .int 0])),
    (ad 5, .inl (ca 0, 300, .inl (fun _ => 0))),
    (ad 6, .inl (ca 0, 300, .inl (fun _ => 0)))] := by
  unfold PW_X5
  simp only [fl_X6, fl_X4, List.cons_append, List.nil_append]
  try rfl
set_option maxHeartbeats 4000000 in
set_option maxRecDepth 20000 in
theorem fl_X1 {ca : Nat → ClassId} {ad : Nat → Nat} : PW_X1 ca ad = [(ad 0, .inr (1, [.ref (ad 1), .ref (ad 39), .ref (ad 40), .ref (ad 43), .ref (ad 45), .int 0, .int 0, .int 0, .int 0])),
    (ad 1, .inr (8, [.ref (ad 2), .ref (ad 3), .ref (ad 4), .int 10, .int 0, .int 16, .int 0, .int 1, .int 0, .int (-1)])),
    (ad 2, .inl (ca 3, 4, .inr (.inr (.inr (.inr (va_up (va_up (va_up (va_up (fun _ => none) 0 (some (ad 5))) 1 (some (ad 13))) 2 (some (ad 21))) 3 (some (ad 29)))))))),
    (ad 3, .inl (ca 4, 2, .inr (.inr (.inr (.inr (va_up (va_up (fun _ => none) 0 (some (ad 37))) 1 (some (ad 38)))))))),
    (ad 4, .inl (ca 0, 20, .inl (fun _ => 0))),
    (ad 5, .inr (9, [.ref (ad 6), .int 0])),
    (ad 6, .inl (ca 2, 6, .inr (.inr (.inr (.inr (va_up (va_up (va_up (va_up (va_up (va_up (fun _ => none) 0 (some (ad 7))) 1 (some (ad 8))) 2 (some (ad 9))) 3 (some (ad 10))) 4 (some (ad 11))) 5 (some (ad 12)))))))),
    (ad 7, .inr (3, [.int 0, .int 0, .int 1, .int 0, .int 0])),
    (ad 8, .inr (3, [.int 0, .int 0, .int 1, .int 0, .int 0])),
    (ad 9, .inr (3, [.int 0, .int 0, .int 1, .int 0, .int 0])),
    (ad 10, .inr (3, [.int 0, .int 0, .int 1, .int 0, .int 0])),
    (ad 11, .inr (3, [.int 0, .int 0, .int 1, .int 0, .int 0])),
    (ad 12, .inr (3, [.int 0, .int 0, .int 1, .int 0, .int 0])),
    (ad 13, .inr (9, [.ref (ad 14), .int 0])),
    (ad 14, .inl (ca 2, 6, .inr (.inr (.inr (.inr (va_up (va_up (va_up (va_up (va_up (va_up (fun _ => none) 0 (some (ad 15))) 1 (some (ad 16))) 2 (some (ad 17))) 3 (some (ad 18))) 4 (some (ad 19))) 5 (some (ad 20)))))))),
    (ad 15, .inr (3, [.int 0, .int 0, .int 1, .int 0, .int 0])),
    (ad 16, .inr (3, [.int 0, .int 0, .int 1, .int 0, .int 0])),
    (ad 17, .inr (3, [.int 0, .int 0, .int 1, .int 0, .int 0])),
    (ad 18, .inr (3, [.int 0, .int 0, .int 1, .int 0, .int 0])),
    (ad 19, .inr (3, [.int 0, .int 0, .int 1, .int 0, .int 0])),
    (ad 20, .inr (3, [.int 0, .int 0, .int 1, .int 0, .int 0])),
    (ad 21, .inr (9, [.ref (ad 22), .int 0])),
    (ad 22, .inl (ca 2, 6, .inr (.inr (.inr (.inr (va_up (va_up (va_up (va_up (va_up (va_up (fun _ => none) 0 (some (ad 23))) 1 (some (ad 24))) 2 (some (ad 25))) 3 (some (ad 26))) 4 (some (ad 27))) 5 (some (ad 28)))))))),
    (ad 23, .inr (3, [.int 0, .int 0, .int 1, .int 0, .int 0])),
    (ad 24, .inr (3, [.int 0, .int 0, .int 1, .int 0, .int 0])),
    (ad 25, .inr (3, [.int 0, .int 0, .int 1, .int 0, .int 0])),
    (ad 26, .inr (3, [.int 0, .int 0, .int 1, .int 0, .int 0])),
    (ad 27, .inr (3, [.int 0, .int 0, .int 1, .int 0, .int 0])),
    (ad 28, .inr (3, [.int 0, .int 0, .int 1, .int 0, .int 0])),
    (ad 29, .inr (9, [.ref (ad 30), .int 0])),
    (ad 30, .inl (ca 2, 6, .inr (.inr (.inr (.inr (va_up (va_up (va_up (va_up (va_up (va_up (fun _ => none) 0 (some (ad 31))) 1 (some (ad 32))) 2 (some (ad 33))) 3 (some (ad 34))) 4 (some (ad 35))) 5 (some (ad 36)))))))),
    (ad 31, .inr (3, [.int 0, .int 0, .int 1, .int 0, .int 0])),
    (ad 32, .inr (3, [.int 0, .int 0, .int 1, .int 0, .int 0])),
    (ad 33, .inr (3, [.int 0, .int 0, .int 1, .int 0, .int 0])),
    (ad 34, .inr (3, [.int 0, .int 0, .int 1, .int 0, .int 0])),
    (ad 35, .inr (3, [.int 0, .int 0, .int 1, .int 0, .int 0])),
    (ad 36, .inr (3, [.int 0, .int 0, .int 1, .int 0, .int 0])),
    (ad 37, .inr (2, [.int 0, .int 1, .int 1, .int 16, .int 10, .int 0])),
    (ad 38, .inr (2, [.int 1, .int 1, .int 1, .int 16, .int 10, .int 0])),
    (ad 39, .inl (ca 5, 4, .inr (.inr (.inr (.inr (va_up (va_up (va_up (va_up (fun _ => none) 0 (some (ad 48))) 1 (some (ad 51))) 2 (some (ad 54))) 3 (some (ad 57)))))))),
    (ad 40, .inr (4, [.ref (ad 41), .ref (ad 42), .int 0, .int 0])),
    (ad 41, .inl (ca 0, 300, .inl (fun _ => 0))),
    (ad 42, .inl (ca 0, 300, .inl (fun _ => 0))),
    (ad 43, .inr (0, [.ref (ad 44), .int 0, .int 0, .int 0, .int 0, .int 0, .int 0])),
    (ad 44, .inl (ca 0, 300, .inl (fun _ => 0))),
    (ad 45, .inl (ca 1, 2, .inr (.inr (.inr (.inr (fun i => if i < 2 then some (ad (46 + i)) else none)))))),
    (ad 46, .inl (ca 0, 2000, .inl (fun _ => 0))),
    (ad 47, .inl (ca 0, 2000, .inl (fun _ => 0))),
    (ad 48, .inr (4, [.ref (ad 49), .ref (ad 50), .int 0, .int 0])),
    (ad 49, .inl (ca 0, 300, .inl (fun _ => 0))),
    (ad 50, .inl (ca 0, 300, .inl (fun _ => 0))),
    (ad 51, .inr (4, [.ref (ad 52), .ref (ad 53), .int 0, .int 0])),
    (ad 52, .inl (ca 0, 300, .inl (fun _ => 0))),
    (ad 53, .inl (ca 0, 300, .inl (fun _ => 0))),
    (ad 54, .inr (4, [.ref (ad 55), .ref (ad 56), .int 0, .int 0])),
    (ad 55, .inl (ca 0, 300, .inl (fun _ => 0))),
    (ad 56, .inl (ca 0, 300, .inl (fun _ => 0))),
    (ad 57, .inr (4, [.ref (ad 58), .ref (ad 59), .int 0, .int 0])),
    (ad 58, .inl (ca 0, 300, .inl (fun _ => 0))),
    (ad 59, .inl (ca 0, 300, .inl (fun _ => 0)))] := by
  unfold PW_X1
  simp only [fl_X8, fl_X4, fl_X0, List.cons_append, List.nil_append]
  try rfl
set_option maxHeartbeats 4000000 in
set_option maxRecDepth 20000 in
theorem fl_X10 {ca : Nat → ClassId} {ad : Nat → Nat} : PW_X10 ca ad = [(ad 0, .inr (10, [.ref (ad 1), .ref (ad 2), .ref (ad 61), .ref (ad 99), .ref (ad 101), .ref (ad 106), .ref (ad 108), .ref (ad 109), .ref (ad 110), .int 0, .int (-1), .int (-1)])),
    (ad 1, .inr (1, [.ref (ad 2), .ref (ad 40), .ref (ad 41), .ref (ad 44), .ref (ad 46), .int 0, .int 0, .int 0, .int 0])),
    (ad 2, .inr (8, [.ref (ad 3), .ref (ad 4), .ref (ad 5), .int 10, .int 0, .int 16, .int 0, .int 1, .int 0, .int (-1)])),
    (ad 3, .inl (ca 3, 4, .inr (.inr (.inr (.inr (va_up (va_up (va_up (va_up (fun _ => none) 0 (some (ad 6))) 1 (some (ad 14))) 2 (some (ad 22))) 3 (some (ad 30)))))))),
    (ad 4, .inl (ca 4, 2, .inr (.inr (.inr (.inr (va_up (va_up (fun _ => none) 0 (some (ad 38))) 1 (some (ad 39)))))))),
    (ad 5, .inl (ca 0, 20, .inl (fun _ => 0))),
    (ad 6, .inr (9, [.ref (ad 7), .int 0])),
    (ad 7, .inl (ca 2, 6, .inr (.inr (.inr (.inr (va_up (va_up (va_up (va_up (va_up (va_up (fun _ => none) 0 (some (ad 8))) 1 (some (ad 9))) 2 (some (ad 10))) 3 (some (ad 11))) 4 (some (ad 12))) 5 (some (ad 13)))))))),
    (ad 8, .inr (3, [.int 0, .int 0, .int 1, .int 0, .int 0])),
    (ad 9, .inr (3, [.int 0, .int 0, .int 1, .int 0, .int 0])),
    (ad 10, .inr (3, [.int 0, .int 0, .int 1, .int 0, .int 0])),
    (ad 11, .inr (3, [.int 0, .int 0, .int 1, .int 0, .int 0])),
    (ad 12, .inr (3, [.int 0, .int 0, .int 1, .int 0, .int 0])),
    (ad 13, .inr (3, [.int 0, .int 0, .int 1, .int 0, .int 0])),
    (ad 14, .inr (9, [.ref (ad 15), .int 0])),
    (ad 15, .inl (ca 2, 6, .inr (.inr (.inr (.inr (va_up (va_up (va_up (va_up (va_up (va_up (fun _ => none) 0 (some (ad 16))) 1 (some (ad 17))) 2 (some (ad 18))) 3 (some (ad 19))) 4 (some (ad 20))) 5 (some (ad 21)))))))),
    (ad 16, .inr (3, [.int 0, .int 0, .int 1, .int 0, .int 0])),
    (ad 17, .inr (3, [.int 0, .int 0, .int 1, .int 0, .int 0])),
    (ad 18, .inr (3, [.int 0, .int 0, .int 1, .int 0, .int 0])),
    (ad 19, .inr (3, [.int 0, .int 0, .int 1, .int 0, .int 0])),
    (ad 20, .inr (3, [.int 0, .int 0, .int 1, .int 0, .int 0])),
    (ad 21, .inr (3, [.int 0, .int 0, .int 1, .int 0, .int 0])),
    (ad 22, .inr (9, [.ref (ad 23), .int 0])),
    (ad 23, .inl (ca 2, 6, .inr (.inr (.inr (.inr (va_up (va_up (va_up (va_up (va_up (va_up (fun _ => none) 0 (some (ad 24))) 1 (some (ad 25))) 2 (some (ad 26))) 3 (some (ad 27))) 4 (some (ad 28))) 5 (some (ad 29)))))))),
    (ad 24, .inr (3, [.int 0, .int 0, .int 1, .int 0, .int 0])),
    (ad 25, .inr (3, [.int 0, .int 0, .int 1, .int 0, .int 0])),
    (ad 26, .inr (3, [.int 0, .int 0, .int 1, .int 0, .int 0])),
    (ad 27, .inr (3, [.int 0, .int 0, .int 1, .int 0, .int 0])),
    (ad 28, .inr (3, [.int 0, .int 0, .int 1, .int 0, .int 0])),
    (ad 29, .inr (3, [.int 0, .int 0, .int 1, .int 0, .int 0])),
    (ad 30, .inr (9, [.ref (ad 31), .int 0])),
    (ad 31, .inl (ca 2, 6, .inr (.inr (.inr (.inr (va_up (va_up (va_up (va_up (va_up (va_up (fun _ => none) 0 (some (ad 32))) 1 (some (ad 33))) 2 (some (ad 34))) 3 (some (ad 35))) 4 (some (ad 36))) 5 (some (ad 37)))))))),
    (ad 32, .inr (3, [.int 0, .int 0, .int 1, .int 0, .int 0])),
    (ad 33, .inr (3, [.int 0, .int 0, .int 1, .int 0, .int 0])),
    (ad 34, .inr (3, [.int 0, .int 0, .int 1, .int 0, .int 0])),
    (ad 35, .inr (3, [.int 0, .int 0, .int 1, .int 0, .int 0])),
    (ad 36, .inr (3, [.int 0, .int 0, .int 1, .int 0, .int 0])),
    (ad 37, .inr (3, [.int 0, .int 0, .int 1, .int 0, .int 0])),
    (ad 38, .inr (2, [.int 0, .int 1, .int 1, .int 16, .int 10, .int 0])),
    (ad 39, .inr (2, [.int 1, .int 1, .int 1, .int 16, .int 10, .int 0])),
    (ad 40, .inl (ca 5, 4, .inr (.inr (.inr (.inr (va_up (va_up (va_up (va_up (fun _ => none) 0 (some (ad 49))) 1 (some (ad 52))) 2 (some (ad 55))) 3 (some (ad 58)))))))),
    (ad 41, .inr (4, [.ref (ad 42), .ref (ad 43), .int 0, .int 0])),
    (ad 42, .inl (ca 0, 300, .inl (fun _ => 0))),
    (ad 43, .inl (ca 0, 300, .inl (fun _ => 0))),
    (ad 44, .inr (0, [.ref (ad 45), .int 0, .int 0, .int 0, .int 0, .int 0, .int 0])),
    (ad 45, .inl (ca 0, 300, .inl (fun _ => 0))),
    (ad 46, .inl (ca 1, 2, .inr (.inr (.inr (.inr (fun i => if i < 2 then some (ad (1 + (46 + i)) ) else none)))))),
    (ad 47, .inl (ca 0, 2000, .inl (fun _ => 0))),
    (ad 48, .inl (ca 0, 2000, .inl (fun _ => 0))),
    (ad 49, .inr (4, [.ref (ad 50), .ref (ad 51), .int 0, .int 0])),
    (ad 50, .inl (ca 0, 300, .inl (fun _ => 0))),
    (ad 51, .inl (ca 0, 300, .inl (fun _ => 0))),
    (ad 52, .inr (4, [.ref (ad 53), .ref (ad 54), .int 0, .int 0])),
    (ad 53, .inl (ca 0, 300, .inl (fun _ => 0))),
    (ad 54, .inl (ca 0, 300, .inl (fun _ => 0))),
    (ad 55, .inr (4, [.ref (ad 56), .ref (ad 57), .int 0, .int 0])),
    (ad 56, .inl (ca 0, 300, .inl (fun _ => 0))),
    (ad 57, .inl (ca 0, 300, .inl (fun _ => 0))),
    (ad 58, .inr (4, [.ref (ad 59), .ref (ad 60), .int 0, .int 0])),
    (ad 59, .inl (ca 0, 300, .inl (fun _ => 0))),
    (ad 60, .inl (ca 0, 300, .inl (fun _ => 0))),
    (ad 61, .inr (8, [.ref (ad 62), .ref (ad 63), .ref (ad 64), .int 10, .int 0, .int 16, .int 0, .int 1, .int 0, .int (-1)])),
    (ad 62, .inl (ca 3, 4, .inr (.inr (.inr (.inr (va_up (va_up (va_up (va_up (fun _ => none) 0 (some (ad 65))) 1 (some (ad 73))) 2 (some (ad 81))) 3 (some (ad 89)))))))),
    (ad 63, .inl (ca 4, 2, .inr (.inr (.inr (.inr (va_up (va_up (fun _ => none) 0 (some (ad 97))) 1 (some (ad 98)))))))),
    (ad 64, .inl (ca 0, 20, .inl (fun _ => 0))),
    (ad 65, .inr (9, [.ref (ad 66), .int 0])),
    (ad 66, .inl (ca 2, 6, .inr (.inr (.inr (.inr (va_up (va_up (va_up (va_up (va_up (va_up (fun _ => none) 0 (some (ad 67))) 1 (some (ad 68))) 2 (some (ad 69))) 3 (some (ad 70))) 4 (some (ad 71))) 5 (some (ad 72)))))))),
    (ad 67, .inr (3, [.int 0, .int 0, .int 1, .int 0, .int 0])),
    (ad 68, .inr (3, [.int 0, .int 0, .int 1, .int 0, .int 0])),
    (ad 69, .inr (3, [.int 0, .int 0, .int 1, .int 0, .int 0])),
    (ad 70, .inr (3, [.int 0, .int 0, .int 1, .int 0, .int 0])),
    (ad 71, .inr (3, [.int 0, .int 0, .int 1, .int 0, .int 0])),
    (ad 72, .inr (3, [.int 0, .int 0, .int 1, .int 0, .int 0])),
    (ad 73, .inr (9, [.ref (ad 74), .int 0])),
    (ad 74, .inl (ca 2, 6, .inr (.inr (.inr (.inr (va_up (va_up (va_up (va_up (va_up (va_up (fun _ => none) 0 (some (ad 75))) 1 (some (ad 76))) 2 (some (ad 77))) 3 (some (ad 78))) 4 (some (ad 79))) 5 (some (ad 80)))))))),
    (ad 75, .inr (3, [.int 0, .int 0, .int 1, .int 0, .int 0])),
    (ad 76, .inr (3, [.int 0, .int 0, .int 1, .int 0, .int 0])),
    (ad 77, .inr (3, [.int 0, .int 0, .int 1, .int 0, .int 0])),
    (ad 78, .inr (3, [.int 0, .int 0, .int 1, .int 0, .int 0])),
    (ad 79, .inr (3, [.int 0, .int 0, .int 1, .int 0, .int 0])),
    (ad 80, .inr (3, [.int 0, .int 0, .int 1, .int 0, .int 0])),
    (ad 81, .inr (9, [.ref (ad 82), .int 0])),
    (ad 82, .inl (ca 2, 6, .inr (.inr (.inr (.inr (va_up (va_up (va_up (va_up (va_up (va_up (fun _ => none) 0 (some (ad 83))) 1 (some (ad 84))) 2 (some (ad 85))) 3 (some (ad 86))) 4 (some (ad 87))) 5 (some (ad 88)))))))),
    (ad 83, .inr (3, [.int 0, .int 0, .int 1, .int 0, .int 0])),
    (ad 84, .inr (3, [.int 0, .int 0, .int 1, .int 0, .int 0])),
    (ad 85, .inr (3, [.int 0, .int 0, .int 1, .int 0, .int 0])),
    (ad 86, .inr (3, [.int 0, .int 0, .int 1, .int 0, .int 0])),
    (ad 87, .inr (3, [.int 0, .int 0, .int 1, .int 0, .int 0])),
    (ad 88, .inr (3, [.int 0, .int 0, .int 1, .int 0, .int 0])),
    (ad 89, .inr (9, [.ref (ad 90), .int 0])),
    (ad 90, .inl (ca 2, 6, .inr (.inr (.inr (.inr (va_up (va_up (va_up (va_up (va_up (va_up (fun _ => none) 0 (some (ad 91))) 1 (some (ad 92))) 2 (some (ad 93))) 3 (some (ad 94))) 4 (some (ad 95))) 5 (some (ad 96)))))))),
    (ad 91, .inr (3, [.int 0, .int 0, .int 1, .int 0, .int 0])),
    (ad 92, .inr (3, [.int 0, .int 0, .int 1, .int 0, .int 0])),
    (ad 93, .inr (3, [.int 0, .int 0, .int 1, .int 0, .int 0])),
    (ad 94, .inr (3, [.int 0, .int 0, .int 1, .int 0, .int 0])),
    (ad 95, .inr (3, [.int 0, .int 0, .int 1, .int 0, .int 0])),
    (ad 96, .inr (3, [.int 0, .int 0, .int 1, .int 0, .int 0])),
    (ad 97, .inr (2, [.int 0, .int 1, .int 1, .int 16, .int 10, .int 0])),
    (ad 98, .inr (2, [.int 1, .int 1, .int 1, .int 16, .int 10, .int 0])),
    (ad 99, .inr (5, [.ref (ad 100), .ref (ad 102), .int 0, .int 0, .int 0, .int 0, .int 0, .int 0, .int 0, .int 0, .int 0, .int 0, .int 0, .int 0, .int 0, .int (-1), .ref (ad 103)])),
    (ad 100, .inr (6, [.ref (ad 101), .int 0, .int 0, .int 0, .int (-57), .int 0])),
    (ad 101, .inl (ca 0, 300, .inl (fun _ => 0))),
    (ad 102, .inl (ca 0, 300, .inl (fun _ => 0))),
    (ad 103, .inr (4, [.ref (ad 104), .ref (ad 105), .int 0, .int 0])),
    (ad 104, .inl (ca 0, 300, .inl (fun _ => 0))),
    (ad 105, .inl (ca 0, 300, .inl (fun _ => 0))),
    (ad 106, .inr (7, [.ref (ad 107)])),
    (ad 107, .inl (ca 0, 320, .inl (fun _ => 0))),
    (ad 108, .inr (3, [.int 0, .int 0, .int 1, .int 0, .int 0])),
    (ad 109, .inl (ca 0, 20, .inl (fun _ => 0))),
    (ad 110, .inl (ca 0, 20, .inl (fun _ => 0)))] := by
  unfold PW_X10
  simp only [fl_X1, fl_X8, fl_X5, fl_X7, fl_X3, List.cons_append, List.nil_append]
  try rfl
set_option maxHeartbeats 4000000 in
set_option maxRecDepth 20000 in
theorem sC_at0 {ca : Nat → ClassId} {A : Nat → Nat} {D : va_G} {H : Heap} (hP : va_P D vwCl [(A 0, .inr (10, [.ref (A 1), .ref (A 2), .ref (A 61), .ref (A 99), .ref (A 101), .ref (A 106), .ref (A 108), .ref (A 109), .ref (A 110), .int 0, .int (-1), .int (-1)])), (A 1, .inr (1, [.ref (A 2), .ref (A 40), .ref (A 41), .ref (A 44), .ref (A 46), .int 0, .int 0, .int 0, .int 0])), (A 2, .inr (8, [.ref (A 3), .ref (A 4), .ref (A 5), .int 10, .int 0, .int 16, .int 0, .int 1, .int 0, .int (-1)])), (A 3, .inl (ca 3, 4, .inr (.inr (.inr (.inr (va_up (va_up (va_up (va_up (fun _ => none) 0 (some (A 6))) 1 (some (A 14))) 2 (some (A 22))) 3 (some (A 30)))))))), (A 4, .inl (ca 4, 2, .inr (.inr (.inr (.inr (va_up (va_up (fun _ => none) 0 (some (A 38))) 1 (some (A 39)))))))), (A 5, .inl (ca 0, 20, .inl (fun _ => 0))), (A 6, .inr (9, [.ref (A 7), .int 0])), (A 7, .inl (ca 2, 6, .inr (.inr (.inr (.inr (va_up (va_up (va_up (va_up (va_up (va_up (fun _ => none) 0 (some (A 8))) 1 (some (A 9))) 2 (some (A 10))) 3 (some (A 11))) 4 (some (A 12))) 5 (some (A 13)))))))), (A 8, .inr (3, [.int 0, .int 0, .int 1, .int 0, .int 0])), (A 9, .inr (3, [.int 0, .int 0, .int 1, .int 0, .int 0])), (A 10, .inr (3, [.int 0, .int 0, .int 1, .int 0, .int 0])), (A 11, .inr (3, [.int 0, .int 0, .int 1, .int 0, .int 0])), (A 12, .inr (3, [.int 0, .int 0, .int 1, .int 0, .int 0])), (A 13, .inr (3, [.int 0, .int 0, .int 1, .int 0, .int 0])), (A 14, .inr (9, [.ref (A 15), .int 0])), (A 15, .inl (ca 2, 6, .inr (.inr (.inr (.inr (va_up (va_up (va_up (va_up (va_up (va_up (fun _ => none) 0 (some (A 16))) 1 (some (A 17))) 2 (some (A 18))) 3 (some (A 19))) 4 (some (A 20))) 5 (some (A 21)))))))), (A 16, .inr (3, [.int 0, .int 0, .int 1, .int 0, .int 0])), (A 17, .inr (3, [.int 0, .int 0, .int 1, .int 0, .int 0])), (A 18, .inr (3, [.int 0, .int 0, .int 1, .int 0, .int 0])), (A 19, .inr (3, [.int 0, .int 0, .int 1, .int 0, .int 0])), (A 20, .inr (3, [.int 0, .int 0, .int 1, .int 0, .int 0])), (A 21, .inr (3, [.int 0, .int 0, .int 1, .int 0, .int 0])), (A 22, .inr (9, [.ref (A 23), .int 0])), (A 23, .inl (ca 2, 6, .inr (.inr (.inr (.inr (va_up (va_up (va_up (va_up (va_up (va_up (fun _ => none) 0 (some (A 24))) 1 (some (A 25))) 2 (some (A 26))) 3 (some (A 27))) 4 (some (A 28))) 5 (some (A 29)))))))), (A 24, .inr (3, [.int 0, .int 0, .int 1, .int 0, .int 0])), (A 25, .inr (3, [.int 0, .int 0, .int 1, .int 0, .int 0])), (A 26, .inr (3, [.int 0, .int 0, .int 1, .int 0, .int 0])), (A 27, .inr (3, [.int 0, .int 0, .int 1, .int 0, .int 0])), (A 28, .inr (3, [.int 0, .int 0, .int 1, .int 0, .int 0])), (A 29, .inr (3, [.int 0, .int 0, .int 1, .int 0, .int 0])), (A 30, .inr (9, [.ref (A 31), .int 0])), (A 31, .inl (ca 2, 6, .inr (.inr (.inr (.inr (va_up (va_up (va_up (va_up (va_up (va_up (fun _ => none) 0 (some (A 32))) 1 (some (A 33))) 2 (some (A 34))) 3 (some (A 35))) 4 (some (A 36))) 5 (some (A 37)))))))), (A 32, .inr (3, [.int 0, .int 0, .int 1, .int 0, .int 0])), (A 33, .inr (3, [.int 0, .int 0, .int 1, .int 0, .int 0])), (A 34, .inr (3, [.int 0, .int 0, .int 1, .int 0, .int 0])), (A 35, .inr (3, [.int 0, .int 0, .int 1, .int 0, .int 0])), (A 36, .inr (3, [.int 0, .int 0, .int 1, .int 0, .int 0])), (A 37, .inr (3, [.int 0, .int 0, .int 1, .int 0, .int 0])), (A 38, .inr (2, [.int 0, .int 1, .int 1, .int 16, .int 10, .int 0])), (A 39, .inr (2, [.int 1, .int 1, .int 1, .int 16, .int 10, .int 0])), (A 40, .inl (ca 5, 4, .inr (.inr (.inr (.inr (va_up (va_up (va_up (va_up (fun _ => none) 0 (some (A 49))) 1 (some (A 52))) 2 (some (A 55))) 3 (some (A 58)))))))), (A 41, .inr (4, [.ref (A 42), .ref (A 43), .int 0, .int 0])), (A 42, .inl (ca 0, 300, .inl (fun _ => 0))), (A 43, .inl (ca 0, 300, .inl (fun _ => 0))), (A 44, .inr (0, [.ref (A 45), .int 0, .int 0, .int 0, .int 0, .int 0, .int 0])), (A 45, .inl (ca 0, 300, .inl (fun _ => 0))), (A 46, .inl (ca 1, 2, .inr (.inr (.inr (.inr (fun i => if i < 2 then some (A (1 + (46 + i)) ) else none)))))), (A 47, .inl (ca 0, 2000, .inl (fun _ => 0))), (A 48, .inl (ca 0, 2000, .inl (fun _ => 0))), (A 49, .inr (4, [.ref (A 50), .ref (A 51), .int 0, .int 0])), (A 50, .inl (ca 0, 300, .inl (fun _ => 0))), (A 51, .inl (ca 0, 300, .inl (fun _ => 0))), (A 52, .inr (4, [.ref (A 53), .ref (A 54), .int 0, .int 0])), (A 53, .inl (ca 0, 300, .inl (fun _ => 0))), (A 54, .inl (ca 0, 300, .inl (fun _ => 0))), (A 55, .inr (4, [.ref (A 56), .ref (A 57), .int 0, .int 0])), (A 56, .inl (ca 0, 300, .inl (fun _ => 0))), (A 57, .inl (ca 0, 300, .inl (fun _ => 0))), (A 58, .inr (4, [.ref (A 59), .ref (A 60), .int 0, .int 0])), (A 59, .inl (ca 0, 300, .inl (fun _ => 0))), (A 60, .inl (ca 0, 300, .inl (fun _ => 0))), (A 61, .inr (8, [.ref (A 62), .ref (A 63), .ref (A 64), .int 10, .int 0, .int 16, .int 0, .int 1, .int 0, .int (-1)])), (A 62, .inl (ca 3, 4, .inr (.inr (.inr (.inr (va_up (va_up (va_up (va_up (fun _ => none) 0 (some (A 65))) 1 (some (A 73))) 2 (some (A 81))) 3 (some (A 89)))))))), (A 63, .inl (ca 4, 2, .inr (.inr (.inr (.inr (va_up (va_up (fun _ => none) 0 (some (A 97))) 1 (some (A 98)))))))), (A 64, .inl (ca 0, 20, .inl (fun _ => 0))), (A 65, .inr (9, [.ref (A 66), .int 0])), (A 66, .inl (ca 2, 6, .inr (.inr (.inr (.inr (va_up (va_up (va_up (va_up (va_up (va_up (fun _ => none) 0 (some (A 67))) 1 (some (A 68))) 2 (some (A 69))) 3 (some (A 70))) 4 (some (A 71))) 5 (some (A 72)))))))), (A 67, .inr (3, [.int 0, .int 0, .int 1, .int 0, .int 0])), (A 68, .inr (3, [.int 0, .int 0, .int 1, .int 0, .int 0])), (A 69, .inr (3, [.int 0, .int 0, .int 1, .int 0, .int 0])), (A 70, .inr (3, [.int 0, .int 0, .int 1, .int 0, .int 0])), (A 71, .inr (3, [.int 0, .int 0, .int 1, .int 0, .int 0])), (A 72, .inr (3, [.int 0, .int 0, .int 1, .int 0, .int 0])), (A 73, .inr (9, [.ref (A 74), .int 0])), (A 74, .inl (ca 2, 6, .inr (.inr (.inr (.inr (va_up (va_up (va_up (va_up (va_up (va_up (fun _ => none) 0 (some (A 75))) 1 (some (A 76))) 2 (some (A 77))) 3 (some (A 78))) 4 (some (A 79))) 5 (some (A 80)))))))), (A 75, .inr (3, [.int 0, .int 0, .int 1, .int 0, .int 0])), (A 76, .inr (3, [.int 0, .int 0, .int 1, .int 0, .int 0])), (A 77, .inr (3, [.int 0, .int 0, .int 1, .int 0, .int 0])), (A 78, .inr (3, [.int 0, .int 0, .int 1, .int 0, .int 0])), (A 79, .inr (3, [.int 0, .int 0, .int 1, .int 0, .int 0])), (A 80, .inr (3, [.int 0, .int 0, .int 1, .int 0, .int 0])), (A 81, .inr (9, [.ref (A 82), .int 0])), (A 82, .inl (ca 2, 6, .inr (.inr (.inr (.inr (va_up (va_up (va_up (va_up (va_up (va_up (fun _ => none) 0 (some (A 83))) 1 (some (A 84))) 2 (some (A 85))) 3 (some (A 86))) 4 (some (A 87))) 5 (some (A 88)))))))), (A 83, .inr (3, [.int 0, .int 0, .int 1, .int 0, .int 0])), (A 84, .inr (3, [.int 0, .int 0, .int 1, .int 0, .int 0])), (A 85, .inr (3, [.int 0, .int 0, .int 1, .int 0, .int 0])), (A 86, .inr (3, [.int 0, .int 0, .int 1, .int 0, .int 0])), (A 87, .inr (3, [.int 0, .int 0, .int 1, .int 0, .int 0])), (A 88, .inr (3, [.int 0, .int 0, .int 1, .int 0, .int 0])), (A 89, .inr (9, [.ref (A 90), .int 0])), (A 90, .inl (ca 2, 6, .inr (.inr (.inr (.inr (va_up (va_up (va_up (va_up (va_up (va_up (fun _ => none) 0 (some (A 91))) 1 (some (A 92))) 2 (some (A 93))) 3 (some (A 94))) 4 (some (A 95))) 5 (some (A 96)))))))), (A 91, .inr (3, [.int 0, .int 0, .int 1, .int 0, .int 0])), (A 92, .inr (3, [.int 0, .int 0, .int 1, .int 0, .int 0])), (A 93, .inr (3, [.int 0, .int 0, .int 1, .int 0, .int 0])), (A 94, .inr (3, [.int 0, .int 0, .int 1, .int 0, .int 0])), (A 95, .inr (3, [.int 0, .int 0, .int 1, .int 0, .int 0])), (A 96, .inr (3, [.int 0, .int 0, .int 1, .int 0, .int 0])), (A 97, .inr (2, [.int 0, .int 1, .int 1, .int 16, .int 10, .int 0])), (A 98, .inr (2, [.int 1, .int 1, .int 1, .int 16, .int 10, .int 0])), (A 99, .inr (5, [.ref (A 100), .ref (A 102), .int 0, .int 0, .int 0, .int 0, .int 0, .int 0, .int 0, .int 0, .int 0, .int 0, .int 0, .int 0, .int 0, .int (-1), .ref (A 103)])), (A 100, .inr (6, [.ref (A 101), .int 0, .int 0, .int 0, .int (-57), .int 0])), (A 101, .inl (ca 0, 300, .inl (fun _ => 0))), (A 102, .inl (ca 0, 300, .inl (fun _ => 0))), (A 103, .inr (4, [.ref (A 104), .ref (A 105), .int 0, .int 0])), (A 104, .inl (ca 0, 300, .inl (fun _ => 0))), (A 105, .inl (ca 0, 300, .inl (fun _ => 0))), (A 106, .inr (7, [.ref (A 107)])), (A 107, .inl (ca 0, 320, .inl (fun _ => 0))), (A 108, .inr (3, [.int 0, .int 0, .int 1, .int 0, .int 0])), (A 109, .inl (ca 0, 20, .inl (fun _ => 0))), (A 110, .inl (ca 0, 20, .inl (fun _ => 0)))] H) : ∀ o, o < 111 → va_at D vwCl (A (sC_o o), gx_cC ca (fun k => A (sC_o k)) o (sM0 o)) H
  | 0, _ => hP 0 _ rfl
  | 1, _ => hP 1 _ rfl
  | 2, _ => hP 44 _ rfl
  | 3, _ => hP 45 _ rfl
  | 4, _ => hP 99 _ rfl
  | 5, _ => hP 100 _ rfl
  | 6, _ => hP 101 _ rfl
  | 7, _ => hP 102 _ rfl
  | 8, _ => hP 106 _ rfl
  | 9, _ => hP 107 _ rfl
  | 10, _ => hP 109 _ rfl
  | 11, _ => hP 110 _ rfl
  | 12, _ => sC_q (n := 2) (hP 46 _ rfl) (fun j hj => match j, hj with | 0, _ => rfl | 1, _ => rfl | j + 2, h => absurd h (by omega))
  | 13, _ => hP 47 _ rfl
  | 14, _ => hP 48 _ rfl
  | 15, _ => sC_q (n := 4) (hP 40 _ rfl) (fun j hj => match j, hj with | 0, _ => rfl | 1, _ => rfl | 2, _ => rfl | 3, _ => rfl | j + 4, h => absurd h (by omega))
  | 16, _ => hP 49 _ rfl
  | 17, _ => hP 52 _ rfl
  | 18, _ => hP 55 _ rfl
  | 19, _ => hP 58 _ rfl
  | 20, _ => hP 41 _ rfl
  | 21, _ => hP 103 _ rfl
  | 22, _ => hP 50 _ rfl
  | 23, _ => hP 53 _ rfl
  | 24, _ => hP 56 _ rfl
  | 25, _ => hP 59 _ rfl
  | 26, _ => hP 42 _ rfl
  | 27, _ => hP 104 _ rfl
  | 28, _ => hP 51 _ rfl
  | 29, _ => hP 54 _ rfl
  | 30, _ => hP 57 _ rfl
  | 31, _ => hP 60 _ rfl
  | 32, _ => hP 43 _ rfl
  | 33, _ => hP 105 _ rfl
  | 34, _ => hP 2 _ rfl
  | 35, _ => hP 61 _ rfl
  | 36, _ => sC_q (n := 4) (hP 3 _ rfl) (fun j hj => match j, hj with | 0, _ => rfl | 1, _ => rfl | 2, _ => rfl | 3, _ => rfl | j + 4, h => absurd h (by omega))
  | 37, _ => sC_q (n := 4) (hP 62 _ rfl) (fun j hj => match j, hj with | 0, _ => rfl | 1, _ => rfl | 2, _ => rfl | 3, _ => rfl | j + 4, h => absurd h (by omega))
  | 38, _ => sC_q (n := 2) (hP 4 _ rfl) (fun j hj => match j, hj with | 0, _ => rfl | 1, _ => rfl | j + 2, h => absurd h (by omega))
  | 39, _ => sC_q (n := 2) (hP 63 _ rfl) (fun j hj => match j, hj with | 0, _ => rfl | 1, _ => rfl | j + 2, h => absurd h (by omega))
  | 40, _ => hP 5 _ rfl
  | 41, _ => hP 64 _ rfl
  | 42, _ => hP 6 _ rfl
  | 43, _ => hP 14 _ rfl
  | 44, _ => hP 22 _ rfl
  | 45, _ => hP 30 _ rfl
  | 46, _ => hP 65 _ rfl
  | 47, _ => hP 73 _ rfl
  | 48, _ => hP 81 _ rfl
  | 49, _ => hP 89 _ rfl
  | 50, _ => sC_q (n := 6) (hP 7 _ rfl) (fun j hj => match j, hj with | 0, _ => rfl | 1, _ => rfl | 2, _ => rfl | 3, _ => rfl | 4, _ => rfl | 5, _ => rfl | j + 6, h => absurd h (by omega))
  | 51, _ => sC_q (n := 6) (hP 15 _ rfl) (fun j hj => match j, hj with | 0, _ => rfl | 1, _ => rfl | 2, _ => rfl | 3, _ => rfl | 4, _ => rfl | 5, _ => rfl | j + 6, h => absurd h (by omega))
  | 52, _ => sC_q (n := 6) (hP 23 _ rfl) (fun j hj => match j, hj with | 0, _ => rfl | 1, _ => rfl | 2, _ => rfl | 3, _ => rfl | 4, _ => rfl | 5, _ => rfl | j + 6, h => absurd h (by omega))
  | 53, _ => sC_q (n := 6) (hP 31 _ rfl) (fun j hj => match j, hj with | 0, _ => rfl | 1, _ => rfl | 2, _ => rfl | 3, _ => rfl | 4, _ => rfl | 5, _ => rfl | j + 6, h => absurd h (by omega))
  | 54, _ => sC_q (n := 6) (hP 66 _ rfl) (fun j hj => match j, hj with | 0, _ => rfl | 1, _ => rfl | 2, _ => rfl | 3, _ => rfl | 4, _ => rfl | 5, _ => rfl | j + 6, h => absurd h (by omega))
  | 55, _ => sC_q (n := 6) (hP 74 _ rfl) (fun j hj => match j, hj with | 0, _ => rfl | 1, _ => rfl | 2, _ => rfl | 3, _ => rfl | 4, _ => rfl | 5, _ => rfl | j + 6, h => absurd h (by omega))
  | 56, _ => sC_q (n := 6) (hP 82 _ rfl) (fun j hj => match j, hj with | 0, _ => rfl | 1, _ => rfl | 2, _ => rfl | 3, _ => rfl | 4, _ => rfl | 5, _ => rfl | j + 6, h => absurd h (by omega))
  | 57, _ => sC_q (n := 6) (hP 90 _ rfl) (fun j hj => match j, hj with | 0, _ => rfl | 1, _ => rfl | 2, _ => rfl | 3, _ => rfl | 4, _ => rfl | 5, _ => rfl | j + 6, h => absurd h (by omega))
  | 58, _ => hP 38 _ rfl
  | 59, _ => hP 39 _ rfl
  | 60, _ => hP 97 _ rfl
  | 61, _ => hP 98 _ rfl
  | 62, _ => hP 8 _ rfl
  | 63, _ => hP 9 _ rfl
  | 64, _ => hP 10 _ rfl
  | 65, _ => hP 11 _ rfl
  | 66, _ => hP 12 _ rfl
  | 67, _ => hP 13 _ rfl
  | 68, _ => hP 16 _ rfl
  | 69, _ => hP 17 _ rfl
  | 70, _ => hP 18 _ rfl
  | 71, _ => hP 19 _ rfl
  | 72, _ => hP 20 _ rfl
  | 73, _ => hP 21 _ rfl
  | 74, _ => hP 24 _ rfl
  | 75, _ => hP 25 _ rfl
  | 76, _ => hP 26 _ rfl
  | 77, _ => hP 27 _ rfl
  | 78, _ => hP 28 _ rfl
  | 79, _ => hP 29 _ rfl
  | 80, _ => hP 32 _ rfl
  | 81, _ => hP 33 _ rfl
  | 82, _ => hP 34 _ rfl
  | 83, _ => hP 35 _ rfl
  | 84, _ => hP 36 _ rfl
  | 85, _ => hP 37 _ rfl
  | 86, _ => hP 67 _ rfl
  | 87, _ => hP 68 _ rfl
  | 88, _ => hP 69 _ rfl
  | 89, _ => hP 70 _ rfl
  | 90, _ => hP 71 _ rfl
  | 91, _ => hP 72 _ rfl
  | 92, _ => hP 75 _ rfl
  | 93, _ => hP 76 _ rfl
  | 94, _ => hP 77 _ rfl
  | 95, _ => hP 78 _ rfl
  | 96, _ => hP 79 _ rfl
  | 97, _ => hP 80 _ rfl
  | 98, _ => hP 83 _ rfl
  | 99, _ => hP 84 _ rfl
  | 100, _ => hP 85 _ rfl
  | 101, _ => hP 86 _ rfl
  | 102, _ => hP 87 _ rfl
  | 103, _ => hP 88 _ rfl
  | 104, _ => hP 91 _ rfl
  | 105, _ => hP 92 _ rfl
  | 106, _ => hP 93 _ rfl
  | 107, _ => hP 94 _ rfl
  | 108, _ => hP 95 _ rfl
  | 109, _ => hP 96 _ rfl
  | 110, _ => hP 108 _ rfl
  | o + 111, h => absurd h (by omega)
theorem sC_at {ca : Nat → ClassId} {A : Nat → Nat} {D : va_G} {H : Heap} (hP : va_P D vwCl (PW_X10 ca A) H) : ∀ o, o < 111 → va_at D vwCl (A (sC_o o), gx_cC ca (fun k => A (sC_o k)) o (sM0 o)) H := by
  rw [fl_X10] at hP
  exact sC_at0 hP
set_option maxHeartbeats 4000000 in
set_option maxRecDepth 20000 in
theorem sC_map {ca : Nat → ClassId} {A : Nat → Nat} : (PW_X10 ca A).map Prod.fst = (List.range 111).map A := by
  rw [fl_X10]
  rfl
theorem sC_pos {ca : Nat → ClassId} {A : Nat → Nat} {k : Nat} (h : k < 111) : ∃ e, (PW_X10 ca A)[k]? = some (A k, e) := by
  have h1 : ((PW_X10 ca A).map Prod.fst)[k]? = some (A k) := by rw [sC_map]; simp [List.getElem?_map, List.getElem?_range h]
  rw [List.getElem?_map] at h1
  cases h2 : (PW_X10 ca A)[k]? with
  | none => rw [h2] at h1; cases h1
  | some q =>
    rw [h2] at h1
    obtain ⟨a, e⟩ := q
    cases h1
    exact ⟨e, rfl⟩
def sC_w (D : va_G) (ca : Nat → ClassId) (A : Nat → Nat) : gx_V := (D, gx_ty ca, fun k => A (sC_o k), gx_cC ca (fun k => A (sC_o k)), 111)
theorem sC_is {D : va_G} {ca : Nat → ClassId} {A : Nat → Nat} : gx_isC ca (sC_w D ca A) := ⟨rfl, rfl, rfl⟩
/-- the class's world at the start -/
theorem sC_start {ca : Nat → ClassId} {A : Nat → Nat} {D : va_G} {H : Heap} {A0 : Nat → Prop} (hP : va_P D vwCl (PW_X10 ca A) H) (hD : va_D A0 (PW_X10 ca A)) : gx_inj (sC_w D ca A) ∧ va_P D vwCl (gx_w (sC_w D ca A) sM0) H ∧ ∀ k, k < 111 → A0 (gx_ad (sC_w D ca A) k) := by
  refine ⟨fun i j hi hj e => ?_, fun k q hk => ?_, fun k hk => ?_⟩
  · have hi : i < 111 := hi
    have hj : j < 111 := hj
    obtain ⟨e1, h1⟩ := sC_pos (ca := ca) (A := A) (sC_lt i hi)
    obtain ⟨e2, h2⟩ := sC_pos (ca := ca) (A := A) (sC_lt j hj)
    have h3 := hD.1 _ _ _ _ h1 h2 e
    rw [← sC_io i hi, ← sC_io j hj, h3]
  · have hl : k < gx_N (sC_w D ca A) := by
      have := (List.getElem?_eq_some_iff.mp hk).1
      rwa [gx_len] at this
    rw [gx_at hl] at hk
    cases hk
    exact sC_at hP k hl
  · obtain ⟨e1, h1⟩ := sC_pos (ca := ca) (A := A) (sC_lt k hk)
    exact hD.2 _ _ h1
