/-! THE START: the class's first world by the contracts' numbers, and its first memory -/
def sC_tab : List Nat := [0, 1, 44, 45, 99, 100, 101, 102, 106, 107, 109, 110, 46, 47, 48, 40, 49, 52, 55, 58, 41, 103, 50, 53, 56, 59, 42, 104, 51, 54, 57, 60, 43, 105, 2, 61, 3, 62, 4, 63, 5, 64, 6, 14, 22, 30, 65, 73, 81, 89, 7, 15, 23, 31, 66, 74, 82, 90, 38, 39, 97, 98, 8, 9, 10, 11, 12, 13, 16, 17, 18, 19, 20, 21, 24, 25, 26, 27, 28, 29, 32, 33, 34, 35, 36, 37, 67, 68, 69, 70, 71, 72, 75, 76, 77, 78, 79, 80, 83, 84, 85, 86, 87, 88, 91, 92, 93, 94, 95, 96, 108]
def sC_inv : List Nat := [0, 1, 34, 36, 38, 40, 42, 50, 62, 63, 64, 65, 66, 67, 43, 51, 68, 69, 70, 71, 72, 73, 44, 52, 74, 75, 76, 77, 78, 79, 45, 53, 80, 81, 82, 83, 84, 85, 58, 59, 15, 20, 26, 32, 2, 3, 12, 13, 14, 16, 22, 28, 17, 23, 29, 18, 24, 30, 19, 25, 31, 35, 37, 39, 41, 46, 54, 86, 87, 88, 89, 90, 91, 47, 55, 92, 93, 94, 95, 96, 97, 48, 56, 98, 99, 100, 101, 102, 103, 49, 57, 104, 105, 106, 107, 108, 109, 60, 61, 4, 5, 6, 7, 21, 27, 33, 8, 9, 110, 10, 11]
def sC_o (o : Nat) : Nat := sC_tab.getD o 0
theorem sC_io : ∀ o, o < 111 → sC_inv.getD (sC_o o) 0 = o := by decide +kernel
theorem sC_lt : ∀ o, o < 111 → sC_o o < 111 := by decide +kernel
def sM0 : gx_M := fun o j =>
  if o = 0 then (if j = 10 ∨ j = 11 then -1 else 0)
  else if o = 4 then (if j = 15 then -1 else if j = 16 then 21 else 0)
  else if o = 5 then (if j = 4 then -57 else 0)
  else if o = 34 ∨ o = 35 then (if j = 3 then 10 else if j = 5 then 16 else if j = 7 then 1 else if j = 9 then -1 else 0)
  else if 58 ≤ o ∧ o < 62 then (if j = 0 then (if o = 59 ∨ o = 61 then 1 else 0) else if j = 1 ∨ j = 2 then 1 else if j = 3 then 16 else if j = 4 then 10 else 0)
  else if 62 ≤ o then (if j = 2 then 1 else 0)
  else 0
theorem sC_q {D : va_G} {H : Heap} {a : Nat} {c : ClassId} {n : Nat} {f g : Nat → Option Nat} (h : va_at D vwCl (a, .inl (c, n, .inr (.inr (.inr (.inr f))))) H) (e : ∀ j, j < n → f j = g j) : va_at D vwCl (a, .inl (c, n, .inr (.inr (.inr (.inr g))))) H := by
  have h1 : H[a]? = some (vp_cell c (n, .inr (.inr (.inr (.inr f))))) := h
  show H[a]? = some (vp_cell c (n, .inr (.inr (.inr (.inr g)))))
  rw [h1, vp_cell_q, vp_cell_q]
  have h2 : (fun j : Fin n => va_rf (f j.val)) = (fun j : Fin n => va_rf (g j.val)) := funext fun j => by rw [e j.1 j.2]
  show some ({ cls := c, slots := Array.ofFn (n := n) fun j => va_rf (f j.val), vm := .none } : Cell) = some ({ cls := c, slots := Array.ofFn (n := n) fun j => va_rf (g j.val), vm := .none } : Cell)
  rw [h2]
set_option maxHeartbeats 4000000 in
set_option maxRecDepth 20000 in
theorem sC_at {ca : Nat → ClassId} {A : Nat → Nat} {D : va_G} {H : Heap} (hP : va_P D vwCl (PW_X10 ca A) H) : ∀ o, o < 111 → va_at D vwCl (A (sC_o o), gx_cC ca (fun k => A (sC_o k)) o (sM0 o)) H
  | 0, _ => hP 0 _ rfl
  | 1, _ => hP 1 _ rfl
  | 2, _ => hP 44 _ rfl
  | 3, _ => hP 45 _ rfl
  | 4, _ => hP 99 _ rfl
  | 5, _ => hP 100 _ rfl
  | 6, _ => hP 101 _ rfl
  | 7, _ => hP 102 _ rfl
  | 8, _ => hP 106 _ rfl
  | 9, _ => hP 107 _ rfl
  | 10, _ => hP 109 _ rfl
  | 11, _ => hP 110 _ rfl
  | 12, _ => sC_q (n := 2) (hP 46 _ rfl) (fun j hj => match j, hj with | 0, _ => rfl | 1, _ => rfl | j + 2, h => absurd h (by omega))
  | 13, _ => hP 47 _ rfl
  | 14, _ => hP 48 _ rfl
  | 15, _ => sC_q (n := 4) (hP 40 _ rfl) (fun j hj => match j, hj with | 0, _ => rfl | 1, _ => rfl | 2, _ => rfl | 3, _ => rfl | j + 4, h => absurd h (by omega))
  | 16, _ => hP 49 _ rfl
  | 17, _ => hP 52 _ rfl
  | 18, _ => hP 55 _ rfl
  | 19, _ => hP 58 _ rfl
  | 20, _ => hP 41 _ rfl
  | 21, _ => hP 103 _ rfl
  | 22, _ => hP 50 _ rfl
  | 23, _ => hP 53 _ rfl
  | 24, _ => hP 56 _ rfl
  | 25, _ => hP 59 _ rfl
  | 26, _ => hP 42 _ rfl
  | 27, _ => hP 104 _ rfl
  | 28, _ => hP 51 _ rfl
  | 29, _ => hP 54 _ rfl
  | 30, _ => hP 57 _ rfl
  | 31, _ => hP 60 _ rfl
  | 32, _ => hP 43 _ rfl
  | 33, _ => hP 105 _ rfl
  | 34, _ => hP 2 _ rfl
  | 35, _ => hP 61 _ rfl
  | 36, _ => sC_q (n := 4) (hP 3 _ rfl) (fun j hj => match j, hj with | 0, _ => rfl | 1, _ => rfl | 2, _ => rfl | 3, _ => rfl | j + 4, h => absurd h (by omega))
  | 37, _ => sC_q (n := 4) (hP 62 _ rfl) (fun j hj => match j, hj with | 0, _ => rfl | 1, _ => rfl | 2, _ => rfl | 3, _ => rfl | j + 4, h => absurd h (by omega))
  | 38, _ => sC_q (n := 2) (hP 4 _ rfl) (fun j hj => match j, hj with | 0, _ => rfl | 1, _ => rfl | j + 2, h => absurd h (by omega))
  | 39, _ => sC_q (n := 2) (hP 63 _ rfl) (fun j hj => match j, hj with | 0, _ => rfl | 1, _ => rfl | j + 2, h => absurd h (by omega))
  | 40, _ => hP 5 _ rfl
  | 41, _ => hP 64 _ rfl
  | 42, _ => hP 6 _ rfl
  | 43, _ => hP 14 _ rfl
  | 44, _ => hP 22 _ rfl
  | 45, _ => hP 30 _ rfl
  | 46, _ => hP 65 _ rfl
  | 47, _ => hP 73 _ rfl
  | 48, _ => hP 81 _ rfl
  | 49, _ => hP 89 _ rfl
  | 50, _ => sC_q (n := 6) (hP 7 _ rfl) (fun j hj => match j, hj with | 0, _ => rfl | 1, _ => rfl | 2, _ => rfl | 3, _ => rfl | 4, _ => rfl | 5, _ => rfl | j + 6, h => absurd h (by omega))
  | 51, _ => sC_q (n := 6) (hP 15 _ rfl) (fun j hj => match j, hj with | 0, _ => rfl | 1, _ => rfl | 2, _ => rfl | 3, _ => rfl | 4, _ => rfl | 5, _ => rfl | j + 6, h => absurd h (by omega))
  | 52, _ => sC_q (n := 6) (hP 23 _ rfl) (fun j hj => match j, hj with | 0, _ => rfl | 1, _ => rfl | 2, _ => rfl | 3, _ => rfl | 4, _ => rfl | 5, _ => rfl | j + 6, h => absurd h (by omega))
  | 53, _ => sC_q (n := 6) (hP 31 _ rfl) (fun j hj => match j, hj with | 0, _ => rfl | 1, _ => rfl | 2, _ => rfl | 3, _ => rfl | 4, _ => rfl | 5, _ => rfl | j + 6, h => absurd h (by omega))
  | 54, _ => sC_q (n := 6) (hP 66 _ rfl) (fun j hj => match j, hj with | 0, _ => rfl | 1, _ => rfl | 2, _ => rfl | 3, _ => rfl | 4, _ => rfl | 5, _ => rfl | j + 6, h => absurd h (by omega))
  | 55, _ => sC_q (n := 6) (hP 74 _ rfl) (fun j hj => match j, hj with | 0, _ => rfl | 1, _ => rfl | 2, _ => rfl | 3, _ => rfl | 4, _ => rfl | 5, _ => rfl | j + 6, h => absurd h (by omega))
  | 56, _ => sC_q (n := 6) (hP 82 _ rfl) (fun j hj => match j, hj with | 0, _ => rfl | 1, _ => rfl | 2, _ => rfl | 3, _ => rfl | 4, _ => rfl | 5, _ => rfl | j + 6, h => absurd h (by omega))
  | 57, _ => sC_q (n := 6) (hP 90 _ rfl) (fun j hj => match j, hj with | 0, _ => rfl | 1, _ => rfl | 2, _ => rfl | 3, _ => rfl | 4, _ => rfl | 5, _ => rfl | j + 6, h => absurd h (by omega))
  | 58, _ => hP 38 _ rfl
  | 59, _ => hP 39 _ rfl
  | 60, _ => hP 97 _ rfl
  | 61, _ => hP 98 _ rfl
  | 62, _ => hP 8 _ rfl
  | 63, _ => hP 9 _ rfl
  | 64, _ => hP 10 _ rfl
  | 65, _ => hP 11 _ rfl
  | 66, _ => hP 12 _ rfl
  | 67, _ => hP 13 _ rfl
  | 68, _ => hP 16 _ rfl
  | 69, _ => hP 17 _ rfl
  | 70, _ => hP 18 _ rfl
  | 71, _ => hP 19 _ rfl
  | 72, _ => hP 20 _ rfl
  | 73, _ => hP 21 _ rfl
  | 74, _ => hP 24 _ rfl
  | 75, _ => hP 25 _ rfl
  | 76, _ => hP 26 _ rfl
  | 77, _ => hP 27 _ rfl
  | 78, _ => hP 28 _ rfl
  | 79, _ => hP 29 _ rfl
  | 80, _ => hP 32 _ rfl
  | 81, _ => hP 33 _ rfl
  | 82, _ => hP 34 _ rfl
  | 83, _ => hP 35 _ rfl
  | 84, _ => hP 36 _ rfl
  | 85, _ => hP 37 _ rfl
  | 86, _ => hP 67 _ rfl
  | 87, _ => hP 68 _ rfl
  | 88, _ => hP 69 _ rfl
  | 89, _ => hP 70 _ rfl
  | 90, _ => hP 71 _ rfl
  | 91, _ => hP 72 _ rfl
  | 92, _ => hP 75 _ rfl
  | 93, _ => hP 76 _ rfl
  | 94, _ => hP 77 _ rfl
  | 95, _ => hP 78 _ rfl
  | 96, _ => hP 79 _ rfl
  | 97, _ => hP 80 _ rfl
  | 98, _ => hP 83 _ rfl
  | 99, _ => hP 84 _ rfl
  | 100, _ => hP 85 _ rfl
  | 101, _ => hP 86 _ rfl
  | 102, _ => hP 87 _ rfl
  | 103, _ => hP 88 _ rfl
  | 104, _ => hP 91 _ rfl
  | 105, _ => hP 92 _ rfl
  | 106, _ => hP 93 _ rfl
  | 107, _ => hP 94 _ rfl
  | 108, _ => hP 95 _ rfl
  | 109, _ => hP 96 _ rfl
  | 110, _ => hP 108 _ rfl
  | o + 111, h => absurd h (by omega)
set_option maxHeartbeats 4000000 in
set_option maxRecDepth 20000 in
theorem sC_map {ca : Nat → ClassId} {A : Nat → Nat} : (PW_X10 ca A).map Prod.fst = (List.range 111).map A := rfl
theorem sC_pos {ca : Nat → ClassId} {A : Nat → Nat} {k : Nat} (h : k < 111) : ∃ e, (PW_X10 ca A)[k]? = some (A k, e) := by
  have h1 : ((PW_X10 ca A).map Prod.fst)[k]? = some (A k) := by rw [sC_map]; simp [List.getElem?_map, List.getElem?_range h]
  rw [List.getElem?_map] at h1
  cases h2 : (PW_X10 ca A)[k]? with
  | none => rw [h2] at h1; cases h1
  | some q =>
    rw [h2] at h1
    obtain ⟨a, e⟩ := q
    cases h1
    exact ⟨e, rfl⟩
def sC_w (D : va_G) (ca : Nat → ClassId) (A : Nat → Nat) : gx_V := (D, gx_ty ca, fun k => A (sC_o k), gx_cC ca (fun k => A (sC_o k)), 111)
theorem sC_is {D : va_G} {ca : Nat → ClassId} {A : Nat → Nat} : gx_isC ca (sC_w D ca A) := ⟨rfl, rfl, rfl⟩
/-- the class's world at the start -/
theorem sC_start {ca : Nat → ClassId} {A : Nat → Nat} {D : va_G} {H : Heap} {A0 : Nat → Prop} (hP : va_P D vwCl (PW_X10 ca A) H) (hD : va_D A0 (PW_X10 ca A)) : gx_inj (sC_w D ca A) ∧ va_P D vwCl (gx_w (sC_w D ca A) sM0) H ∧ ∀ k, k < 111 → A0 (gx_ad (sC_w D ca A) k) := by
  refine ⟨fun i j hi hj e => ?_, fun k q hk => ?_, fun k hk => ?_⟩
  · have hi : i < 111 := hi
    have hj : j < 111 := hj
    obtain ⟨e1, h1⟩ := sC_pos (ca := ca) (A := A) (sC_lt i hi)
    obtain ⟨e2, h2⟩ := sC_pos (ca := ca) (A := A) (sC_lt j hj)
    have h3 := hD.1 _ _ _ _ h1 h2 e
    rw [← sC_io i hi, ← sC_io j hj, h3]
  · have hl : k < gx_N (sC_w D ca A) := by
      have := (List.getElem?_eq_some_iff.mp hk).1
      rwa [gx_len] at this
    rw [gx_at hl] at hk
    cases hk
    exact sC_at hP k hl
  · obtain ⟨e1, h1⟩ := sC_pos (ca := ca) (A := A) (sC_lt k hk)
    exact hD.2 _ _ h1
