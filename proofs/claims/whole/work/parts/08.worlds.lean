def gx_ty (ca : Nat → ClassId) : List (ClassId × FieldType) := [(ca 0, .int), (ca 1, .array .int), (ca 2, .object "GreenLine$Part"), (ca 3, .object "GreenLine$Signal"), (ca 4, .object "GreenLine$Channel"), (ca 5, .object "GreenLine$Program"), (ca 6, .byte), (ca 7, .boolean), (ca 8, .long)]
def fs_X0 (ad : Nat → Nat) (o : Nat) (r : Nat → Int32) : List Value := [.ref (ad 3), .int (r 1), .int (r 2), .int (r 3), .int (r 4), .int (r 5), .int (r 6)]
def fs_X1 (ad : Nat → Nat) (o : Nat) (r : Nat → Int32) : List Value := [.ref (ad 34), .ref (ad 15), .ref (ad 20), .ref (ad 2), .ref (ad 12), .int (r 5), .int (r 6), .int (r 7), .int (r 8)]
def fs_X2 (ad : Nat → Nat) (o : Nat) (r : Nat → Int32) : List Value := [.int (r 0), .int (r 1), .int (r 2), .int (r 3), .int (r 4), .int (r 5)]
def fs_X3 (ad : Nat → Nat) (o : Nat) (r : Nat → Int32) : List Value := [.int (r 0), .int (r 1), .int (r 2), .int (r 3), .int (r 4)]
def fs_X4 (ad : Nat → Nat) (o : Nat) (r : Nat → Int32) : List Value := [.ref (ad (o + 6)), .ref (ad (o + 12)), .int (r 2), .int (r 3)]
def fs_X5 (ad : Nat → Nat) (o : Nat) (r : Nat → Int32) : List Value := [.ref (ad 5), .ref (ad 7), .int (r 2), .int (r 3), .int (r 4), .int (r 5), .int (r 6), .int (r 7), .int (r 8), .int (r 9), .int (r 10), .int (r 11), .int (r 12), .int (r 13), .int (r 14), .int (r 15), .ref (ad (r 16).toNatClampNeg)]
def fs_X6 (ad : Nat → Nat) (o : Nat) (r : Nat → Int32) : List Value := [.ref (ad 6), .int (r 1), .int (r 2), .int (r 3), .int (r 4), .int (r 5)]
def fs_X7 (ad : Nat → Nat) (o : Nat) (r : Nat → Int32) : List Value := [.ref (ad 9)]
def fs_X8 (ad : Nat → Nat) (o : Nat) (r : Nat → Int32) : List Value := [.ref (ad (o + 2)), .ref (ad (o + 4)), .ref (ad (o + 6)), .int (r 3), .int (r 4), .int (r 5), .int (r 6), .int (r 7), .int (r 8), .int (r 9)]
def fs_X9 (ad : Nat → Nat) (o : Nat) (r : Nat → Int32) : List Value := [.ref (ad (o + 8)), .int (r 1)]
def fs_X10 (ad : Nat → Nat) (o : Nat) (r : Nat → Int32) : List Value := [.ref (ad 1), .ref (ad 34), .ref (ad 35), .ref (ad 4), .ref (ad 6), .ref (ad 8), .ref (ad 110), .ref (ad 10), .ref (ad 11), .int (r 9), .int (r 10), .int (r 11)]
def fs_X11 (ad : Nat → Nat) (o : Nat) (r : Nat → Int32) : List Value := [.ref (ad 1), .ref (ad 2), .ref (ad 3), .int (r 3), .int (r 4), .int (r 5), .ref (ad 4), .ref (ad 5), .ref (ad 6), .ref (ad 7), .ref (ad 8), .ref (ad 9), .int (r 12), .int (r 13), .int (r 14), .int (r 15), .int (r 16), .int (r 17), .int (r 18), .int (r 19), .int (r 20), .ref (ad 10), .ref (ad 11), .int (r 23), .ref (ad 12), .ref (ad 13), .int (r 26), .int (r 27), .ref (ad 14), .ref (ad 15), .int (r 30), .ref (ad 16), .ref (ad 17), .ref (ad 18), .ref (ad 19), .int (r 35), .ref (ad 20), .ref (ad 21), .ref (ad 22), .int (r 39), .int (r 40), .ref (ad 23)]
def gx_cC (ca : Nat → ClassId) (ad : Nat → Nat) (o : Nat) (r : Nat → Int32) : va_E :=
  if o < 16 then (match o with
    | 0 => .inr (10, fs_X10 ad o r)
    | 1 => .inr (1, fs_X1 ad o r)
    | 2 => .inr (0, fs_X0 ad o r)
    | 3 => .inl (ca 0, 300, .inl r)
    | 4 => .inr (5, fs_X5 ad o r)
    | 5 => .inr (6, fs_X6 ad o r)
    | 6 => .inl (ca 0, 300, .inl r)
    | 7 => .inl (ca 0, 300, .inl r)
    | 8 => .inr (7, fs_X7 ad o r)
    | 9 => .inl (ca 0, 320, .inl r)
    | 10 => .inl (ca 0, 20, .inl r)
    | 11 => .inl (ca 0, 20, .inl r)
    | 12 => .inl (ca 1, 2, .inr (.inr (.inr (.inr (fun j => some (ad (13 + j)))))))
    | 13 => .inl (ca 0, 2000, .inl r)
    | 14 => .inl (ca 0, 2000, .inl r)
    | _ => .inl (ca 5, 4, .inr (.inr (.inr (.inr (fun j => some (ad (16 + j))))))))
  else if o < 22 then .inr (4, fs_X4 ad o r)
  else if o < 34 then .inl (ca 0, 300, .inl r)
  else if o < 36 then .inr (8, fs_X8 ad o r)
  else if o < 38 then .inl (ca 3, 4, .inr (.inr (.inr (.inr (fun j => some (ad (4 * o + j - 102)))))))
  else if o < 40 then .inl (ca 4, 2, .inr (.inr (.inr (.inr (fun j => some (ad (2 * o + j - 18)))))))
  else if o < 42 then .inl (ca 0, 20, .inl r)
  else if o < 50 then .inr (9, fs_X9 ad o r)
  else if o < 58 then .inl (ca 2, 6, .inr (.inr (.inr (.inr (fun j => some (ad (6 * o + j - 238)))))))
  else if o < 62 then .inr (2, fs_X2 ad o r)
  else .inr (3, fs_X3 ad o r)
def gx_cR (ca : Nat → ClassId) (ad : Nat → Nat) (o : Nat) (r : Nat → Int32) : va_E := match o with
  | 0 => .inr (11, fs_X11 ad o r)
  | 1 => .inl (ca 0, 170, .inl r)
  | 2 => .inl (ca 0, 170, .inl r)
  | 3 => .inl (ca 6, 300, .inl r)
  | 4 => .inl (ca 0, 4, .inl r)
  | 5 => .inl (ca 0, 40, .inl r)
  | 6 => .inl (ca 0, 40, .inl r)
  | 7 => .inl (ca 0, 1600, .inl r)
  | 8 => .inl (ca 0, 1600, .inl r)
  | 9 => .inl (ca 0, 4000, .inl r)
  | 10 => .inl (ca 0, 40, .inl r)
  | 11 => .inl (ca 0, 41, .inl r)
  | 12 => .inl (ca 0, 80, .inl r)
  | 13 => .inl (ca 0, 80, .inl r)
  | 14 => .inl (ca 0, 10, .inl r)
  | 15 => .inl (ca 0, 10, .inl r)
  | 16 => .inl (ca 0, 400, .inl r)
  | 17 => .inl (ca 0, 400, .inl r)
  | 18 => .inl (ca 0, 7, .inl r)
  | 19 => .inl (ca 8, 200, .inr (.inl (gx_rl r)))
  | 20 => .inl (ca 0, 120, .inl r)
  | 21 => .inl (ca 0, 320, .inl r)
  | 22 => .inl (ca 0, 20, .inl r)
  | _ => .inl (ca 7, 320, .inl r)
def gx_isC (ca : Nat → ClassId) (w : gx_V) : Prop := gx_tys w = gx_ty ca ∧ gx_N w = 111 ∧ gx_cf w = gx_cC ca (gx_ad w)
def gx_isR (ca : Nat → ClassId) (w : gx_V) : Prop := gx_tys w = gx_ty ca ∧ gx_N w = 24 ∧ gx_cf w = gx_cR ca (gx_ad w)
abbrev pk_Pr (o : Nat) : Prop := 16 ≤ o ∧ o < 22
abbrev pk_Se (o : Nat) : Prop := 34 ≤ o ∧ o < 36
abbrev pk_SA (o : Nat) : Prop := 36 ≤ o ∧ o < 38
abbrev pk_CA (o : Nat) : Prop := 38 ≤ o ∧ o < 40
abbrev pk_Si (o : Nat) : Prop := 42 ≤ o ∧ o < 50
abbrev pk_PA (o : Nat) : Prop := 50 ≤ o ∧ o < 58
abbrev pk_Ch (o : Nat) : Prop := 58 ≤ o ∧ o < 62
abbrev pk_Pt (o : Nat) : Prop := 62 ≤ o ∧ o < 111
abbrev pk_a3 (o : Nat) : Prop := o = 3 ∨ o = 6 ∨ o = 7 ∨ (22 ≤ o ∧ o < 34)
abbrev pk_a2 (o : Nat) : Prop := o = 10 ∨ o = 11 ∨ o = 40 ∨ o = 41
abbrev pk_a20 (o : Nat) : Prop := o = 13 ∨ o = 14
section WORLDS
variable {ca : Nat → ClassId} {w : gx_V} {o : Nat}
theorem gx_isC.lt (hw : gx_isC ca w) (h : o < 111) : o < gx_N w := by rw [hw.2.1]; exact h
theorem gx_isR.lt (hw : gx_isR ca w) (h : o < 24) : o < gx_N w := by rw [hw.2.1]; exact h
theorem gt_0 (hw : gx_isC ca w) : (gx_tys w)[0]? = some (ca 0, .int) := by rw [hw.1]; rfl
theorem gu_0 (hw : gx_isR ca w) : (gx_tys w)[0]? = some (ca 0, .int) := by rw [hw.1]; rfl
theorem gt_1 (hw : gx_isC ca w) : (gx_tys w)[1]? = some (ca 1, .array .int) := by rw [hw.1]; rfl
theorem gu_1 (hw : gx_isR ca w) : (gx_tys w)[1]? = some (ca 1, .array .int) := by rw [hw.1]; rfl
theorem gt_2 (hw : gx_isC ca w) : (gx_tys w)[2]? = some (ca 2, .object "GreenLine$Part") := by rw [hw.1]; rfl
theorem gu_2 (hw : gx_isR ca w) : (gx_tys w)[2]? = some (ca 2, .object "GreenLine$Part") := by rw [hw.1]; rfl
theorem gt_3 (hw : gx_isC ca w) : (gx_tys w)[3]? = some (ca 3, .object "GreenLine$Signal") := by rw [hw.1]; rfl
theorem gu_3 (hw : gx_isR ca w) : (gx_tys w)[3]? = some (ca 3, .object "GreenLine$Signal") := by rw [hw.1]; rfl
theorem gt_4 (hw : gx_isC ca w) : (gx_tys w)[4]? = some (ca 4, .object "GreenLine$Channel") := by rw [hw.1]; rfl
theorem gu_4 (hw : gx_isR ca w) : (gx_tys w)[4]? = some (ca 4, .object "GreenLine$Channel") := by rw [hw.1]; rfl
theorem gt_5 (hw : gx_isC ca w) : (gx_tys w)[5]? = some (ca 5, .object "GreenLine$Program") := by rw [hw.1]; rfl
theorem gu_5 (hw : gx_isR ca w) : (gx_tys w)[5]? = some (ca 5, .object "GreenLine$Program") := by rw [hw.1]; rfl
theorem gt_6 (hw : gx_isC ca w) : (gx_tys w)[6]? = some (ca 6, .byte) := by rw [hw.1]; rfl
theorem gu_6 (hw : gx_isR ca w) : (gx_tys w)[6]? = some (ca 6, .byte) := by rw [hw.1]; rfl
theorem gt_7 (hw : gx_isC ca w) : (gx_tys w)[7]? = some (ca 7, .boolean) := by rw [hw.1]; rfl
theorem gu_7 (hw : gx_isR ca w) : (gx_tys w)[7]? = some (ca 7, .boolean) := by rw [hw.1]; rfl
theorem gt_8 (hw : gx_isC ca w) : (gx_tys w)[8]? = some (ca 8, .long) := by rw [hw.1]; rfl
theorem gu_8 (hw : gx_isR ca w) : (gx_tys w)[8]? = some (ca 8, .long) := by rw [hw.1]; rfl
theorem gc_0 (hw : gx_isC ca w) (r : Nat → Int32) : gx_cf w 0 r = .inr (10, fs_X10 (gx_ad w) 0 r) := by rw [hw.2.2]; rfl
theorem gc_1 (hw : gx_isC ca w) (r : Nat → Int32) : gx_cf w 1 r = .inr (1, fs_X1 (gx_ad w) 1 r) := by rw [hw.2.2]; rfl
theorem gc_2 (hw : gx_isC ca w) (r : Nat → Int32) : gx_cf w 2 r = .inr (0, fs_X0 (gx_ad w) 2 r) := by rw [hw.2.2]; rfl
theorem gc_3 (hw : gx_isC ca w) (r : Nat → Int32) : gx_cf w 3 r = .inl (ca 0, 300, .inl r) := by rw [hw.2.2]; rfl
theorem gc_4 (hw : gx_isC ca w) (r : Nat → Int32) : gx_cf w 4 r = .inr (5, fs_X5 (gx_ad w) 4 r) := by rw [hw.2.2]; rfl
theorem gc_5 (hw : gx_isC ca w) (r : Nat → Int32) : gx_cf w 5 r = .inr (6, fs_X6 (gx_ad w) 5 r) := by rw [hw.2.2]; rfl
theorem gc_6 (hw : gx_isC ca w) (r : Nat → Int32) : gx_cf w 6 r = .inl (ca 0, 300, .inl r) := by rw [hw.2.2]; rfl
theorem gc_7 (hw : gx_isC ca w) (r : Nat → Int32) : gx_cf w 7 r = .inl (ca 0, 300, .inl r) := by rw [hw.2.2]; rfl
theorem gc_8 (hw : gx_isC ca w) (r : Nat → Int32) : gx_cf w 8 r = .inr (7, fs_X7 (gx_ad w) 8 r) := by rw [hw.2.2]; rfl
theorem gc_9 (hw : gx_isC ca w) (r : Nat → Int32) : gx_cf w 9 r = .inl (ca 0, 320, .inl r) := by rw [hw.2.2]; rfl
theorem gc_10 (hw : gx_isC ca w) (r : Nat → Int32) : gx_cf w 10 r = .inl (ca 0, 20, .inl r) := by rw [hw.2.2]; rfl
theorem gc_11 (hw : gx_isC ca w) (r : Nat → Int32) : gx_cf w 11 r = .inl (ca 0, 20, .inl r) := by rw [hw.2.2]; rfl
theorem gc_12 (hw : gx_isC ca w) (r : Nat → Int32) : gx_cf w 12 r = .inl (ca 1, 2, .inr (.inr (.inr (.inr (fun j => some ((gx_ad w) (13 + j))))))) := by rw [hw.2.2]; rfl
theorem gc_13 (hw : gx_isC ca w) (r : Nat → Int32) : gx_cf w 13 r = .inl (ca 0, 2000, .inl r) := by rw [hw.2.2]; rfl
theorem gc_14 (hw : gx_isC ca w) (r : Nat → Int32) : gx_cf w 14 r = .inl (ca 0, 2000, .inl r) := by rw [hw.2.2]; rfl
theorem gc_15 (hw : gx_isC ca w) (r : Nat → Int32) : gx_cf w 15 r = .inl (ca 5, 4, .inr (.inr (.inr (.inr (fun j => some ((gx_ad w) (16 + j))))))) := by rw [hw.2.2]; rfl
theorem gc_Pr (hw : gx_isC ca w) (h : pk_Pr o) (r : Nat → Int32) : gx_cf w o r = .inr (4, fs_X4 (gx_ad w) o r) := by
  obtain ⟨h1, h2⟩ := h
  rw [hw.2.2]
  show (if o < 16 then _ else _) = _
  rw [if_neg (show ¬ o < 16 by omega), if_pos (show o < 22 by omega)]
theorem gc_Se (hw : gx_isC ca w) (h : pk_Se o) (r : Nat → Int32) : gx_cf w o r = .inr (8, fs_X8 (gx_ad w) o r) := by
  obtain ⟨h1, h2⟩ := h
  rw [hw.2.2]
  show (if o < 16 then _ else _) = _
  rw [if_neg (show ¬ o < 16 by omega), if_neg (show ¬ o < 22 by omega), if_neg (show ¬ o < 34 by omega), if_pos (show o < 36 by omega)]
theorem gc_SA (hw : gx_isC ca w) (h : pk_SA o) (r : Nat → Int32) : gx_cf w o r = .inl (ca 3, 4, .inr (.inr (.inr (.inr (fun j => some ((gx_ad w) (4 * o + j - 102))))))) := by
  obtain ⟨h1, h2⟩ := h
  rw [hw.2.2]
  show (if o < 16 then _ else _) = _
  rw [if_neg (show ¬ o < 16 by omega), if_neg (show ¬ o < 22 by omega), if_neg (show ¬ o < 34 by omega), if_neg (show ¬ o < 36 by omega), if_pos (show o < 38 by omega)]
theorem gc_CA (hw : gx_isC ca w) (h : pk_CA o) (r : Nat → Int32) : gx_cf w o r = .inl (ca 4, 2, .inr (.inr (.inr (.inr (fun j => some ((gx_ad w) (2 * o + j - 18))))))) := by
  obtain ⟨h1, h2⟩ := h
  rw [hw.2.2]
  show (if o < 16 then _ else _) = _
  rw [if_neg (show ¬ o < 16 by omega), if_neg (show ¬ o < 22 by omega), if_neg (show ¬ o < 34 by omega), if_neg (show ¬ o < 36 by omega), if_neg (show ¬ o < 38 by omega), if_pos (show o < 40 by omega)]
theorem gc_Si (hw : gx_isC ca w) (h : pk_Si o) (r : Nat → Int32) : gx_cf w o r = .inr (9, fs_X9 (gx_ad w) o r) := by
  obtain ⟨h1, h2⟩ := h
  rw [hw.2.2]
  show (if o < 16 then _ else _) = _
  rw [if_neg (show ¬ o < 16 by omega), if_neg (show ¬ o < 22 by omega), if_neg (show ¬ o < 34 by omega), if_neg (show ¬ o < 36 by omega), if_neg (show ¬ o < 38 by omega), if_neg (show ¬ o < 40 by omega), if_neg (show ¬ o < 42 by omega), if_pos (show o < 50 by omega)]
theorem gc_PA (hw : gx_isC ca w) (h : pk_PA o) (r : Nat → Int32) : gx_cf w o r = .inl (ca 2, 6, .inr (.inr (.inr (.inr (fun j => some ((gx_ad w) (6 * o + j - 238))))))) := by
  obtain ⟨h1, h2⟩ := h
  rw [hw.2.2]
  show (if o < 16 then _ else _) = _
  rw [if_neg (show ¬ o < 16 by omega), if_neg (show ¬ o < 22 by omega), if_neg (show ¬ o < 34 by omega), if_neg (show ¬ o < 36 by omega), if_neg (show ¬ o < 38 by omega), if_neg (show ¬ o < 40 by omega), if_neg (show ¬ o < 42 by omega), if_neg (show ¬ o < 50 by omega), if_pos (show o < 58 by omega)]
theorem gc_Ch (hw : gx_isC ca w) (h : pk_Ch o) (r : Nat → Int32) : gx_cf w o r = .inr (2, fs_X2 (gx_ad w) o r) := by
  obtain ⟨h1, h2⟩ := h
  rw [hw.2.2]
  show (if o < 16 then _ else _) = _
  rw [if_neg (show ¬ o < 16 by omega), if_neg (show ¬ o < 22 by omega), if_neg (show ¬ o < 34 by omega), if_neg (show ¬ o < 36 by omega), if_neg (show ¬ o < 38 by omega), if_neg (show ¬ o < 40 by omega), if_neg (show ¬ o < 42 by omega), if_neg (show ¬ o < 50 by omega), if_neg (show ¬ o < 58 by omega), if_pos (show o < 62 by omega)]
theorem gc_Pt (hw : gx_isC ca w) (h : pk_Pt o) (r : Nat → Int32) : gx_cf w o r = .inr (3, fs_X3 (gx_ad w) o r) := by
  obtain ⟨h1, h2⟩ := h
  rw [hw.2.2]
  show (if o < 16 then _ else _) = _
  rw [if_neg (show ¬ o < 16 by omega), if_neg (show ¬ o < 22 by omega), if_neg (show ¬ o < 34 by omega), if_neg (show ¬ o < 36 by omega), if_neg (show ¬ o < 38 by omega), if_neg (show ¬ o < 40 by omega), if_neg (show ¬ o < 42 by omega), if_neg (show ¬ o < 50 by omega), if_neg (show ¬ o < 58 by omega), if_neg (show ¬ o < 62 by omega)]
theorem gc_a3 (hw : gx_isC ca w) (h : pk_a3 o) (r : Nat → Int32) : gx_cf w o r = .inl (ca 0, 300, .inl r) := by
  rcases h with rfl | rfl | rfl | ⟨h1, h2⟩
  · exact gc_3 hw r
  · exact gc_6 hw r
  · exact gc_7 hw r
  · rw [hw.2.2]
    show (if o < 16 then _ else _) = _
    rw [if_neg (show ¬ o < 16 by omega), if_neg (show ¬ o < 22 by omega), if_pos (show o < 34 by omega)]
theorem gc_a2 (hw : gx_isC ca w) (h : pk_a2 o) (r : Nat → Int32) : gx_cf w o r = .inl (ca 0, 20, .inl r) := by
  rcases h with rfl | rfl | rfl | rfl <;> (rw [hw.2.2]; rfl)
theorem gc_a20 (hw : gx_isC ca w) (h : pk_a20 o) (r : Nat → Int32) : gx_cf w o r = .inl (ca 0, 2000, .inl r) := by
  rcases h with rfl | rfl <;> (rw [hw.2.2]; rfl)
theorem gn_Pr (hw : gx_isC ca w) (h : pk_Pr o) : o < gx_N w := by rw [hw.2.1]; exact Nat.lt_of_lt_of_le h.2 (by decide)
theorem gn_Se (hw : gx_isC ca w) (h : pk_Se o) : o < gx_N w := by rw [hw.2.1]; exact Nat.lt_of_lt_of_le h.2 (by decide)
theorem gn_SA (hw : gx_isC ca w) (h : pk_SA o) : o < gx_N w := by rw [hw.2.1]; exact Nat.lt_of_lt_of_le h.2 (by decide)
theorem gn_CA (hw : gx_isC ca w) (h : pk_CA o) : o < gx_N w := by rw [hw.2.1]; exact Nat.lt_of_lt_of_le h.2 (by decide)
theorem gn_Si (hw : gx_isC ca w) (h : pk_Si o) : o < gx_N w := by rw [hw.2.1]; exact Nat.lt_of_lt_of_le h.2 (by decide)
theorem gn_PA (hw : gx_isC ca w) (h : pk_PA o) : o < gx_N w := by rw [hw.2.1]; exact Nat.lt_of_lt_of_le h.2 (by decide)
theorem gn_Ch (hw : gx_isC ca w) (h : pk_Ch o) : o < gx_N w := by rw [hw.2.1]; exact Nat.lt_of_lt_of_le h.2 (by decide)
theorem gn_Pt (hw : gx_isC ca w) (h : pk_Pt o) : o < gx_N w := by rw [hw.2.1]; exact Nat.lt_of_lt_of_le h.2 (by decide)
theorem gn_a3 (hw : gx_isC ca w) (h : pk_a3 o) : o < gx_N w := by rw [hw.2.1]; rcases h with rfl | rfl | rfl | ⟨h1, h2⟩ <;> omega
theorem gn_a2 (hw : gx_isC ca w) (h : pk_a2 o) : o < gx_N w := by rw [hw.2.1]; rcases h with rfl | rfl | rfl | rfl <;> omega
theorem gn_a20 (hw : gx_isC ca w) (h : pk_a20 o) : o < gx_N w := by rw [hw.2.1]; rcases h with rfl | rfl <;> omega
theorem gd_0 (hw : gx_isR ca w) (r : Nat → Int32) : gx_cf w 0 r = .inr (11, fs_X11 (gx_ad w) 0 r) := by rw [hw.2.2]; rfl
theorem gd_1 (hw : gx_isR ca w) (r : Nat → Int32) : gx_cf w 1 r = .inl (ca 0, 170, .inl r) := by rw [hw.2.2]; rfl
theorem gd_2 (hw : gx_isR ca w) (r : Nat → Int32) : gx_cf w 2 r = .inl (ca 0, 170, .inl r) := by rw [hw.2.2]; rfl
theorem gd_3 (hw : gx_isR ca w) (r : Nat → Int32) : gx_cf w 3 r = .inl (ca 6, 300, .inl r) := by rw [hw.2.2]; rfl
theorem gd_4 (hw : gx_isR ca w) (r : Nat → Int32) : gx_cf w 4 r = .inl (ca 0, 4, .inl r) := by rw [hw.2.2]; rfl
theorem gd_5 (hw : gx_isR ca w) (r : Nat → Int32) : gx_cf w 5 r = .inl (ca 0, 40, .inl r) := by rw [hw.2.2]; rfl
theorem gd_6 (hw : gx_isR ca w) (r : Nat → Int32) : gx_cf w 6 r = .inl (ca 0, 40, .inl r) := by rw [hw.2.2]; rfl
theorem gd_7 (hw : gx_isR ca w) (r : Nat → Int32) : gx_cf w 7 r = .inl (ca 0, 1600, .inl r) := by rw [hw.2.2]; rfl
theorem gd_8 (hw : gx_isR ca w) (r : Nat → Int32) : gx_cf w 8 r = .inl (ca 0, 1600, .inl r) := by rw [hw.2.2]; rfl
theorem gd_9 (hw : gx_isR ca w) (r : Nat → Int32) : gx_cf w 9 r = .inl (ca 0, 4000, .inl r) := by rw [hw.2.2]; rfl
theorem gd_10 (hw : gx_isR ca w) (r : Nat → Int32) : gx_cf w 10 r = .inl (ca 0, 40, .inl r) := by rw [hw.2.2]; rfl
theorem gd_11 (hw : gx_isR ca w) (r : Nat → Int32) : gx_cf w 11 r = .inl (ca 0, 41, .inl r) := by rw [hw.2.2]; rfl
theorem gd_12 (hw : gx_isR ca w) (r : Nat → Int32) : gx_cf w 12 r = .inl (ca 0, 80, .inl r) := by rw [hw.2.2]; rfl
theorem gd_13 (hw : gx_isR ca w) (r : Nat → Int32) : gx_cf w 13 r = .inl (ca 0, 80, .inl r) := by rw [hw.2.2]; rfl
theorem gd_14 (hw : gx_isR ca w) (r : Nat → Int32) : gx_cf w 14 r = .inl (ca 0, 10, .inl r) := by rw [hw.2.2]; rfl
theorem gd_15 (hw : gx_isR ca w) (r : Nat → Int32) : gx_cf w 15 r = .inl (ca 0, 10, .inl r) := by rw [hw.2.2]; rfl
theorem gd_16 (hw : gx_isR ca w) (r : Nat → Int32) : gx_cf w 16 r = .inl (ca 0, 400, .inl r) := by rw [hw.2.2]; rfl
theorem gd_17 (hw : gx_isR ca w) (r : Nat → Int32) : gx_cf w 17 r = .inl (ca 0, 400, .inl r) := by rw [hw.2.2]; rfl
theorem gd_18 (hw : gx_isR ca w) (r : Nat → Int32) : gx_cf w 18 r = .inl (ca 0, 7, .inl r) := by rw [hw.2.2]; rfl
theorem gd_19 (hw : gx_isR ca w) (r : Nat → Int32) : gx_cf w 19 r = .inl (ca 8, 200, .inr (.inl (gx_rl r))) := by rw [hw.2.2]; rfl
theorem gd_20 (hw : gx_isR ca w) (r : Nat → Int32) : gx_cf w 20 r = .inl (ca 0, 120, .inl r) := by rw [hw.2.2]; rfl
theorem gd_21 (hw : gx_isR ca w) (r : Nat → Int32) : gx_cf w 21 r = .inl (ca 0, 320, .inl r) := by rw [hw.2.2]; rfl
theorem gd_22 (hw : gx_isR ca w) (r : Nat → Int32) : gx_cf w 22 r = .inl (ca 0, 20, .inl r) := by rw [hw.2.2]; rfl
theorem gd_23 (hw : gx_isR ca w) (r : Nat → Int32) : gx_cf w 23 r = .inl (ca 7, 320, .inl r) := by rw [hw.2.2]; rfl
theorem vp_lt {i : Int32} {n : Nat} (h : vp_in i n) : i.toNatClampNeg < n := Nat.not_le.mp fun q => h (Or.inr q)
end WORLDS
theorem cl_X0 : gx_cl 0 RX0 TX0 7 tyX0 := ⟨rfl, gx_ins _ [268, 270, 272, 274, 276, 278, 280] (by decide +kernel) (by decide +kernel), tyX0_ok, nmX0⟩
theorem gv_X0_0 (ad : Nat → Nat) (o : Nat) (r : Nat → Int32) : (fs_X0 ad o r)[0]? = some (.ref (ad 3)) := rfl
theorem gv_X0_1 (ad : Nat → Nat) (o : Nat) (r : Nat → Int32) : (fs_X0 ad o r)[1]? = some (.int (r 1)) := rfl
theorem gs_X0_1 (ad : Nat → Nat) (o : Nat) (r : Nat → Int32) (x : Int32) : (Sum.inr (0, fs_X0 ad o (upd r 1 x)) : va_E) = .inr (0, (fs_X0 ad o r).set 1 (.int x)) := rfl
theorem gv_X0_2 (ad : Nat → Nat) (o : Nat) (r : Nat → Int32) : (fs_X0 ad o r)[2]? = some (.int (r 2)) := rfl
theorem gs_X0_2 (ad : Nat → Nat) (o : Nat) (r : Nat → Int32) (x : Int32) : (Sum.inr (0, fs_X0 ad o (upd r 2 x)) : va_E) = .inr (0, (fs_X0 ad o r).set 2 (.int x)) := rfl
theorem gv_X0_3 (ad : Nat → Nat) (o : Nat) (r : Nat → Int32) : (fs_X0 ad o r)[3]? = some (.int (r 3)) := rfl
theorem gs_X0_3 (ad : Nat → Nat) (o : Nat) (r : Nat → Int32) (x : Int32) : (Sum.inr (0, fs_X0 ad o (upd r 3 x)) : va_E) = .inr (0, (fs_X0 ad o r).set 3 (.int x)) := rfl
theorem gv_X0_4 (ad : Nat → Nat) (o : Nat) (r : Nat → Int32) : (fs_X0 ad o r)[4]? = some (.int (r 4)) := rfl
theorem gs_X0_4 (ad : Nat → Nat) (o : Nat) (r : Nat → Int32) (x : Int32) : (Sum.inr (0, fs_X0 ad o (upd r 4 x)) : va_E) = .inr (0, (fs_X0 ad o r).set 4 (.int x)) := rfl
theorem gv_X0_5 (ad : Nat → Nat) (o : Nat) (r : Nat → Int32) : (fs_X0 ad o r)[5]? = some (.int (r 5)) := rfl
theorem gs_X0_5 (ad : Nat → Nat) (o : Nat) (r : Nat → Int32) (x : Int32) : (Sum.inr (0, fs_X0 ad o (upd r 5 x)) : va_E) = .inr (0, (fs_X0 ad o r).set 5 (.int x)) := rfl
theorem gv_X0_6 (ad : Nat → Nat) (o : Nat) (r : Nat → Int32) : (fs_X0 ad o r)[6]? = some (.int (r 6)) := rfl
theorem gs_X0_6 (ad : Nat → Nat) (o : Nat) (r : Nat → Int32) (x : Int32) : (Sum.inr (0, fs_X0 ad o (upd r 6 x)) : va_E) = .inr (0, (fs_X0 ad o r).set 6 (.int x)) := rfl
theorem cl_X1 : gx_cl 1 RX1 TX1 9 tyX1 := ⟨rfl, gx_ins _ [298, 300, 302, 304, 306, 308, 310, 312, 314] (by decide +kernel) (by decide +kernel), tyX1_ok, nmX1⟩
theorem gv_X1_0 (ad : Nat → Nat) (o : Nat) (r : Nat → Int32) : (fs_X1 ad o r)[0]? = some (.ref (ad 34)) := rfl
theorem gv_X1_1 (ad : Nat → Nat) (o : Nat) (r : Nat → Int32) : (fs_X1 ad o r)[1]? = some (.ref (ad 15)) := rfl
theorem gv_X1_2 (ad : Nat → Nat) (o : Nat) (r : Nat → Int32) : (fs_X1 ad o r)[2]? = some (.ref (ad 20)) := rfl
theorem gv_X1_3 (ad : Nat → Nat) (o : Nat) (r : Nat → Int32) : (fs_X1 ad o r)[3]? = some (.ref (ad 2)) := rfl
theorem gv_X1_4 (ad : Nat → Nat) (o : Nat) (r : Nat → Int32) : (fs_X1 ad o r)[4]? = some (.ref (ad 12)) := rfl
theorem gv_X1_5 (ad : Nat → Nat) (o : Nat) (r : Nat → Int32) : (fs_X1 ad o r)[5]? = some (.int (r 5)) := rfl
theorem gs_X1_5 (ad : Nat → Nat) (o : Nat) (r : Nat → Int32) (x : Int32) : (Sum.inr (1, fs_X1 ad o (upd r 5 x)) : va_E) = .inr (1, (fs_X1 ad o r).set 5 (.int x)) := rfl
theorem gv_X1_6 (ad : Nat → Nat) (o : Nat) (r : Nat → Int32) : (fs_X1 ad o r)[6]? = some (.int (r 6)) := rfl
theorem gs_X1_6 (ad : Nat → Nat) (o : Nat) (r : Nat → Int32) (x : Int32) : (Sum.inr (1, fs_X1 ad o (upd r 6 x)) : va_E) = .inr (1, (fs_X1 ad o r).set 6 (.int x)) := rfl
theorem gv_X1_7 (ad : Nat → Nat) (o : Nat) (r : Nat → Int32) : (fs_X1 ad o r)[7]? = some (.int (r 7)) := rfl
theorem gs_X1_7 (ad : Nat → Nat) (o : Nat) (r : Nat → Int32) (x : Int32) : (Sum.inr (1, fs_X1 ad o (upd r 7 x)) : va_E) = .inr (1, (fs_X1 ad o r).set 7 (.int x)) := rfl
theorem gv_X1_8 (ad : Nat → Nat) (o : Nat) (r : Nat → Int32) : (fs_X1 ad o r)[8]? = some (.int (r 8)) := rfl
theorem gs_X1_8 (ad : Nat → Nat) (o : Nat) (r : Nat → Int32) (x : Int32) : (Sum.inr (1, fs_X1 ad o (upd r 8 x)) : va_E) = .inr (1, (fs_X1 ad o r).set 8 (.int x)) := rfl
theorem cl_X2 : gx_cl 2 RX2 TX2 6 tyX2 := ⟨rfl, gx_ins _ [159, 161, 163, 165, 167, 169] (by decide +kernel) (by decide +kernel), tyX2_ok, nmX2⟩
theorem gv_X2_0 (ad : Nat → Nat) (o : Nat) (r : Nat → Int32) : (fs_X2 ad o r)[0]? = some (.int (r 0)) := rfl
theorem gs_X2_0 (ad : Nat → Nat) (o : Nat) (r : Nat → Int32) (x : Int32) : (Sum.inr (2, fs_X2 ad o (upd r 0 x)) : va_E) = .inr (2, (fs_X2 ad o r).set 0 (.int x)) := rfl
theorem gv_X2_1 (ad : Nat → Nat) (o : Nat) (r : Nat → Int32) : (fs_X2 ad o r)[1]? = some (.int (r 1)) := rfl
theorem gs_X2_1 (ad : Nat → Nat) (o : Nat) (r : Nat → Int32) (x : Int32) : (Sum.inr (2, fs_X2 ad o (upd r 1 x)) : va_E) = .inr (2, (fs_X2 ad o r).set 1 (.int x)) := rfl
theorem gv_X2_2 (ad : Nat → Nat) (o : Nat) (r : Nat → Int32) : (fs_X2 ad o r)[2]? = some (.int (r 2)) := rfl
theorem gs_X2_2 (ad : Nat → Nat) (o : Nat) (r : Nat → Int32) (x : Int32) : (Sum.inr (2, fs_X2 ad o (upd r 2 x)) : va_E) = .inr (2, (fs_X2 ad o r).set 2 (.int x)) := rfl
theorem gv_X2_3 (ad : Nat → Nat) (o : Nat) (r : Nat → Int32) : (fs_X2 ad o r)[3]? = some (.int (r 3)) := rfl
theorem gs_X2_3 (ad : Nat → Nat) (o : Nat) (r : Nat → Int32) (x : Int32) : (Sum.inr (2, fs_X2 ad o (upd r 3 x)) : va_E) = .inr (2, (fs_X2 ad o r).set 3 (.int x)) := rfl
theorem gv_X2_4 (ad : Nat → Nat) (o : Nat) (r : Nat → Int32) : (fs_X2 ad o r)[4]? = some (.int (r 4)) := rfl
theorem gs_X2_4 (ad : Nat → Nat) (o : Nat) (r : Nat → Int32) (x : Int32) : (Sum.inr (2, fs_X2 ad o (upd r 4 x)) : va_E) = .inr (2, (fs_X2 ad o r).set 4 (.int x)) := rfl
theorem gv_X2_5 (ad : Nat → Nat) (o : Nat) (r : Nat → Int32) : (fs_X2 ad o r)[5]? = some (.int (r 5)) := rfl
theorem gs_X2_5 (ad : Nat → Nat) (o : Nat) (r : Nat → Int32) (x : Int32) : (Sum.inr (2, fs_X2 ad o (upd r 5 x)) : va_E) = .inr (2, (fs_X2 ad o r).set 5 (.int x)) := rfl
theorem cl_X3 : gx_cl 3 RX3 TX3 5 tyX3 := ⟨rfl, gx_ins _ [123, 125, 127, 129, 131] (by decide +kernel) (by decide +kernel), tyX3_ok, nmX3⟩
theorem gv_X3_0 (ad : Nat → Nat) (o : Nat) (r : Nat → Int32) : (fs_X3 ad o r)[0]? = some (.int (r 0)) := rfl
theorem gs_X3_0 (ad : Nat → Nat) (o : Nat) (r : Nat → Int32) (x : Int32) : (Sum.inr (3, fs_X3 ad o (upd r 0 x)) : va_E) = .inr (3, (fs_X3 ad o r).set 0 (.int x)) := rfl
theorem gv_X3_1 (ad : Nat → Nat) (o : Nat) (r : Nat → Int32) : (fs_X3 ad o r)[1]? = some (.int (r 1)) := rfl
theorem gs_X3_1 (ad : Nat → Nat) (o : Nat) (r : Nat → Int32) (x : Int32) : (Sum.inr (3, fs_X3 ad o (upd r 1 x)) : va_E) = .inr (3, (fs_X3 ad o r).set 1 (.int x)) := rfl
theorem gv_X3_2 (ad : Nat → Nat) (o : Nat) (r : Nat → Int32) : (fs_X3 ad o r)[2]? = some (.int (r 2)) := rfl
theorem gs_X3_2 (ad : Nat → Nat) (o : Nat) (r : Nat → Int32) (x : Int32) : (Sum.inr (3, fs_X3 ad o (upd r 2 x)) : va_E) = .inr (3, (fs_X3 ad o r).set 2 (.int x)) := rfl
theorem gv_X3_3 (ad : Nat → Nat) (o : Nat) (r : Nat → Int32) : (fs_X3 ad o r)[3]? = some (.int (r 3)) := rfl
theorem gs_X3_3 (ad : Nat → Nat) (o : Nat) (r : Nat → Int32) (x : Int32) : (Sum.inr (3, fs_X3 ad o (upd r 3 x)) : va_E) = .inr (3, (fs_X3 ad o r).set 3 (.int x)) := rfl
theorem gv_X3_4 (ad : Nat → Nat) (o : Nat) (r : Nat → Int32) : (fs_X3 ad o r)[4]? = some (.int (r 4)) := rfl
theorem gs_X3_4 (ad : Nat → Nat) (o : Nat) (r : Nat → Int32) (x : Int32) : (Sum.inr (3, fs_X3 ad o (upd r 4 x)) : va_E) = .inr (3, (fs_X3 ad o r).set 4 (.int x)) := rfl
theorem cl_X4 : gx_cl 4 RX4 TX4 4 tyX4 := ⟨rfl, gx_ins _ [240, 242, 244, 246] (by decide +kernel) (by decide +kernel), tyX4_ok, nmX4⟩
theorem gv_X4_0 (ad : Nat → Nat) (o : Nat) (r : Nat → Int32) : (fs_X4 ad o r)[0]? = some (.ref (ad (o + 6))) := rfl
theorem gv_X4_1 (ad : Nat → Nat) (o : Nat) (r : Nat → Int32) : (fs_X4 ad o r)[1]? = some (.ref (ad (o + 12))) := rfl
theorem gv_X4_2 (ad : Nat → Nat) (o : Nat) (r : Nat → Int32) : (fs_X4 ad o r)[2]? = some (.int (r 2)) := rfl
theorem gs_X4_2 (ad : Nat → Nat) (o : Nat) (r : Nat → Int32) (x : Int32) : (Sum.inr (4, fs_X4 ad o (upd r 2 x)) : va_E) = .inr (4, (fs_X4 ad o r).set 2 (.int x)) := rfl
theorem gv_X4_3 (ad : Nat → Nat) (o : Nat) (r : Nat → Int32) : (fs_X4 ad o r)[3]? = some (.int (r 3)) := rfl
theorem gs_X4_3 (ad : Nat → Nat) (o : Nat) (r : Nat → Int32) (x : Int32) : (Sum.inr (4, fs_X4 ad o (upd r 3 x)) : va_E) = .inr (4, (fs_X4 ad o r).set 3 (.int x)) := rfl
theorem cl_X5 : gx_cl 5 RX5 TX5 17 tyX5 := ⟨rfl, gx_ins _ [376, 378, 380, 382, 384, 386, 388, 390, 392, 394, 396, 398, 400, 402, 404, 406, 408] (by decide +kernel) (by decide +kernel), tyX5_ok, nmX5⟩
theorem gv_X5_0 (ad : Nat → Nat) (o : Nat) (r : Nat → Int32) : (fs_X5 ad o r)[0]? = some (.ref (ad 5)) := rfl
theorem gv_X5_1 (ad : Nat → Nat) (o : Nat) (r : Nat → Int32) : (fs_X5 ad o r)[1]? = some (.ref (ad 7)) := rfl
theorem gv_X5_2 (ad : Nat → Nat) (o : Nat) (r : Nat → Int32) : (fs_X5 ad o r)[2]? = some (.int (r 2)) := rfl
theorem gs_X5_2 (ad : Nat → Nat) (o : Nat) (r : Nat → Int32) (x : Int32) : (Sum.inr (5, fs_X5 ad o (upd r 2 x)) : va_E) = .inr (5, (fs_X5 ad o r).set 2 (.int x)) := rfl
theorem gv_X5_3 (ad : Nat → Nat) (o : Nat) (r : Nat → Int32) : (fs_X5 ad o r)[3]? = some (.int (r 3)) := rfl
theorem gs_X5_3 (ad : Nat → Nat) (o : Nat) (r : Nat → Int32) (x : Int32) : (Sum.inr (5, fs_X5 ad o (upd r 3 x)) : va_E) = .inr (5, (fs_X5 ad o r).set 3 (.int x)) := rfl
theorem gv_X5_4 (ad : Nat → Nat) (o : Nat) (r : Nat → Int32) : (fs_X5 ad o r)[4]? = some (.int (r 4)) := rfl
theorem gs_X5_4 (ad : Nat → Nat) (o : Nat) (r : Nat → Int32) (x : Int32) : (Sum.inr (5, fs_X5 ad o (upd r 4 x)) : va_E) = .inr (5, (fs_X5 ad o r).set 4 (.int x)) := rfl
theorem gv_X5_5 (ad : Nat → Nat) (o : Nat) (r : Nat → Int32) : (fs_X5 ad o r)[5]? = some (.int (r 5)) := rfl
theorem gs_X5_5 (ad : Nat → Nat) (o : Nat) (r : Nat → Int32) (x : Int32) : (Sum.inr (5, fs_X5 ad o (upd r 5 x)) : va_E) = .inr (5, (fs_X5 ad o r).set 5 (.int x)) := rfl
theorem gv_X5_6 (ad : Nat → Nat) (o : Nat) (r : Nat → Int32) : (fs_X5 ad o r)[6]? = some (.int (r 6)) := rfl
theorem gs_X5_6 (ad : Nat → Nat) (o : Nat) (r : Nat → Int32) (x : Int32) : (Sum.inr (5, fs_X5 ad o (upd r 6 x)) : va_E) = .inr (5, (fs_X5 ad o r).set 6 (.int x)) := rfl
theorem gv_X5_7 (ad : Nat → Nat) (o : Nat) (r : Nat → Int32) : (fs_X5 ad o r)[7]? = some (.int (r 7)) := rfl
theorem gs_X5_7 (ad : Nat → Nat) (o : Nat) (r : Nat → Int32) (x : Int32) : (Sum.inr (5, fs_X5 ad o (upd r 7 x)) : va_E) = .inr (5, (fs_X5 ad o r).set 7 (.int x)) := rfl
theorem gv_X5_8 (ad : Nat → Nat) (o : Nat) (r : Nat → Int32) : (fs_X5 ad o r)[8]? = some (.int (r 8)) := rfl
theorem gs_X5_8 (ad : Nat → Nat) (o : Nat) (r : Nat → Int32) (x : Int32) : (Sum.inr (5, fs_X5 ad o (upd r 8 x)) : va_E) = .inr (5, (fs_X5 ad o r).set 8 (.int x)) := rfl
theorem gv_X5_9 (ad : Nat → Nat) (o : Nat) (r : Nat → Int32) : (fs_X5 ad o r)[9]? = some (.int (r 9)) := rfl
theorem gs_X5_9 (ad : Nat → Nat) (o : Nat) (r : Nat → Int32) (x : Int32) : (Sum.inr (5, fs_X5 ad o (upd r 9 x)) : va_E) = .inr (5, (fs_X5 ad o r).set 9 (.int x)) := rfl
theorem gv_X5_10 (ad : Nat → Nat) (o : Nat) (r : Nat → Int32) : (fs_X5 ad o r)[10]? = some (.int (r 10)) := rfl
theorem gs_X5_10 (ad : Nat → Nat) (o : Nat) (r : Nat → Int32) (x : Int32) : (Sum.inr (5, fs_X5 ad o (upd r 10 x)) : va_E) = .inr (5, (fs_X5 ad o r).set 10 (.int x)) := rfl
theorem gv_X5_11 (ad : Nat → Nat) (o : Nat) (r : Nat → Int32) : (fs_X5 ad o r)[11]? = some (.int (r 11)) := rfl
theorem gs_X5_11 (ad : Nat → Nat) (o : Nat) (r : Nat → Int32) (x : Int32) : (Sum.inr (5, fs_X5 ad o (upd r 11 x)) : va_E) = .inr (5, (fs_X5 ad o r).set 11 (.int x)) := rfl
theorem gv_X5_12 (ad : Nat → Nat) (o : Nat) (r : Nat → Int32) : (fs_X5 ad o r)[12]? = some (.int (r 12)) := rfl
theorem gs_X5_12 (ad : Nat → Nat) (o : Nat) (r : Nat → Int32) (x : Int32) : (Sum.inr (5, fs_X5 ad o (upd r 12 x)) : va_E) = .inr (5, (fs_X5 ad o r).set 12 (.int x)) := rfl
theorem gv_X5_13 (ad : Nat → Nat) (o : Nat) (r : Nat → Int32) : (fs_X5 ad o r)[13]? = some (.int (r 13)) := rfl
theorem gs_X5_13 (ad : Nat → Nat) (o : Nat) (r : Nat → Int32) (x : Int32) : (Sum.inr (5, fs_X5 ad o (upd r 13 x)) : va_E) = .inr (5, (fs_X5 ad o r).set 13 (.int x)) := rfl
theorem gv_X5_14 (ad : Nat → Nat) (o : Nat) (r : Nat → Int32) : (fs_X5 ad o r)[14]? = some (.int (r 14)) := rfl
theorem gs_X5_14 (ad : Nat → Nat) (o : Nat) (r : Nat → Int32) (x : Int32) : (Sum.inr (5, fs_X5 ad o (upd r 14 x)) : va_E) = .inr (5, (fs_X5 ad o r).set 14 (.int x)) := rfl
theorem gv_X5_15 (ad : Nat → Nat) (o : Nat) (r : Nat → Int32) : (fs_X5 ad o r)[15]? = some (.int (r 15)) := rfl
theorem gs_X5_15 (ad : Nat → Nat) (o : Nat) (r : Nat → Int32) (x : Int32) : (Sum.inr (5, fs_X5 ad o (upd r 15 x)) : va_E) = .inr (5, (fs_X5 ad o r).set 15 (.int x)) := rfl
theorem gv_X5_16 (ad : Nat → Nat) (o : Nat) (r : Nat → Int32) : (fs_X5 ad o r)[16]? = some (.ref (ad (r 16).toNatClampNeg)) := rfl
theorem cl_X6 : gx_cl 6 RX6 TX6 6 tyX6 := ⟨rfl, gx_ins _ [341, 343, 345, 347, 349, 351] (by decide +kernel) (by decide +kernel), tyX6_ok, nmX6⟩
theorem gv_X6_0 (ad : Nat → Nat) (o : Nat) (r : Nat → Int32) : (fs_X6 ad o r)[0]? = some (.ref (ad 6)) := rfl
theorem gv_X6_1 (ad : Nat → Nat) (o : Nat) (r : Nat → Int32) : (fs_X6 ad o r)[1]? = some (.int (r 1)) := rfl
theorem gs_X6_1 (ad : Nat → Nat) (o : Nat) (r : Nat → Int32) (x : Int32) : (Sum.inr (6, fs_X6 ad o (upd r 1 x)) : va_E) = .inr (6, (fs_X6 ad o r).set 1 (.int x)) := rfl
theorem gv_X6_2 (ad : Nat → Nat) (o : Nat) (r : Nat → Int32) : (fs_X6 ad o r)[2]? = some (.int (r 2)) := rfl
theorem gs_X6_2 (ad : Nat → Nat) (o : Nat) (r : Nat → Int32) (x : Int32) : (Sum.inr (6, fs_X6 ad o (upd r 2 x)) : va_E) = .inr (6, (fs_X6 ad o r).set 2 (.int x)) := rfl
theorem gv_X6_3 (ad : Nat → Nat) (o : Nat) (r : Nat → Int32) : (fs_X6 ad o r)[3]? = some (.int (r 3)) := rfl
theorem gs_X6_3 (ad : Nat → Nat) (o : Nat) (r : Nat → Int32) (x : Int32) : (Sum.inr (6, fs_X6 ad o (upd r 3 x)) : va_E) = .inr (6, (fs_X6 ad o r).set 3 (.int x)) := rfl
theorem gv_X6_4 (ad : Nat → Nat) (o : Nat) (r : Nat → Int32) : (fs_X6 ad o r)[4]? = some (.int (r 4)) := rfl
theorem gs_X6_4 (ad : Nat → Nat) (o : Nat) (r : Nat → Int32) (x : Int32) : (Sum.inr (6, fs_X6 ad o (upd r 4 x)) : va_E) = .inr (6, (fs_X6 ad o r).set 4 (.int x)) := rfl
theorem gv_X6_5 (ad : Nat → Nat) (o : Nat) (r : Nat → Int32) : (fs_X6 ad o r)[5]? = some (.int (r 5)) := rfl
theorem gs_X6_5 (ad : Nat → Nat) (o : Nat) (r : Nat → Int32) (x : Int32) : (Sum.inr (6, fs_X6 ad o (upd r 5 x)) : va_E) = .inr (6, (fs_X6 ad o r).set 5 (.int x)) := rfl
theorem cl_X7 : gx_cl 7 RX7 TX7 1 tyX7 := ⟨rfl, gx_ins _ [418] (by decide +kernel) (by decide +kernel), tyX7_ok, nmX7⟩
theorem gv_X7_0 (ad : Nat → Nat) (o : Nat) (r : Nat → Int32) : (fs_X7 ad o r)[0]? = some (.ref (ad 9)) := rfl
theorem cl_X8 : gx_cl 8 RX8 TX8 10 tyX8 := ⟨rfl, gx_ins _ [200, 202, 204, 206, 208, 210, 212, 214, 216, 218] (by decide +kernel) (by decide +kernel), tyX8_ok, nmX8⟩
theorem gv_X8_0 (ad : Nat → Nat) (o : Nat) (r : Nat → Int32) : (fs_X8 ad o r)[0]? = some (.ref (ad (o + 2))) := rfl
theorem gv_X8_1 (ad : Nat → Nat) (o : Nat) (r : Nat → Int32) : (fs_X8 ad o r)[1]? = some (.ref (ad (o + 4))) := rfl
theorem gv_X8_2 (ad : Nat → Nat) (o : Nat) (r : Nat → Int32) : (fs_X8 ad o r)[2]? = some (.ref (ad (o + 6))) := rfl
theorem gv_X8_3 (ad : Nat → Nat) (o : Nat) (r : Nat → Int32) : (fs_X8 ad o r)[3]? = some (.int (r 3)) := rfl
theorem gs_X8_3 (ad : Nat → Nat) (o : Nat) (r : Nat → Int32) (x : Int32) : (Sum.inr (8, fs_X8 ad o (upd r 3 x)) : va_E) = .inr (8, (fs_X8 ad o r).set 3 (.int x)) := rfl
theorem gv_X8_4 (ad : Nat → Nat) (o : Nat) (r : Nat → Int32) : (fs_X8 ad o r)[4]? = some (.int (r 4)) := rfl
theorem gs_X8_4 (ad : Nat → Nat) (o : Nat) (r : Nat → Int32) (x : Int32) : (Sum.inr (8, fs_X8 ad o (upd r 4 x)) : va_E) = .inr (8, (fs_X8 ad o r).set 4 (.int x)) := rfl
theorem gv_X8_5 (ad : Nat → Nat) (o : Nat) (r : Nat → Int32) : (fs_X8 ad o r)[5]? = some (.int (r 5)) := rfl
theorem gs_X8_5 (ad : Nat → Nat) (o : Nat) (r : Nat → Int32) (x : Int32) : (Sum.inr (8, fs_X8 ad o (upd r 5 x)) : va_E) = .inr (8, (fs_X8 ad o r).set 5 (.int x)) := rfl
theorem gv_X8_6 (ad : Nat → Nat) (o : Nat) (r : Nat → Int32) : (fs_X8 ad o r)[6]? = some (.int (r 6)) := rfl
theorem gs_X8_6 (ad : Nat → Nat) (o : Nat) (r : Nat → Int32) (x : Int32) : (Sum.inr (8, fs_X8 ad o (upd r 6 x)) : va_E) = .inr (8, (fs_X8 ad o r).set 6 (.int x)) := rfl
theorem gv_X8_7 (ad : Nat → Nat) (o : Nat) (r : Nat → Int32) : (fs_X8 ad o r)[7]? = some (.int (r 7)) := rfl
theorem gs_X8_7 (ad : Nat → Nat) (o : Nat) (r : Nat → Int32) (x : Int32) : (Sum.inr (8, fs_X8 ad o (upd r 7 x)) : va_E) = .inr (8, (fs_X8 ad o r).set 7 (.int x)) := rfl
theorem gv_X8_8 (ad : Nat → Nat) (o : Nat) (r : Nat → Int32) : (fs_X8 ad o r)[8]? = some (.int (r 8)) := rfl
theorem gs_X8_8 (ad : Nat → Nat) (o : Nat) (r : Nat → Int32) (x : Int32) : (Sum.inr (8, fs_X8 ad o (upd r 8 x)) : va_E) = .inr (8, (fs_X8 ad o r).set 8 (.int x)) := rfl
theorem gv_X8_9 (ad : Nat → Nat) (o : Nat) (r : Nat → Int32) : (fs_X8 ad o r)[9]? = some (.int (r 9)) := rfl
theorem gs_X8_9 (ad : Nat → Nat) (o : Nat) (r : Nat → Int32) (x : Int32) : (Sum.inr (8, fs_X8 ad o (upd r 9 x)) : va_E) = .inr (8, (fs_X8 ad o r).set 9 (.int x)) := rfl
theorem cl_X9 : gx_cl 9 RX9 TX9 2 tyX9 := ⟨rfl, gx_ins _ [139, 141] (by decide +kernel) (by decide +kernel), tyX9_ok, nmX9⟩
theorem gv_X9_0 (ad : Nat → Nat) (o : Nat) (r : Nat → Int32) : (fs_X9 ad o r)[0]? = some (.ref (ad (o + 8))) := rfl
theorem gv_X9_1 (ad : Nat → Nat) (o : Nat) (r : Nat → Int32) : (fs_X9 ad o r)[1]? = some (.int (r 1)) := rfl
theorem gs_X9_1 (ad : Nat → Nat) (o : Nat) (r : Nat → Int32) (x : Int32) : (Sum.inr (9, fs_X9 ad o (upd r 1 x)) : va_E) = .inr (9, (fs_X9 ad o r).set 1 (.int x)) := rfl
theorem cl_X10 : gx_cl 10 RX10 TX10 12 tyX10 := ⟨rfl, gx_ins _ [435, 437, 439, 441, 443, 445, 447, 449, 451, 453, 455, 457] (by decide +kernel) (by decide +kernel), tyX10_ok, nmX10⟩
theorem gv_X10_0 (ad : Nat → Nat) (o : Nat) (r : Nat → Int32) : (fs_X10 ad o r)[0]? = some (.ref (ad 1)) := rfl
theorem gv_X10_1 (ad : Nat → Nat) (o : Nat) (r : Nat → Int32) : (fs_X10 ad o r)[1]? = some (.ref (ad 34)) := rfl
theorem gv_X10_2 (ad : Nat → Nat) (o : Nat) (r : Nat → Int32) : (fs_X10 ad o r)[2]? = some (.ref (ad 35)) := rfl
theorem gv_X10_3 (ad : Nat → Nat) (o : Nat) (r : Nat → Int32) : (fs_X10 ad o r)[3]? = some (.ref (ad 4)) := rfl
theorem gv_X10_4 (ad : Nat → Nat) (o : Nat) (r : Nat → Int32) : (fs_X10 ad o r)[4]? = some (.ref (ad 6)) := rfl
theorem gv_X10_5 (ad : Nat → Nat) (o : Nat) (r : Nat → Int32) : (fs_X10 ad o r)[5]? = some (.ref (ad 8)) := rfl
theorem gv_X10_6 (ad : Nat → Nat) (o : Nat) (r : Nat → Int32) : (fs_X10 ad o r)[6]? = some (.ref (ad 110)) := rfl
theorem gv_X10_7 (ad : Nat → Nat) (o : Nat) (r : Nat → Int32) : (fs_X10 ad o r)[7]? = some (.ref (ad 10)) := rfl
theorem gv_X10_8 (ad : Nat → Nat) (o : Nat) (r : Nat → Int32) : (fs_X10 ad o r)[8]? = some (.ref (ad 11)) := rfl
theorem gv_X10_9 (ad : Nat → Nat) (o : Nat) (r : Nat → Int32) : (fs_X10 ad o r)[9]? = some (.int (r 9)) := rfl
theorem gs_X10_9 (ad : Nat → Nat) (o : Nat) (r : Nat → Int32) (x : Int32) : (Sum.inr (10, fs_X10 ad o (upd r 9 x)) : va_E) = .inr (10, (fs_X10 ad o r).set 9 (.int x)) := rfl
theorem gv_X10_10 (ad : Nat → Nat) (o : Nat) (r : Nat → Int32) : (fs_X10 ad o r)[10]? = some (.int (r 10)) := rfl
theorem gs_X10_10 (ad : Nat → Nat) (o : Nat) (r : Nat → Int32) (x : Int32) : (Sum.inr (10, fs_X10 ad o (upd r 10 x)) : va_E) = .inr (10, (fs_X10 ad o r).set 10 (.int x)) := rfl
theorem gv_X10_11 (ad : Nat → Nat) (o : Nat) (r : Nat → Int32) : (fs_X10 ad o r)[11]? = some (.int (r 11)) := rfl
theorem gs_X10_11 (ad : Nat → Nat) (o : Nat) (r : Nat → Int32) (x : Int32) : (Sum.inr (10, fs_X10 ad o (upd r 11 x)) : va_E) = .inr (10, (fs_X10 ad o r).set 11 (.int x)) := rfl
theorem cl_X11 : gx_cl 11 RX11 TX11 42 tyX11 := ⟨rfl, gx_ins _ [1045, 1047, 1049, 1051, 1053, 1055, 1057, 1059, 1061, 1063, 1065, 1067, 1069, 1071, 1073, 1075, 1077, 1079, 1081, 1083, 1085, 1087, 1089, 1091, 1093, 1095, 1097, 1099, 1101, 1103, 1105, 1107, 1109, 1111, 1113, 1115, 1117, 1119, 1121, 1123, 1125, 1127] (by decide +kernel) (by decide +kernel), tyX11_ok, nmX11⟩
theorem gv_X11_0 (ad : Nat → Nat) (o : Nat) (r : Nat → Int32) : (fs_X11 ad o r)[0]? = some (.ref (ad 1)) := rfl
theorem gv_X11_1 (ad : Nat → Nat) (o : Nat) (r : Nat → Int32) : (fs_X11 ad o r)[1]? = some (.ref (ad 2)) := rfl
theorem gv_X11_2 (ad : Nat → Nat) (o : Nat) (r : Nat → Int32) : (fs_X11 ad o r)[2]? = some (.ref (ad 3)) := rfl
theorem gv_X11_3 (ad : Nat → Nat) (o : Nat) (r : Nat → Int32) : (fs_X11 ad o r)[3]? = some (.int (r 3)) := rfl
theorem gs_X11_3 (ad : Nat → Nat) (o : Nat) (r : Nat → Int32) (x : Int32) : (Sum.inr (11, fs_X11 ad o (upd r 3 x)) : va_E) = .inr (11, (fs_X11 ad o r).set 3 (.int x)) := rfl
theorem gv_X11_4 (ad : Nat → Nat) (o : Nat) (r : Nat → Int32) : (fs_X11 ad o r)[4]? = some (.int (r 4)) := rfl
theorem gs_X11_4 (ad : Nat → Nat) (o : Nat) (r : Nat → Int32) (x : Int32) : (Sum.inr (11, fs_X11 ad o (upd r 4 x)) : va_E) = .inr (11, (fs_X11 ad o r).set 4 (.int x)) := rfl
theorem gv_X11_5 (ad : Nat → Nat) (o : Nat) (r : Nat → Int32) : (fs_X11 ad o r)[5]? = some (.int (r 5)) := rfl
theorem gs_X11_5 (ad : Nat → Nat) (o : Nat) (r : Nat → Int32) (x : Int32) : (Sum.inr (11, fs_X11 ad o (upd r 5 x)) : va_E) = .inr (11, (fs_X11 ad o r).set 5 (.int x)) := rfl
theorem gv_X11_6 (ad : Nat → Nat) (o : Nat) (r : Nat → Int32) : (fs_X11 ad o r)[6]? = some (.ref (ad 4)) := rfl
theorem gv_X11_7 (ad : Nat → Nat) (o : Nat) (r : Nat → Int32) : (fs_X11 ad o r)[7]? = some (.ref (ad 5)) := rfl
theorem gv_X11_8 (ad : Nat → Nat) (o : Nat) (r : Nat → Int32) : (fs_X11 ad o r)[8]? = some (.ref (ad 6)) := rfl
theorem gv_X11_9 (ad : Nat → Nat) (o : Nat) (r : Nat → Int32) : (fs_X11 ad o r)[9]? = some (.ref (ad 7)) := rfl
theorem gv_X11_10 (ad : Nat → Nat) (o : Nat) (r : Nat → Int32) : (fs_X11 ad o r)[10]? = some (.ref (ad 8)) := rfl
theorem gv_X11_11 (ad : Nat → Nat) (o : Nat) (r : Nat → Int32) : (fs_X11 ad o r)[11]? = some (.ref (ad 9)) := rfl
theorem gv_X11_12 (ad : Nat → Nat) (o : Nat) (r : Nat → Int32) : (fs_X11 ad o r)[12]? = some (.int (r 12)) := rfl
theorem gs_X11_12 (ad : Nat → Nat) (o : Nat) (r : Nat → Int32) (x : Int32) : (Sum.inr (11, fs_X11 ad o (upd r 12 x)) : va_E) = .inr (11, (fs_X11 ad o r).set 12 (.int x)) := rfl
theorem gv_X11_13 (ad : Nat → Nat) (o : Nat) (r : Nat → Int32) : (fs_X11 ad o r)[13]? = some (.int (r 13)) := rfl
theorem gs_X11_13 (ad : Nat → Nat) (o : Nat) (r : Nat → Int32) (x : Int32) : (Sum.inr (11, fs_X11 ad o (upd r 13 x)) : va_E) = .inr (11, (fs_X11 ad o r).set 13 (.int x)) := rfl
theorem gv_X11_14 (ad : Nat → Nat) (o : Nat) (r : Nat → Int32) : (fs_X11 ad o r)[14]? = some (.int (r 14)) := rfl
theorem gs_X11_14 (ad : Nat → Nat) (o : Nat) (r : Nat → Int32) (x : Int32) : (Sum.inr (11, fs_X11 ad o (upd r 14 x)) : va_E) = .inr (11, (fs_X11 ad o r).set 14 (.int x)) := rfl
theorem gv_X11_15 (ad : Nat → Nat) (o : Nat) (r : Nat → Int32) : (fs_X11 ad o r)[15]? = some (.int (r 15)) := rfl
theorem gs_X11_15 (ad : Nat → Nat) (o : Nat) (r : Nat → Int32) (x : Int32) : (Sum.inr (11, fs_X11 ad o (upd r 15 x)) : va_E) = .inr (11, (fs_X11 ad o r).set 15 (.int x)) := rfl
theorem gv_X11_16 (ad : Nat → Nat) (o : Nat) (r : Nat → Int32) : (fs_X11 ad o r)[16]? = some (.int (r 16)) := rfl
theorem gs_X11_16 (ad : Nat → Nat) (o : Nat) (r : Nat → Int32) (x : Int32) : (Sum.inr (11, fs_X11 ad o (upd r 16 x)) : va_E) = .inr (11, (fs_X11 ad o r).set 16 (.int x)) := rfl
theorem gv_X11_17 (ad : Nat → Nat) (o : Nat) (r : Nat → Int32) : (fs_X11 ad o r)[17]? = some (.int (r 17)) := rfl
theorem gs_X11_17 (ad : Nat → Nat) (o : Nat) (r : Nat → Int32) (x : Int32) : (Sum.inr (11, fs_X11 ad o (upd r 17 x)) : va_E) = .inr (11, (fs_X11 ad o r).set 17 (.int x)) := rfl
theorem gv_X11_18 (ad : Nat → Nat) (o : Nat) (r : Nat → Int32) : (fs_X11 ad o r)[18]? = some (.int (r 18)) := rfl
theorem gs_X11_18 (ad : Nat → Nat) (o : Nat) (r : Nat → Int32) (x : Int32) : (Sum.inr (11, fs_X11 ad o (upd r 18 x)) : va_E) = .inr (11, (fs_X11 ad o r).set 18 (.int x)) := rfl
theorem gv_X11_19 (ad : Nat → Nat) (o : Nat) (r : Nat → Int32) : (fs_X11 ad o r)[19]? = some (.int (r 19)) := rfl
theorem gs_X11_19 (ad : Nat → Nat) (o : Nat) (r : Nat → Int32) (x : Int32) : (Sum.inr (11, fs_X11 ad o (upd r 19 x)) : va_E) = .inr (11, (fs_X11 ad o r).set 19 (.int x)) := rfl
theorem gv_X11_20 (ad : Nat → Nat) (o : Nat) (r : Nat → Int32) : (fs_X11 ad o r)[20]? = some (.int (r 20)) := rfl
theorem gs_X11_20 (ad : Nat → Nat) (o : Nat) (r : Nat → Int32) (x : Int32) : (Sum.inr (11, fs_X11 ad o (upd r 20 x)) : va_E) = .inr (11, (fs_X11 ad o r).set 20 (.int x)) := rfl
theorem gv_X11_21 (ad : Nat → Nat) (o : Nat) (r : Nat → Int32) : (fs_X11 ad o r)[21]? = some (.ref (ad 10)) := rfl
theorem gv_X11_22 (ad : Nat → Nat) (o : Nat) (r : Nat → Int32) : (fs_X11 ad o r)[22]? = some (.ref (ad 11)) := rfl
theorem gv_X11_23 (ad : Nat → Nat) (o : Nat) (r : Nat → Int32) : (fs_X11 ad o r)[23]? = some (.int (r 23)) := rfl
theorem gs_X11_23 (ad : Nat → Nat) (o : Nat) (r : Nat → Int32) (x : Int32) : (Sum.inr (11, fs_X11 ad o (upd r 23 x)) : va_E) = .inr (11, (fs_X11 ad o r).set 23 (.int x)) := rfl
theorem gv_X11_24 (ad : Nat → Nat) (o : Nat) (r : Nat → Int32) : (fs_X11 ad o r)[24]? = some (.ref (ad 12)) := rfl
theorem gv_X11_25 (ad : Nat → Nat) (o : Nat) (r : Nat → Int32) : (fs_X11 ad o r)[25]? = some (.ref (ad 13)) := rfl
theorem gv_X11_26 (ad : Nat → Nat) (o : Nat) (r : Nat → Int32) : (fs_X11 ad o r)[26]? = some (.int (r 26)) := rfl
theorem gs_X11_26 (ad : Nat → Nat) (o : Nat) (r : Nat → Int32) (x : Int32) : (Sum.inr (11, fs_X11 ad o (upd r 26 x)) : va_E) = .inr (11, (fs_X11 ad o r).set 26 (.int x)) := rfl
theorem gv_X11_27 (ad : Nat → Nat) (o : Nat) (r : Nat → Int32) : (fs_X11 ad o r)[27]? = some (.int (r 27)) := rfl
theorem gs_X11_27 (ad : Nat → Nat) (o : Nat) (r : Nat → Int32) (x : Int32) : (Sum.inr (11, fs_X11 ad o (upd r 27 x)) : va_E) = .inr (11, (fs_X11 ad o r).set 27 (.int x)) := rfl
theorem gv_X11_28 (ad : Nat → Nat) (o : Nat) (r : Nat → Int32) : (fs_X11 ad o r)[28]? = some (.ref (ad 14)) := rfl
theorem gv_X11_29 (ad : Nat → Nat) (o : Nat) (r : Nat → Int32) : (fs_X11 ad o r)[29]? = some (.ref (ad 15)) := rfl
theorem gv_X11_30 (ad : Nat → Nat) (o : Nat) (r : Nat → Int32) : (fs_X11 ad o r)[30]? = some (.int (r 30)) := rfl
theorem gs_X11_30 (ad : Nat → Nat) (o : Nat) (r : Nat → Int32) (x : Int32) : (Sum.inr (11, fs_X11 ad o (upd r 30 x)) : va_E) = .inr (11, (fs_X11 ad o r).set 30 (.int x)) := rfl
theorem gv_X11_31 (ad : Nat → Nat) (o : Nat) (r : Nat → Int32) : (fs_X11 ad o r)[31]? = some (.ref (ad 16)) := rfl
theorem gv_X11_32 (ad : Nat → Nat) (o : Nat) (r : Nat → Int32) : (fs_X11 ad o r)[32]? = some (.ref (ad 17)) := rfl
theorem gv_X11_33 (ad : Nat → Nat) (o : Nat) (r : Nat → Int32) : (fs_X11 ad o r)[33]? = some (.ref (ad 18)) := rfl
theorem gv_X11_34 (ad : Nat → Nat) (o : Nat) (r : Nat → Int32) : (fs_X11 ad o r)[34]? = some (.ref (ad 19)) := rfl
theorem gv_X11_35 (ad : Nat → Nat) (o : Nat) (r : Nat → Int32) : (fs_X11 ad o r)[35]? = some (.int (r 35)) := rfl
theorem gs_X11_35 (ad : Nat → Nat) (o : Nat) (r : Nat → Int32) (x : Int32) : (Sum.inr (11, fs_X11 ad o (upd r 35 x)) : va_E) = .inr (11, (fs_X11 ad o r).set 35 (.int x)) := rfl
theorem gv_X11_36 (ad : Nat → Nat) (o : Nat) (r : Nat → Int32) : (fs_X11 ad o r)[36]? = some (.ref (ad 20)) := rfl
theorem gv_X11_37 (ad : Nat → Nat) (o : Nat) (r : Nat → Int32) : (fs_X11 ad o r)[37]? = some (.ref (ad 21)) := rfl
theorem gv_X11_38 (ad : Nat → Nat) (o : Nat) (r : Nat → Int32) : (fs_X11 ad o r)[38]? = some (.ref (ad 22)) := rfl
theorem gv_X11_39 (ad : Nat → Nat) (o : Nat) (r : Nat → Int32) : (fs_X11 ad o r)[39]? = some (.int (r 39)) := rfl
theorem gs_X11_39 (ad : Nat → Nat) (o : Nat) (r : Nat → Int32) (x : Int32) : (Sum.inr (11, fs_X11 ad o (upd r 39 x)) : va_E) = .inr (11, (fs_X11 ad o r).set 39 (.int x)) := rfl
theorem gv_X11_40 (ad : Nat → Nat) (o : Nat) (r : Nat → Int32) : (fs_X11 ad o r)[40]? = some (.int (r 40)) := rfl
theorem gs_X11_40 (ad : Nat → Nat) (o : Nat) (r : Nat → Int32) (x : Int32) : (Sum.inr (11, fs_X11 ad o (upd r 40 x)) : va_E) = .inr (11, (fs_X11 ad o r).set 40 (.int x)) := rfl
theorem gv_X11_41 (ad : Nat → Nat) (o : Nat) (r : Nat → Int32) : (fs_X11 ad o r)[41]? = some (.ref (ad 23)) := rfl
theorem gs_X5_16 (ad : Nat → Nat) (o q : Nat) (r : Nat → Int32) (hq : (nI q).toNatClampNeg = q) : (Sum.inr (5, fs_X5 ad o (upd r 16 (nI q))) : va_E) = .inr (5, (fs_X5 ad o r).set 16 (.ref (ad q))) := by
  have e : fs_X5 ad o (upd r 16 (nI q)) = (fs_X5 ad o r).set 16 (.ref (ad q)) := by
    unfold fs_X5
    simp [upd, hq]
  rw [e]
