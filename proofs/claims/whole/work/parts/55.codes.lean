/-! rows of signs: what both sides work out. A list of signs has its latest sign first. -/
def q_row (r : Nat → Int32) : List Int32 → Prop
  | [] => True
  | c :: l => r l.length = c ∧ q_row r l
def q_bd (v : Int) : Int := if v ≤ 1000000 then (if -1000000 ≤ v then v else -1000000) else 1000000
def q_jn (c : Int32) (x y : Int) : Int :=
  if c = -21 then q_bd (x + y) else if c = -22 then q_bd (x - y) else if c = -23 then q_bd (x * y)
  else if c = -24 then (if y = 0 then 0 else x.tdiv y)
  else if c = -31 then (if x < y then 1 else 0) else if c = -32 then (if x ≤ y then 1 else 0)
  else if c = -33 then (if y < x then 1 else 0) else if c = -34 then (if y ≤ x then 1 else 0)
  else if c = -35 then (if x = y then 1 else 0) else if c = -36 then (if x = y then 0 else 1)
  else if c = -42 then x * y else (if x + y ≤ 0 then 0 else 1)
def q_isA (c : Int32) : Prop := c = -21 ∨ c = -22 ∨ c = -23 ∨ c = -24
def q_isR (c : Int32) : Prop := c = -31 ∨ c = -32 ∨ c = -33 ∨ c = -34 ∨ c = -35 ∨ c = -36
def q_isP (c : Int32) : Prop := (0 ≤ c ∧ c ≤ 9999) ∨ (-17 ≤ c ∧ c ≤ -11)
/-- one sign on a stack of kinds (true: a number, false: so or not) -/
def q_ts (c : Int32) (S T : List Bool) : Prop :=
  (q_isP c ∧ T = true :: S) ∨ (c = -25 ∧ ∃ r, S = true :: r ∧ T = true :: r) ∨ (c = -41 ∧ ∃ r, S = false :: r ∧ T = false :: r) ∨
  (q_isA c ∧ ∃ r, S = true :: true :: r ∧ T = true :: r) ∨ (q_isR c ∧ ∃ r, S = true :: true :: r ∧ T = false :: r) ∨
  ((c = -42 ∨ c = -43) ∧ ∃ r, S = false :: false :: r ∧ T = false :: r)
def q_tc : List Int32 → List Bool → Prop
  | [], T => T = []
  | c :: l, T => ∃ S, q_tc l S ∧ q_ts c S T
def q_st (w : Nat → Int32) (c : Int32) (S : List Int) : List Int :=
  if -17 ≤ c then (if 0 ≤ c then c.toInt else (w ((-11) - c).toNatClampNeg).toInt) :: S
  else match S with
    | [] => []
    | x :: r => if c = -25 then (-x) :: r else if c = -41 then (1 - x) :: r else match r with
      | [] => [x]
      | y :: r2 => q_jn c y x :: r2
def q_ev (w : Nat → Int32) : List Int32 → List Int
  | [] => []
  | c :: l => q_st w c (q_ev w l)
def q_ty (b : Bool) (v : Int) : Prop := if b = true then -1000000 ≤ v ∧ v ≤ 1000000 else v = 0 ∨ v = 1
def q_tys : List Bool → List Int → Prop
  | [], S => S = []
  | b :: T, S => ∃ v r, S = v :: r ∧ q_ty b v ∧ q_tys T r
def q_wd (w : Nat → Int32) : Prop := ∀ i, i < 7 → -1000000 ≤ (w i).toInt ∧ (w i).toInt ≤ 1000000
theorem q_bd_in (v : Int) : -1000000 ≤ q_bd v ∧ q_bd v ≤ 1000000 := by
  unfold q_bd
  by_cases h : v ≤ 1000000
  · rw [if_pos h]
    by_cases h2 : -1000000 ≤ v
    · rw [if_pos h2]; omega
    · rw [if_neg h2]; omega
  · rw [if_neg h]; omega
theorem if01 {p : Prop} {hd : Decidable p} : (@ite Int p hd 1 0) = 0 ∨ (@ite Int p hd 1 0) = 1 := by by_cases h : p <;> simp [h]
theorem if10 {p : Prop} {hd : Decidable p} : (@ite Int p hd 0 1) = 0 ∨ (@ite Int p hd 0 1) = 1 := by by_cases h : p <;> simp [h]
theorem q_jnA {c : Int32} {x y : Int} (hc : q_isA c) (hx : q_ty true x) : q_ty true (q_jn c x y) := by
  rcases hc with rfl | rfl | rfl | rfl
  · exact q_bd_in _
  · exact q_bd_in _
  · exact q_bd_in _
  · show q_ty true (if y = 0 then 0 else x.tdiv y)
    unfold q_ty at hx ⊢
    rw [if_pos rfl] at hx ⊢
    by_cases h : y = 0
    · rw [if_pos h]; omega
    · rw [if_neg h]
      rcases Int.lt_or_gt_of_ne h with z | z
      · obtain ⟨k, rfl⟩ : ∃ k, y = -k := ⟨-y, by omega⟩
        rw [Int.tdiv_neg]
        have hk : (1000000 : Int) * 1 ≤ 1000000 * k := Int.mul_le_mul_of_nonneg_left (by omega) (by omega)
        have := td_bd (x := x) (y := k) (B := 1000000) (by omega) (by omega) (by omega) (by omega)
        omega
      · have hk : (1000000 : Int) * 1 ≤ 1000000 * y := Int.mul_le_mul_of_nonneg_left (by omega) (by omega)
        exact td_bd (by omega) (by omega) (by omega) (by omega)
theorem q_jnR {c : Int32} {x y : Int} (hc : q_isR c) : q_ty false (q_jn c x y) := by
  rcases hc with rfl | rfl | rfl | rfl | rfl | rfl
  · exact if01
  · exact if01
  · exact if01
  · exact if01
  · exact if01
  · exact if10
theorem q_jnB {c : Int32} {x y : Int} (hc : c = -42 ∨ c = -43) (hx : q_ty false x) (hy : q_ty false y) : q_ty false (q_jn c x y) := by
  have h1 : x = 0 ∨ x = 1 := hx
  have h2 : y = 0 ∨ y = 1 := hy
  rcases hc with rfl | rfl <;> rcases h1 with rfl | rfl <;> rcases h2 with rfl | rfl <;> first | exact Or.inl rfl | exact Or.inr rfl
theorem isP_ge {c : Int32} (h : q_isP c) : -17 ≤ c := by
  rcases h with h | h
  · exact Int32.le_trans (by decide) h.1
  · exact h.1
theorem q_st_ty {w : Nat → Int32} {c : Int32} {S T : List Bool} {V : List Int} (hw : q_wd w) (h : q_ts c S T) (hV : q_tys S V) : q_tys T (q_st w c V) := by
  rcases h with ⟨hc, rfl⟩ | ⟨rfl, r, rfl, rfl⟩ | ⟨rfl, r, rfl, rfl⟩ | ⟨hc, r, rfl, rfl⟩ | ⟨hc, r, rfl, rfl⟩ | ⟨hc, r, rfl, rfl⟩
  · unfold q_st
    rw [if_pos (isP_ge hc)]
    refine ⟨_, _, rfl, ?_, hV⟩
    rcases hc with h | h
    · rw [if_pos h.1]
      have a := il h.1
      have b := il h.2
      have z : (0 : Int32).toInt = 0 := rfl
      have z2 : (9999 : Int32).toInt = 9999 := rfl
      exact ⟨by omega, by omega⟩
    · have a := il h.1
      have b := il h.2
      have z : (-17 : Int32).toInt = -17 := rfl
      have z2 : (-11 : Int32).toInt = -11 := rfl
      rw [if_neg (fun q => by have q := il q; have z3 : (0 : Int32).toInt = 0 := rfl; omega)]
      have e : ((-11) - c).toInt = -11 - c.toInt := ti_sub (by omega) (by omega)
      refine hw _ ?_
      show ((-11) - c).toInt.toNat < 7
      omega
  · obtain ⟨v, V2, rfl, hv, hV⟩ := hV
    have hv : -1000000 ≤ v ∧ v ≤ 1000000 := hv
    exact ⟨-v, V2, rfl, show -1000000 ≤ -v ∧ -v ≤ 1000000 by omega, hV⟩
  · obtain ⟨v, V2, rfl, hv, hV⟩ := hV
    have hv : v = 0 ∨ v = 1 := hv
    exact ⟨1 - v, V2, rfl, show 1 - v = 0 ∨ 1 - v = 1 by omega, hV⟩
  · obtain ⟨v, V2, rfl, hv, v2, V3, rfl, hv2, hV⟩ := hV
    refine ⟨q_jn c v2 v, V3, ?_, q_jnA hc hv2, hV⟩
    rcases hc with rfl | rfl | rfl | rfl <;> rfl
  · obtain ⟨v, V2, rfl, hv, v2, V3, rfl, hv2, hV⟩ := hV
    refine ⟨q_jn c v2 v, V3, ?_, q_jnR hc, hV⟩
    rcases hc with rfl | rfl | rfl | rfl | rfl | rfl <;> rfl
  · obtain ⟨v, V2, rfl, hv, v2, V3, rfl, hv2, hV⟩ := hV
    refine ⟨q_jn c v2 v, V3, ?_, q_jnB hc hv2 hv, hV⟩
    rcases hc with rfl | rfl <;> rfl
theorem q_ev_ty {w : Nat → Int32} {l : List Int32} {T : List Bool} (hw : q_wd w) (h : q_tc l T) : q_tys T (q_ev w l) := by
  induction l generalizing T with
  | nil => cases h; exact rfl
  | cons c l ih =>
    obtain ⟨S, h1, h2⟩ := h
    exact q_st_ty hw h2 (ih h1)
/-- how many signs push -/
def q_ps : List Int32 → Nat
  | [] => 0
  | c :: l => q_ps l + (if -17 ≤ c then 1 else 0)
theorem q_tys_len {T : List Bool} {V : List Int} (h : q_tys T V) : V.length = T.length := by
  induction T generalizing V with
  | nil => rw [show V = [] from h]; rfl
  | cons b T ih =>
    obtain ⟨v, r, rfl, -, hr⟩ := h
    simp [ih hr]
theorem q_tc_len {l : List Int32} {T : List Bool} (h : q_tc l T) : T.length ≤ q_ps l := by
  induction l generalizing T with
  | nil => rw [show T = [] from h]; exact Nat.le_refl _
  | cons c l ih =>
    obtain ⟨S, h1, h2⟩ := h
    have := ih h1
    unfold q_ps
    rcases h2 with ⟨hc, rfl⟩ | ⟨rfl, r, rfl, rfl⟩ | ⟨rfl, r, rfl, rfl⟩ | ⟨hc, r, rfl, rfl⟩ | ⟨hc, r, rfl, rfl⟩ | ⟨hc, r, rfl, rfl⟩
    · rw [if_pos (isP_ge hc)]; simp; omega
    all_goals (simp at this ⊢; omega)
theorem q_tc_drop {l : List Int32} {T : List Bool} (h : q_tc l T) (m : Nat) : ∃ S, q_tc (l.drop m) S := by
  induction m generalizing l T with
  | zero => exact ⟨T, h⟩
  | succ m ih =>
    cases l with
    | nil => exact ⟨[], rfl⟩
    | cons c l => obtain ⟨S, h1, -⟩ := h; exact ih h1
theorem q_ps_drop (l : List Int32) (m : Nat) : q_ps (l.drop m) ≤ q_ps l := by
  induction m generalizing l with
  | zero => exact Nat.le_refl _
  | succ m ih =>
    cases l with
    | nil => exact Nat.le_refl _
    | cons c l => exact Nat.le_trans (ih l) (by simp [q_ps])
theorem q_row_drop {r : Nat → Int32} {l : List Int32} (h : q_row r l) (m : Nat) : q_row r (l.drop m) := by
  induction m generalizing l with
  | zero => exact h
  | succ m ih =>
    cases l with
    | nil => exact h
    | cons c l => exact ih h.2
theorem q_row_cong {r r' : Nat → Int32} {l : List Int32} (h : q_row r l) (e : ∀ k, k < l.length → r' k = r k) : q_row r' l := by
  induction l with
  | nil => trivial
  | cons c l ih => exact ⟨(e _ (by simp)).trans h.1, ih h.2 (fun k hk => e k (by simp; omega))⟩
/-- a stack of values in a row of ints -/
def q_vrow (r : Nat → Int32) : List Int → Prop
  | [] => True
  | x :: S => (r S.length).toInt = x ∧ q_vrow r S
theorem q_vrow_cong {r r' : Nat → Int32} {S : List Int} (h : q_vrow r S) (e : ∀ k, k < S.length → r' k = r k) : q_vrow r' S := by
  induction S with
  | nil => trivial
  | cons c l ih => exact ⟨by rw [e _ (by simp)]; exact h.1, ih h.2 (fun k hk => e k (by simp; omega))⟩
def q_lrow (r : Nat → Int64) : List Int → Prop
  | [] => True
  | x :: S => (r S.length).toInt = x ∧ q_lrow r S
theorem q_lrow_cong {r r' : Nat → Int64} {S : List Int} (h : q_lrow r S) (e : ∀ k, k < S.length → r' k = r k) : q_lrow r' S := by
  induction S with
  | nil => trivial
  | cons c l ih => exact ⟨by rw [e _ (by simp)]; exact h.1, ih h.2 (fun k hk => e k (by simp; omega))⟩
theorem lg_add {x y : Int64} (h1 : -9000000000000000000 ≤ x.toInt + y.toInt) (h2 : x.toInt + y.toInt < 9000000000000000000) : (x + y).toInt = x.toInt + y.toInt := by
  rw [Int64.toInt_add]; exact Int.bmod_eq_of_le (by omega) (by omega)
theorem lg_sub {x y : Int64} (h1 : -9000000000000000000 ≤ x.toInt - y.toInt) (h2 : x.toInt - y.toInt < 9000000000000000000) : (x - y).toInt = x.toInt - y.toInt := by
  rw [Int64.toInt_sub]; exact Int.bmod_eq_of_le (by omega) (by omega)
theorem lg_mul {x y : Int64} (h1 : -9000000000000000000 ≤ x.toInt * y.toInt) (h2 : x.toInt * y.toInt < 9000000000000000000) : (x * y).toInt = x.toInt * y.toInt := by
  rw [Int64.toInt_mul]; exact Int.bmod_eq_of_le (by omega) (by omega)
theorem lg_neg {x : Int64} (h1 : -9000000000000000000 ≤ x.toInt) (h2 : x.toInt < 9000000000000000000) : (-x).toInt = -x.toInt := by
  rw [Int64.toInt_neg]; exact Int.bmod_eq_of_le (by omega) (by omega)
theorem ti_neg {x : Int32} (h1 : -2000000000 ≤ x.toInt) : (-x).toInt = -x.toInt := by
  have := x.toInt_lt
  rw [Int32.toInt_neg]; exact Int.bmod_eq_of_le (by omega) (by omega)
theorem lg_div {x y : Int64} (h1 : -1000000 ≤ x.toInt ∧ x.toInt ≤ 1000000) (h2 : -1000000 ≤ y.toInt ∧ y.toInt ≤ 1000000) : (x / y).toInt = x.toInt.tdiv y.toInt := by
  rw [Int64.toInt_div]
  have : q_ty true (q_jn (-24) x.toInt y.toInt) := q_jnA (Or.inr (Or.inr (Or.inr rfl))) h1
  have : -1000000 ≤ x.toInt.tdiv y.toInt ∧ x.toInt.tdiv y.toInt ≤ 1000000 := by
    by_cases e : y.toInt = 0
    · rw [e, Int.tdiv_zero]; omega
    · have h : -1000000 ≤ (if y.toInt = 0 then 0 else x.toInt.tdiv y.toInt) ∧ (if y.toInt = 0 then 0 else x.toInt.tdiv y.toInt) ≤ 1000000 := this
      rwa [if_neg e] at h
  exact Int.bmod_eq_of_le (by omega) (by omega)
theorem lg_lo (x : Int32) : x.toInt64.toInt = x.toInt := Int32.toInt_toInt64 x
