/-! THE PURE PART: the two memories side by side. -/
theorem gu_eq (M : gx_M) (o j : Nat) (x : Int32) : gx_up M o j x o = upd (M o) j x := by simp [gx_up]
theorem gu_ne {M : gx_M} {o q j : Nat} {x : Int32} (h : q ≠ o) : gx_up M o j x q = M q := by simp [gx_up, h]
theorem ub_eq (f : Nat → Int32) (k : Nat) (x : Int32) : upd f k x k = x := by simp [upd]
theorem ub_ne {f : Nat → Int32} {k j : Nat} {x : Int32} (h : j ≠ k) : upd f k x j = f j := by simp [upd, h]
theorem sp_within {M : gx_M} {v lo hi : Int32} {Q : Int32 → Prop} (h : Q (if lo ≤ v ∧ v ≤ hi then 1 else 0)) : T_X10_within M v lo hi Q := by
  unfold T_X10_within
  by_cases h1 : v < lo
  · rw [if_pos h1]
    rwa [if_neg (fun q => absurd h1 (Int32.not_lt.mpr q.1))] at h
  · rw [if_neg h1]
    by_cases h2 : hi < v
    · rw [if_pos h2]
      rwa [if_neg (fun q => absurd h2 (Int32.not_lt.mpr q.2))] at h
    · rw [if_neg h2]
      rwa [if_pos ⟨Int32.not_lt.mp h1, Int32.not_lt.mp h2⟩] at h
theorem sp_in {M : gx_M} {v lo hi : Int32} {Q : Int32 → Prop} (h : Q (if lo ≤ v ∧ v ≤ hi then 1 else 0)) : T_X11_in M v lo hi Q := by
  unfold T_X11_in
  by_cases h1 : v < lo
  · rw [if_pos h1]
    rwa [if_neg (fun q => absurd h1 (Int32.not_lt.mpr q.1))] at h
  · rw [if_neg h1]
    by_cases h2 : hi < v
    · rw [if_pos h2]
      rwa [if_neg (fun q => absurd h2 (Int32.not_lt.mpr q.2))] at h
    · rw [if_neg h2]
      rwa [if_pos ⟨Int32.not_lt.mp h1, Int32.not_lt.mp h2⟩] at h
theorem gd_within {M : gx_M} {v lo hi : Int32} {A B : Prop} (hf : ¬ (lo ≤ v ∧ v ≤ hi) → A) (ht : lo ≤ v ∧ v ≤ hi → B) : T_X10_within M v lo hi (fun r => if r = 0 then A else B) := by
  refine sp_within ?_
  by_cases h : lo ≤ v ∧ v ≤ hi
  · rw [if_pos h, if_neg (by decide)]; exact ht h
  · rw [if_neg h, if_pos rfl]; exact hf h
theorem gd_in {M : gx_M} {v lo hi : Int32} {A B : Prop} (hf : ¬ (lo ≤ v ∧ v ≤ hi) → A) (ht : lo ≤ v ∧ v ≤ hi → B) : T_X11_in M v lo hi (fun r => if r = 0 then A else B) := by
  refine sp_in ?_
  by_cases h : lo ≤ v ∧ v ≤ hi
  · rw [if_pos h, if_neg (by decide)]; exact ht h
  · rw [if_neg h, if_pos rfl]; exact hf h
theorem b01 {p : Prop} {hd : Decidable p} : ((if p then (1 : Int32) else 0) = 0) ↔ ¬ p := by
  by_cases h : p <;> simp [h]
theorem b01o {p : Prop} {hd : Decidable p} : (if p then (1 : Int32) else 0) = 0 ∨ (if p then (1 : Int32) else 0) = 1 := by
  by_cases h : p <;> simp [h]
/-- the setup that the object of number b (0: now, 1: the image) holds, as the reference's row a has it -/
def RS (b : Nat) (a : Nat → Int32) (M : gx_M) : Prop :=
  ((∀ j, j < 5 → M (34 + b) (3 + j) = a (2 + j)) ∧ M (34 + b) 8 = a 0 ∧ M (34 + b) 9 = a 1) ∧
  (∀ c, c < 20 → M (40 + b) c = a (150 + c)) ∧
  (∀ c, c < 2 → M (58 + 2 * b + c) 0 = a (10 + c) ∧ M (58 + 2 * b + c) 1 = a (16 + c) ∧ M (58 + 2 * b + c) 2 = a (18 + c) ∧ M (58 + 2 * b + c) 3 = a (20 + c) ∧ M (58 + 2 * b + c) 4 = a (12 + c) ∧ M (58 + 2 * b + c) 5 = a (14 + c)) ∧
  (∀ s, s < 4 → M (42 + 4 * b + s) 1 = a (24 + s) ∧ ∀ k, k < (a (24 + s)).toNatClampNeg → ∀ j, j < 5 → M (62 + 6 * (4 * b + s) + k) j = a (30 + 30 * s + 5 * k + j))
/-- what a setup's numbers can be -/
def okA (a : Nat → Int32) : Prop :=
  ((0 ≤ a 0 ∧ a 0 ≤ 4) ∧ (-1 ≤ a 1 ∧ a 1 < a 0) ∧ (1 ≤ a 2 ∧ a 2 ≤ 50) ∧ (0 ≤ a 3 ∧ a 3 ≤ 999) ∧ (0 ≤ a 4 ∧ a 4 ≤ 16) ∧ (0 ≤ a 5 ∧ a 5 ≤ 3) ∧ (1 ≤ a 6 ∧ a 6 ≤ 50)) ∧
  (∀ c, c < 2 → (0 ≤ a (10 + c) ∧ a (10 + c) ≤ 3) ∧ (1 ≤ a (12 + c) ∧ a (12 + c) ≤ 999) ∧ (-15 ≤ a (14 + c) ∧ a (14 + c) ≤ 15) ∧ (1 ≤ a (16 + c) ∧ a (16 + c) ≤ 20) ∧ (1 ≤ a (18 + c) ∧ a (18 + c) ≤ 20) ∧ (1 ≤ a (20 + c) ∧ a (20 + c) ≤ 16)) ∧
  (∀ s, s < 4 → (0 ≤ a (24 + s) ∧ a (24 + s) ≤ 6) ∧ ∀ k, k < (a (24 + s)).toNatClampNeg → (0 ≤ a (30 + 30 * s + 5 * k) ∧ a (30 + 30 * s + 5 * k) ≤ 2) ∧ (-999 ≤ a (30 + 30 * s + 5 * k + 1) ∧ a (30 + 30 * s + 5 * k + 1) ≤ 999) ∧ (1 ≤ a (30 + 30 * s + 5 * k + 2) ∧ a (30 + 30 * s + 5 * k + 2) ≤ 500) ∧ (0 ≤ a (30 + 30 * s + 5 * k + 3) ∧ a (30 + 30 * s + 5 * k + 3) ≤ 500) ∧ (0 ≤ a (30 + 30 * s + 5 * k + 4) ∧ a (30 + 30 * s + 5 * k + 4) ≤ 1999)) ∧
  (∀ c, c < 20 → 0 ≤ a (150 + c) ∧ a (150 + c) ≤ 65535)
