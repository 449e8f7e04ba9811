/-! rows as bits, and how many -/
theorem nI_bv (n : Nat) : (nI n).toBitVec = BitVec.ofNat 32 n := rfl
theorem nI_or {a b : Nat} (ha : a < 2 ^ 32) (hb : b < 2 ^ 32) : nI a ||| nI b = nI (a ||| b) := by
  apply Int32.toBitVec_inj.mp
  apply BitVec.eq_of_toNat_eq
  rw [Int32.toBitVec_or, BitVec.toNat_or, pk_tn ha, pk_tn hb, pk_tn (Nat.or_lt_two_pow ha hb)]
theorem nI_xor {a b : Nat} (ha : a < 2 ^ 32) (hb : b < 2 ^ 32) : nI a ^^^ nI b = nI (a ^^^ b) := by
  apply Int32.toBitVec_inj.mp
  apply BitVec.eq_of_toNat_eq
  rw [Int32.toBitVec_xor, BitVec.toNat_xor, pk_tn ha, pk_tn hb, pk_tn (Nat.xor_lt_two_pow ha hb)]
theorem nI_and {a b : Nat} (ha : a < 2 ^ 32) (hb : b < 2 ^ 32) : nI a &&& nI b = nI (a &&& b) := by
  apply Int32.toBitVec_inj.mp
  apply BitVec.eq_of_toNat_eq
  rw [Int32.toBitVec_and, BitVec.toNat_and, pk_tn ha, pk_tn hb, pk_tn (Nat.lt_of_le_of_lt Nat.and_le_left ha)]
/-- the rows r below n for which f is so -/
def q_fb (f : Nat → Bool) : Nat → Nat
  | 0 => 0
  | n + 1 => q_fb f n ||| (if f n = true then 2 ^ n else 0)
theorem q_fb_lt (f : Nat → Bool) (n : Nat) : q_fb f n < 2 ^ n := by
  induction n with
  | zero => exact Nat.one_pos
  | succ n ih =>
    refine Nat.or_lt_two_pow (Nat.lt_trans ih (Nat.pow_lt_pow_right (by omega) (by omega))) ?_
    by_cases h : f n = true
    · rw [if_pos h]; exact Nat.pow_lt_pow_right (by omega) (by omega)
    · rw [if_neg h]; exact Nat.two_pow_pos _
theorem q_fb_bit (f : Nat → Bool) (n i : Nat) : (q_fb f n).testBit i = (decide (i < n) && f i) := by
  induction n with
  | zero => simp [q_fb]
  | succ n ih =>
    show (q_fb f n ||| (if f n = true then 2 ^ n else 0)).testBit i = _
    rw [Nat.testBit_or, ih]
    by_cases e : i = n
    · subst e
      cases h : f i <;> simp [Nat.testBit_two_pow]
    · have e2 : decide (i < n + 1) = decide (i < n) := by
        by_cases z : i < n
        · rw [decide_eq_true z, decide_eq_true (by omega)]
        · rw [decide_eq_false z, decide_eq_false (by omega)]
      rw [e2]
      cases h : f n
      · simp
      · simp [Nat.testBit_two_pow, Ne.symm e]
/-- how many bits below n -/
def q_pop (v : Nat) : Nat → Nat
  | 0 => 0
  | n + 1 => q_pop v n + (v.testBit n).toNat
def q_cnt (f : Nat → Bool) : Nat → Nat
  | 0 => 0
  | n + 1 => q_cnt f n + (f n).toNat
theorem q_pop_cnt {v n : Nat} {f : Nat → Bool} (h : ∀ i, i < n → v.testBit i = f i) : q_pop v n = q_cnt f n := by
  induction n with
  | zero => rfl
  | succ n ih => rw [q_pop, q_cnt, ih (fun i hi => h i (by omega)), h n (by omega)]
def q_bcN (v : Nat) : Nat :=
  let x1 := v - ((v / 2) &&& 1431655765)
  let x2 := (x1 &&& 858993459) + ((x1 / 4) &&& 858993459)
  let x3 := (x2 + x2 / 16) &&& 252645135
  let x4 := x3 + x3 / 256
  let x5 := x4 + x4 / 65536
  x5 &&& 63
def q_bs (v : Nat) : Nat := v % 2 + v / 2 % 2 + v / 4 % 2 + v / 8 % 2 + v / 16 % 2 + v / 32 % 2 + v / 64 % 2 + v / 128 % 2 + v / 256 % 2 + v / 512 % 2 + v / 1024 % 2 + v / 2048 % 2 + v / 4096 % 2 + v / 8192 % 2 + v / 16384 % 2 + v / 32768 % 2
theorem q_bs_pop (v : Nat) : q_pop v 16 = q_bs v := by
  have e : ∀ i, (v.testBit i).toNat = v / 2 ^ i % 2 := fun i => by rw [Nat.toNat_testBit]
  simp only [q_pop, e]
  unfold q_bs
  simp
set_option maxRecDepth 100000 in
theorem q_bc_all : (List.range 256).all (fun h => (List.range 256).all (fun l => Nat.beq (q_bcN (256 * h + l)) (q_bs (256 * h + l)))) = true := by decide +kernel
theorem q_bc_eq {v : Nat} (hv : v < 65536) : q_bcN v = q_pop v 16 := by
  have h1 := List.all_eq_true.mp q_bc_all (v / 256) (List.mem_range.mpr (by omega))
  have h2 := List.all_eq_true.mp h1 (v % 256) (List.mem_range.mpr (by omega))
  have e : 256 * (v / 256) + v % 256 = v := by omega
  rw [e] at h2
  rw [q_bs_pop]
  exact Nat.eq_of_beq_eq_true h2
theorem s_bitCount {v : Nat} {Q : Int32 → Prop} (hv : v < 65536) (h : Q (nI (q_pop v 16))) : T_J6_bitCount_0f7a4 (nI v) Q := by
  rw [← q_bc_eq hv] at h
  unfold q_bcN at h
  have m1 : (v / 2) &&& 1431655765 ≤ v / 2 := Nat.and_le_left
  unfold T_J6_bitCount_0f7a4
  simp only [] at h
  rw [pk_ushrN (n := v) (by omega) 1 1 (by decide)]
  rw [show nI (v / 2 ^ 1) &&& 1431655765 = nI ((v / 2) &&& 1431655765) from nI_and (b := 1431655765) (by omega) (by omega), pk_sub (by omega)]
  refine nm_e ?_
  have b1 : v - ((v / 2) &&& 1431655765) < 65536 := by omega
  generalize v - ((v / 2) &&& 1431655765) = x1 at h b1 ⊢
  have m2 : x1 &&& 858993459 ≤ x1 := Nat.and_le_left
  have m3 : (x1 / 4) &&& 858993459 ≤ x1 / 4 := Nat.and_le_left
  rw [pk_ushrN (n := x1) (by omega) 2 2 (by decide)]
  rw [show nI (x1 / 2 ^ 2) &&& 858993459 = nI ((x1 / 4) &&& 858993459) from nI_and (b := 858993459) (by omega) (by omega), show nI x1 &&& 858993459 = nI (x1 &&& 858993459) from nI_and (b := 858993459) (by omega) (by omega), nI_add]
  refine nm_e ?_
  have b2 : (x1 &&& 858993459) + ((x1 / 4) &&& 858993459) < 131072 := by omega
  generalize (x1 &&& 858993459) + ((x1 / 4) &&& 858993459) = x2 at h b2 ⊢
  have m4 : (x2 + x2 / 16) &&& 252645135 ≤ x2 + x2 / 16 := Nat.and_le_left
  rw [pk_ushrN (n := x2) (by omega) 4 4 (by decide), nI_add]
  rw [show nI (x2 + x2 / 2 ^ 4) &&& 252645135 = nI ((x2 + x2 / 16) &&& 252645135) from nI_and (b := 252645135) (by omega) (by omega)]
  refine nm_e ?_
  have b3 : (x2 + x2 / 16) &&& 252645135 < 262144 := by omega
  generalize (x2 + x2 / 16) &&& 252645135 = x3 at h b3 ⊢
  rw [pk_ushrN (n := x3) (by omega) 8 8 (by decide), nI_add, show x3 / 2 ^ 8 = x3 / 256 from rfl]
  refine nm_e ?_
  have b4 : x3 + x3 / 256 < 524288 := by omega
  generalize x3 + x3 / 256 = x4 at h b4 ⊢
  rw [pk_ushrN (n := x4) (by omega) 16 16 (by decide), nI_add, show x4 / 2 ^ 16 = x4 / 65536 from rfl]
  refine nm_e ?_
  rw [show nI (x4 + x4 / 65536) &&& 63 = nI ((x4 + x4 / 65536) &&& 63) from nI_and (b := 63) (by omega) (by omega)]
  exact h
/-- which rows of a column are lit -/
def q_lt (g : Nat → Int32) (n : Int32) (c : Nat) : Nat → Bool := fun r => decide (n ≤ g (16 * c + r))
def q_rows (g : Nat → Int32) (n : Int32) (c : Nat) : Nat := q_fb (q_lt g n c) 16
theorem shl_bit : ∀ r, r < 16 → (1 : Int32) <<< (nI r &&& 31) = nI (2 ^ r) := by decide
theorem or_bit {f : Nat → Bool} {r : Nat} (hr : r < 16) : (nI (q_fb f r) ||| (1 <<< (nI r &&& 31))) = nI (q_fb f r ||| 2 ^ r) := by
  rw [shl_bit r hr]
  have h1 := q_fb_lt f r
  have h2 : 2 ^ r < 2 ^ 32 := Nat.pow_lt_pow_right (by omega) (by omega)
  exact nI_or (Nat.lt_trans h1 h2) h2
theorem q_fb_yes {f : Nat → Bool} {r : Nat} (h : f r = true) : q_fb f (r + 1) = q_fb f r ||| 2 ^ r := by
  show q_fb f r ||| (if f r = true then 2 ^ r else 0) = _
  rw [if_pos h]
theorem q_fb_no {f : Nat → Bool} {r : Nat} (h : f r = false) : q_fb f (r + 1) = q_fb f r := by
  show q_fb f r ||| (if f r = true then 2 ^ r else 0) = _
  rw [if_neg (by rw [h]; decide), Nat.or_zero]
theorem q_rows_lt (g : Nat → Int32) (n : Int32) (c : Nat) : q_rows g n c < 65536 := q_fb_lt _ 16
theorem s_bits {M : gx_M} {g : Nat → Int32} {n : Int32} {c : Nat} {Q : Int32 → Prop} (hc : c < 20) (hg : ∀ d, d < 320 → M 9 d = g d) (h : Q (nI (q_rows g n c))) : T_X7_bits M (nI c) n Q := by
  have key : ∀ m r, r + m = 16 → T_X7_bits_5 M Q (m + 1) (nI c) n (nI (q_fb (q_lt g n c) r)) (nI r) := by
    intro m
    induction m with
    | zero =>
      intro r hr
      obtain rfl : r = 16 := by omega
      unfold T_X7_bits_5
      exact qt (show nI 16 ≤ nI 16 from nI_le (by omega) (by omega)) h
    | succ m ih =>
      intro r hr
      unfold T_X7_bits_5
      refine qf (show ¬ nI 16 ≤ nI r from nI_ge (by omega) (by omega)) ?_
      unfold T_X7_glowOf
      have w1 : (0 : Int32) ≤ nI c ∧ nI c ≤ 19 := v_n (n := 19) (by omega) (by omega)
      have w2 : (0 : Int32) ≤ nI r ∧ nI r ≤ 15 := v_n (n := 15) (by omega) (by omega)
      refine gd_within (fun q => absurd w1 q) (fun _ => gd_within (fun q => absurd w2 q) (fun _ => ?_))
      unfold T_X7_glowOf_25
      have e : nI c * 16 + nI r = nI (16 * c + r) := by
        rw [show nI c * (16 : Int32) = nI (c * 16) from pk_mul c 16, nI_add, Nat.mul_comm]
      refine qf (by decide) ?_
      rw [e]
      refine ⟨vp_in_nI (by omega) (by omega), ?_⟩
      rw [nI_clamp (by omega), hg _ (by omega)]
      unfold T_X7_bits_30
      refine qc (fun q => ?_) (fun q => ?_)
      · rintro _ rfl
        have hf : q_lt g n c r = false := decide_eq_false (Int32.not_le.mpr q)
        rw [nI_1, ← q_fb_no hf]
        exact ih (r + 1) (by omega)
      · rintro _ rfl _ rfl
        have hf : q_lt g n c r = true := decide_eq_true (Int32.not_lt.mp q)
        rw [nI_1, or_bit (by omega), ← q_fb_yes hf]
        exact ih (r + 1) (by omega)
  exact ⟨17, key 16 0 (by omega)⟩
theorem n_rowsOf {N : gx_M} {g : Nat → Int32} {n : Int32} {c : Nat} {Q : Int32 → Prop} (hc : c < 20) (hg : ∀ d, d < 320 → N 21 d = g d) (h : Q (nI (q_rows g n c))) : T_X11_rowsOf N (nI c) n Q := by
  have key : ∀ m r, r + m = 16 → T_X11_rowsOf_5 N Q (m + 1) (nI c) n (nI (q_fb (q_lt g n c) r)) (nI r) := by
    intro m
    induction m with
    | zero =>
      intro r hr
      obtain rfl : r = 16 := by omega
      unfold T_X11_rowsOf_5
      exact qt (show nI 16 ≤ nI 16 from nI_le (by omega) (by omega)) h
    | succ m ih =>
      intro r hr
      unfold T_X11_rowsOf_5
      have e : (16 : Int32) * nI c + nI r = nI (16 * c + r) := by
        rw [show (16 : Int32) * nI c = nI (16 * c) from pk_mul 16 c, nI_add]
      refine qf (show ¬ nI 16 ≤ nI r from nI_ge (by omega) (by omega)) ?_
      rw [e]
      refine ⟨vp_in_nI (by omega) (by omega), ?_⟩
      rw [nI_clamp (by omega), hg _ (by omega)]
      unfold T_X11_rowsOf_38
      refine qc (fun q => ?_) (fun q => ?_)
      · rintro _ rfl
        have hf : q_lt g n c r = false := decide_eq_false (Int32.not_le.mpr q)
        rw [nI_1, ← q_fb_no hf]
        exact ih (r + 1) (by omega)
      · rintro _ rfl
        have hf : q_lt g n c r = true := decide_eq_true (Int32.not_lt.mp q)
        rw [nI_1, or_bit (by omega), ← q_fb_yes hf]
        exact ih (r + 1) (by omega)
  exact ⟨17, key 16 0 (by omega)⟩
/-- how many dots are lit, column by column -/
def q_dots (f : Nat → Bool) : Nat → Nat := q_cnt f
theorem q_cnt_le (f : Nat → Bool) (n : Nat) : q_cnt f n ≤ n := by
  induction n with
  | zero => exact Nat.le_refl _
  | succ n ih =>
    have : (f n).toNat ≤ 1 := by cases f n <;> decide
    rw [q_cnt]; omega
theorem q_cnt_add (f : Nat → Bool) (a n : Nat) : q_cnt f (a + n) = q_cnt f a + q_cnt (fun i => f (a + i)) n := by
  induction n with
  | zero => rfl
  | succ n ih => rw [← Nat.add_assoc, q_cnt, ih, q_cnt]; omega
theorem q_cnt_cong {f f' : Nat → Bool} {n : Nat} (h : ∀ i, i < n → f i = f' i) : q_cnt f n = q_cnt f' n := by
  induction n with
  | zero => rfl
  | succ n ih => rw [q_cnt, q_cnt, ih (fun i hi => h i (by omega)), h n (by omega)]
theorem q_pop_rows (g : Nat → Int32) (n : Int32) (c : Nat) : q_pop (q_rows g n c) 16 = q_cnt (q_lt g n c) 16 :=
  q_pop_cnt (fun i hi => by unfold q_rows; rw [q_fb_bit, decide_eq_true hi, Bool.true_and])
def q_on (g : Nat → Int32) (n : Int32) : Nat → Bool := fun d => decide (n ≤ g d)
theorem s_dots {M : gx_M} {g : Nat → Int32} {n : Int32} {Q : Int32 → Prop} (hg : ∀ d, d < 320 → M 9 d = g d) (h : Q (nI (q_cnt (q_on g n) 320))) : T_X7_dots M n Q := by
  have key : ∀ m c, c + m = 20 → T_X7_dots_4 M Q (m + 1) n (nI (q_cnt (q_on g n) (16 * c))) (nI c) := by
    intro m
    induction m with
    | zero =>
      intro c hc
      obtain rfl : c = 20 := by omega
      unfold T_X7_dots_4
      exact qt (show nI 20 ≤ nI 20 from nI_le (by omega) (by omega)) h
    | succ m ih =>
      intro c hc
      unfold T_X7_dots_4
      refine qf (show ¬ nI 20 ≤ nI c from nI_ge (by omega) (by omega)) (s_bits (by omega) hg (s_bitCount (q_rows_lt _ _ _) ?_))
      rintro _ rfl _ rfl
      rw [nI_1, nI_add, q_pop_rows]
      have e : q_cnt (q_on g n) (16 * c) + q_cnt (q_lt g n c) 16 = q_cnt (q_on g n) (16 * (c + 1)) := by
        rw [show 16 * (c + 1) = 16 * c + 16 by omega, q_cnt_add]; rfl
      rw [e]
      exact ih (c + 1) (by omega)
  exact ⟨21, key 20 0 (by omega)⟩
theorem n_dots {N : gx_M} {g : Nat → Int32} {n : Int32} {Q : Int32 → Prop} (hg : ∀ d, d < 320 → N 21 d = g d) (h : Q (nI (q_cnt (q_on g n) 320))) : T_X11_dots N n Q := by
  have key : ∀ m d, d + m = 320 → T_X11_dots_4 N Q (m + 1) n (nI (q_cnt (q_on g n) d)) (nI d) := by
    intro m
    induction m with
    | zero =>
      intro c hc
      obtain rfl : c = 320 := by omega
      unfold T_X11_dots_4
      exact qt (show nI 320 ≤ nI 320 from nI_le (by omega) (by omega)) h
    | succ m ih =>
      intro d hd
      unfold T_X11_dots_4 T_X11_dots_27
      refine qf (show ¬ nI 320 ≤ nI d from nI_ge (by omega) (by omega)) ⟨vp_in_nI (by omega) (by omega), ?_⟩
      rw [nI_clamp (by omega), hg d (by omega)]
      refine qc (fun q => ?_) (fun q => ?_)
      · rintro _ rfl _ rfl
        have hf : q_on g n d = false := decide_eq_false (Int32.not_le.mpr q)
        have e : q_cnt (q_on g n) d + 0 = q_cnt (q_on g n) (d + 1) := by rw [q_cnt, hf]; rfl
        rw [nI_1, show nI (q_cnt (q_on g n) d) + 0 = nI (q_cnt (q_on g n) d + 0) from nI_add _ 0, e]
        exact ih (d + 1) (by omega)
      · rintro _ rfl _ rfl
        have hf : q_on g n d = true := decide_eq_true (Int32.not_lt.mp q)
        have e : q_cnt (q_on g n) d + 1 = q_cnt (q_on g n) (d + 1) := by rw [q_cnt, hf]; rfl
        rw [nI_1, nI_1, e]
        exact ih (d + 1) (by omega)
  exact ⟨321, key 320 0 (by omega)⟩
