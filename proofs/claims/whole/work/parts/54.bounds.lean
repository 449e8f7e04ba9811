/-! how large the outs are -/
theorem ti_add {x y : Int32} (h1 : -2147483648 ≤ x.toInt + y.toInt) (h2 : x.toInt + y.toInt < 2147483648) : (x + y).toInt = x.toInt + y.toInt := by
  rw [Int32.toInt_add]; exact Int.bmod_eq_of_le (by omega) (by omega)
theorem ti_sub {x y : Int32} (h1 : -2147483648 ≤ x.toInt - y.toInt) (h2 : x.toInt - y.toInt < 2147483648) : (x - y).toInt = x.toInt - y.toInt := by
  rw [Int32.toInt_sub]; exact Int.bmod_eq_of_le (by omega) (by omega)
theorem ti_mul {x y : Int32} (h1 : -2147483648 ≤ x.toInt * y.toInt) (h2 : x.toInt * y.toInt < 2147483648) : (x * y).toInt = x.toInt * y.toInt := by
  rw [Int32.toInt_mul]; exact Int.bmod_eq_of_le (by omega) (by omega)
theorem ti_div {x y : Int32} (h : 1 ≤ y.toInt) : (x / y).toInt = x.toInt.tdiv y.toInt := by
  rw [Int32.toInt_div]
  have hx := x.le_toInt
  have hx2 := x.toInt_lt
  have h1 : -2147483648 ≤ x.toInt.tdiv y.toInt ∧ x.toInt.tdiv y.toInt ≤ 2147483647 := by
    rcases Int.le_total 0 x.toInt with z | z
    · rw [Int.tdiv_eq_ediv_of_nonneg z]
      have := Int.ediv_le_self y.toInt z
      have := Int.ediv_nonneg z (show 0 ≤ y.toInt by omega)
      omega
    · obtain ⟨k, hk⟩ : ∃ k, x.toInt = -k := ⟨-x.toInt, by omega⟩
      rw [hk, Int.neg_tdiv, Int.tdiv_eq_ediv_of_nonneg (by omega)]
      have := Int.ediv_le_self y.toInt (show 0 ≤ k by omega)
      have := Int.ediv_nonneg (show 0 ≤ k by omega) (show 0 ≤ y.toInt by omega)
      omega
  exact Int.bmod_eq_of_le (by omega) (by omega)
theorem td_bd {x y B : Int} (hy : 1 ≤ y) (hB : 0 ≤ B) (h1 : -(B * y) ≤ x) (h2 : x ≤ B * y) : -B ≤ x.tdiv y ∧ x.tdiv y ≤ B := by
  rcases Int.le_total 0 x with z | z
  · rw [Int.tdiv_eq_ediv_of_nonneg z]
    have k1 := Int.ediv_nonneg z (show 0 ≤ y by omega)
    have k2 := Int.ediv_le_of_le_mul (show 0 < y by omega) h2
    omega
  · obtain ⟨k, rfl⟩ : ∃ k, x = -k := ⟨-x, by omega⟩
    rw [Int.neg_tdiv, Int.tdiv_eq_ediv_of_nonneg (by omega)]
    have k1 := Int.ediv_nonneg (show 0 ≤ k by omega) (show 0 ≤ y by omega)
    have k2 := Int.ediv_le_of_le_mul (show 0 < y by omega) (show k ≤ B * y by omega)
    omega
theorem td_16 {w i s : Int} {B : Int} (h1 : -B ≤ w) (h2 : w ≤ B) (h3 : -B ≤ i) (h4 : i ≤ B) (hs : 0 ≤ s) (hs2 : s ≤ 16) : -B ≤ w + ((i - w) * s).tdiv 16 ∧ w + ((i - w) * s).tdiv 16 ≤ B := by
  rcases Int.le_total 0 (i - w) with z | z
  · have a1 : 0 ≤ (i - w) * s := Int.mul_nonneg z hs
    have a2 : (i - w) * s ≤ (i - w) * 16 := Int.mul_le_mul_of_nonneg_left hs2 z
    rw [Int.tdiv_eq_ediv_of_nonneg a1]
    omega
  · obtain ⟨k, hk⟩ : ∃ k, i - w = -k := ⟨-(i - w), by omega⟩
    have a1 : 0 ≤ k * s := Int.mul_nonneg (by omega) hs
    have a2 : k * s ≤ k * 16 := Int.mul_le_mul_of_nonneg_left hs2 (by omega)
    rw [hk, Int.neg_mul, Int.neg_tdiv, Int.tdiv_eq_ediv_of_nonneg a1]
    omega
theorem il {x y : Int32} (h : x ≤ y) : x.toInt ≤ y.toInt := Int32.le_iff_toInt_le.mp h
theorem tm_em {x y : Int} (hy : 0 < y) : (x % y = if 0 ≤ x.tmod y then x.tmod y else x.tmod y + y) ∧ (x / y = if 0 ≤ x.tmod y then x.tdiv y else x.tdiv y - 1) := by
  have m1 := Int.tmod_add_mul_tdiv x y
  have m2 := Int.tmod_lt_of_pos x hy
  have m3 : -y < x.tmod y := by
    rcases Int.le_total 0 x with z | z
    · have := Int.tmod_nonneg y z; omega
    · obtain ⟨k, hk⟩ : ∃ k, x = -k := ⟨-x, by omega⟩
      rw [hk, Int.neg_tmod]
      have := Int.tmod_lt_of_pos k hy
      omega
  by_cases c : 0 ≤ x.tmod y
  · rw [if_pos c, if_pos c]
    have := (Int.ediv_emod_unique (a := x) (q := x.tdiv y) (r := x.tmod y) hy).mpr ⟨m1, c, m2⟩
    exact ⟨this.2, this.1⟩
  · rw [if_neg c, if_neg c]
    have := (Int.ediv_emod_unique (a := x) (q := x.tdiv y - 1) (r := x.tmod y + y) hy).mpr ⟨by rw [Int.mul_sub, Int.mul_one]; omega, by omega, by omega⟩
    exact ⟨this.2, this.1⟩
theorem q_rest_val {x y : Int32} (hy : 1 ≤ y.toInt) : (q_rest x y).toInt = x.toInt % y.toInt := by
  have hx := x.le_toInt
  have hx2 := x.toInt_lt
  have hy2 := y.toInt_lt
  have e1 := ti_div (x := x) hy
  have m1 := Int.tmod_add_mul_tdiv x.toInt y.toInt
  have m2 := Int.tmod_lt_of_pos x.toInt (show 0 < y.toInt by omega)
  have m3 : -y.toInt < x.toInt.tmod y.toInt := by
    rcases Int.le_total 0 x.toInt with z | z
    · have := Int.tmod_nonneg y.toInt z; omega
    · obtain ⟨k, hk⟩ : ∃ k, x.toInt = -k := ⟨-x.toInt, by omega⟩
      rw [hk, Int.neg_tmod]
      have := Int.tmod_lt_of_pos k (show 0 < y.toInt by omega)
      omega
  have e2 : (x / y * y).toInt = x.toInt - x.toInt.tmod y.toInt := by
    have : (x / y).toInt * y.toInt = x.toInt - x.toInt.tmod y.toInt := by
      rw [e1, Int.mul_comm]; omega
    have q1 : 0 ≤ x.toInt → 0 ≤ x.toInt.tmod y.toInt ∧ x.toInt.tmod y.toInt ≤ x.toInt := fun z => ⟨Int.tmod_nonneg y.toInt z, by
      rw [Int.tmod_eq_emod_of_nonneg z]
      by_cases g : x.toInt < y.toInt
      · rw [Int.emod_eq_of_lt z g]; omega
      · have := Int.emod_lt_of_pos x.toInt (show 0 < y.toInt by omega); omega⟩
    have q2 : x.toInt ≤ 0 → x.toInt.tmod y.toInt ≤ 0 := fun z => by
      obtain ⟨k, hk⟩ : ∃ k, x.toInt = -k := ⟨-x.toInt, by omega⟩
      rw [hk, Int.neg_tmod]
      have := Int.tmod_nonneg y.toInt (show 0 ≤ k by omega)
      omega
    have q3 : x.toInt ≤ 0 → x.toInt ≤ x.toInt.tmod y.toInt := fun z => by
      obtain ⟨k, hk⟩ : ∃ k, x.toInt = -k := ⟨-x.toInt, by omega⟩
      rw [hk, Int.neg_tmod, Int.tmod_eq_emod_of_nonneg (by omega)]
      by_cases g : k < y.toInt
      · rw [Int.emod_eq_of_lt (by omega) g]; omega
      · have := Int.emod_lt_of_pos k (show 0 < y.toInt by omega); omega
    rw [ti_mul (by omega) (by omega), this]
  have e3 : (x - x / y * y).toInt = x.toInt.tmod y.toInt := by
    rw [ti_sub (by omega) (by omega), e2]; omega
  rw [(tm_em (show 0 < y.toInt by omega)).1]
  unfold q_rest
  by_cases c : 0 ≤ x - x / y * y
  · have c2 := il c
    rw [e3, show (0 : Int32).toInt = 0 from rfl] at c2
    rw [if_pos c, if_pos c2, e3]
  · have c2 : (x - x / y * y).toInt < (0 : Int32).toInt := Int32.lt_iff_toInt_lt.mp (Int32.not_le.mp c)
    rw [e3, show (0 : Int32).toInt = 0 from rfl] at c2
    rw [if_neg c, if_neg (by omega), ti_add (by rw [e3]; omega) (by rw [e3]; omega), e3]
theorem q_rest_bd {x y : Int32} (hy : 1 ≤ y.toInt) : 0 ≤ (q_rest x y).toInt ∧ (q_rest x y).toInt < y.toInt := by
  rw [q_rest_val hy]
  exact ⟨Int.emod_nonneg _ (by omega), Int.emod_lt_of_pos _ (by omega)⟩
/-- the floor that both sides take -/
def q_fl (x y : Int32) : Int32 := Int32.ofInt (x.toInt / y.toInt)
theorem q_fl_val {x y : Int32} (hy : 1 ≤ y.toInt) : (q_fl x y).toInt = x.toInt / y.toInt := by
  have hx := x.le_toInt
  have hx2 := x.toInt_lt
  have h : -2147483648 ≤ x.toInt / y.toInt ∧ x.toInt / y.toInt ≤ 2147483647 := by
    have m1 := Int.emod_add_mul_ediv x.toInt y.toInt
    rcases Int.le_total 0 x.toInt with z | z
    · have := Int.ediv_le_self y.toInt z
      have := Int.ediv_nonneg z (show 0 ≤ y.toInt by omega)
      omega
    · refine ⟨Int.le_ediv_of_mul_le (by omega) ?_, ?_⟩
      · have : (-2147483648 : Int) * y.toInt ≤ -2147483648 * 1 := Int.mul_le_mul_of_nonpos_left (by omega) (by omega)
        omega
      · have := Int.ediv_le_ediv (show 0 < y.toInt by omega) z
        simp at this; omega
  unfold q_fl
  rw [Int32.toInt_ofInt, show Int32.size = 4294967296 from rfl]
  exact Int.bmod_eq_of_le (by omega) (by omega)
theorem xor_neg {x y : Int32} (hy : 1 ≤ y.toInt) : 0 ≤ x ^^^ y ↔ 0 ≤ x.toInt := by
  rw [Int32.le_iff_toInt_le]
  have a : (x ^^^ y).toInt < 0 ↔ (x ^^^ y).toBitVec.msb = true := by rw [BitVec.msb_eq_toInt, decide_eq_true_iff]; exact Iff.rfl
  have b : x.toInt < 0 ↔ x.toBitVec.msb = true := by rw [BitVec.msb_eq_toInt, decide_eq_true_iff]; exact Iff.rfl
  have c : ¬ y.toBitVec.msb = true := by rw [BitVec.msb_eq_toInt]; simp; exact (by omega : 0 ≤ y.toInt)
  rw [Int32.toBitVec_xor, BitVec.msb_xor] at a
  rw [show (0 : Int32).toInt = 0 from rfl]
  have d : y.toBitVec.msb = false := by simpa using c
  rw [d, Bool.xor_false] at a
  have := a.trans b.symm
  omega
theorem s_floorDiv {x y : Int32} {Q : Int32 → Prop} (hy : 1 ≤ y.toInt) (h : Q (q_fl x y)) : T_J9_floorDiv_7cf53 x y Q := by
  have hx := x.le_toInt
  have hx2 := x.toInt_lt
  have m1 := Int.tmod_add_mul_tdiv x.toInt y.toInt
  have hv := q_fl_val (x := x) hy
  rw [(tm_em (show 0 < y.toInt by omega)).2] at hv
  have e1 := ti_div (x := x) hy
  unfold T_J9_floorDiv_7cf53
  refine ⟨fun e => by rw [e] at hy; exact absurd hy (by decide), ?_⟩
  rintro _ rfl
  have nn : 0 ≤ x.toInt → 0 ≤ x.toInt.tmod y.toInt := fun z => Int.tmod_nonneg y.toInt z
  have np : x.toInt < 0 → x.toInt.tmod y.toInt ≤ 0 ∧ x.toInt ≤ x.toInt.tmod y.toInt := fun z => by
    obtain ⟨k, hk⟩ : ∃ k, x.toInt = -k := ⟨-x.toInt, by omega⟩
    rw [hk, Int.neg_tmod]
    have := Int.tmod_nonneg y.toInt (show 0 ≤ k by omega)
    have t : k.tmod y.toInt ≤ k := by
      rw [Int.tmod_eq_emod_of_nonneg (by omega)]
      by_cases g : k < y.toInt
      · rw [Int.emod_eq_of_lt (by omega) g]; omega
      · have := Int.emod_lt_of_pos k (show 0 < y.toInt by omega); omega
    omega
  refine qc (fun c => ?_) (fun c => ?_)
  · have c1 := (xor_neg hy).mp c
    rw [if_pos (nn c1)] at hv
    rwa [show x / y = q_fl x y from Int32.toInt_inj.mp (by rw [hv, e1])]
  · have c1 : x.toInt < 0 := by have : ¬ 0 ≤ x.toInt := fun z => c ((xor_neg hy).mpr z); omega
    have e2 : (x / y).toInt * y.toInt = x.toInt - x.toInt.tmod y.toInt := by rw [e1, Int.mul_comm]; omega
    have e3 : (x / y * y).toInt = x.toInt - x.toInt.tmod y.toInt := by rw [ti_mul (by have := np c1; omega) (by have := np c1; omega), e2]
    refine qc (fun c2 => ?_) (fun c2 => ?_)
    · rw [c2] at e3
      rw [if_pos (by omega)] at hv
      rwa [show x / y = q_fl x y from Int32.toInt_inj.mp (by rw [hv, e1])]
    · have c3 : x.toInt.tmod y.toInt ≠ 0 := fun z => c2 (Int32.toInt_inj.mp (by rw [e3, z]; omega))
      have := np c1
      rw [if_neg (by omega)] at hv
      have hb : -2147483648 ≤ (q_fl x y).toInt := (q_fl x y).le_toInt
      have hb2 := (q_fl x y).toInt_lt
      have o1 : (1 : Int32).toInt = 1 := rfl
      rwa [show x / y - 1 = q_fl x y from Int32.toInt_inj.mp (by rw [ti_sub (by rw [e1, o1]; omega) (by rw [e1, o1]; omega), hv, e1]; rfl)]
theorem n_down {N : gx_M} {x y : Int32} {Q : Int32 → Prop} (hy : 1 ≤ y.toInt) (hx : -1000000000 ≤ x.toInt) (hy2 : y.toInt ≤ 1000) (h : Q (q_fl x y)) : T_X11_down N x y Q := by
  unfold T_X11_down
  have hx2 := x.toInt_lt
  have hn : ¬ y = 0 := fun e => by rw [e] at hy; exact absurd hy (by decide)
  refine n_rest hn ⟨hn, ?_⟩
  have hb := q_rest_bd (x := x) hy
  have e1 : (x - q_rest x y).toInt = y.toInt * (x.toInt / y.toInt) := by
    rw [ti_sub (by omega) (by omega), q_rest_val hy]
    have := Int.emod_add_mul_ediv x.toInt y.toInt
    omega
  rwa [show (x - q_rest x y) / y = q_fl x y from Int32.toInt_inj.mp (by rw [ti_div hy, e1, q_fl_val hy, Int.mul_tdiv_cancel_left _ (by omega)])]
theorem q_pt_bd {k h p w f t : Int32} (h1 : -999 ≤ h ∧ h ≤ 999) (h2 : 1 ≤ p ∧ p ≤ 500) : -999 ≤ (q_pt k h p w f t).toInt ∧ (q_pt k h p w f t).toInt ≤ 999 := by
  have a1 : -999 ≤ h.toInt := il h1.1
  have a2 : h.toInt ≤ 999 := il h1.2
  have a3 : 1 ≤ p.toInt := il h2.1
  have a4 : p.toInt ≤ 500 := il h2.2
  have z : (0 : Int32).toInt = 0 := rfl
  by_cases c : k = 0
  · rw [qp0 c]
    by_cases d : t < f
    · rw [if_pos d]; omega
    · rw [if_neg d]; omega
  · by_cases c1 : k = 1
    · rw [qp1 c c1]
      by_cases d : w ≤ q_rest (t - f) p
      · rw [if_pos d]; omega
      · rw [if_neg d]; omega
    · rw [qp2 c c1]
      have hb := q_rest_bd (x := t - f) a3
      have b1 : h.toInt * (q_rest (t - f) p).toInt ≤ 999 * p.toInt := by
        have : h.toInt * (q_rest (t - f) p).toInt ≤ 999 * (q_rest (t - f) p).toInt := Int.mul_le_mul_of_nonneg_right a2 hb.1
        omega
      have b2 : -(999 * p.toInt) ≤ h.toInt * (q_rest (t - f) p).toInt := by
        have : -999 * (q_rest (t - f) p).toInt ≤ h.toInt * (q_rest (t - f) p).toInt := Int.mul_le_mul_of_nonneg_right a1 hb.1
        omega
      rw [ti_div a3, ti_mul (by omega) (by omega)]
      exact td_bd a3 (by omega) b2 b1
theorem q_raw_bd {P : Nat → Nat → Int32} {t : Int32} {n : Nat} (h6 : n ≤ 6) (h : ∀ k, k < n → (-999 ≤ P k 1 ∧ P k 1 ≤ 999) ∧ (1 ≤ P k 2 ∧ P k 2 ≤ 500)) : -(999 * (n : Int)) ≤ (q_raw P t n).toInt ∧ (q_raw P t n).toInt ≤ 999 * n := by
  induction n with
  | zero => exact ⟨show -(999 * ((0 : Nat) : Int)) ≤ (0 : Int32).toInt by decide, show (0 : Int32).toInt ≤ 999 * ((0 : Nat) : Int) by decide⟩
  | succ n ih =>
    have i1 := ih (by omega) (fun k hk => h k (by omega))
    have i2 := q_pt_bd (k := P n 0) (w := P n 3) (f := P n 4) (t := t) (h n (by omega)).1 (h n (by omega)).2
    have e : (q_raw P t (n + 1)).toInt = (q_raw P t n).toInt + (q_pt (P n 0) (P n 1) (P n 2) (P n 3) (P n 4) t).toInt := ti_add (by unfold q_part; omega) (by unfold q_part; omega)
    rw [e]; omega
theorem q_R_bd {a : Nat → Int32} (hok : okA a) {s : Nat} (hs : s < 4) (t : Nat) : -5994 ≤ (q_R a s t).toInt ∧ (q_R a s t).toInt ≤ 5994 := by
  have h6 := (okN hok hs).1
  have := q_raw_bd (P := fun k j => a (30 + 30 * s + 5 * k + j)) (t := nI t) h6 (fun k hk => ⟨((hok.2.2.1 s hs).2 k hk).2.1, ((hok.2.2.1 s hs).2 k hk).2.2.1⟩)
  unfold q_R
  omega
theorem q_W_bd {a : Nat → Int32} (hok : okA a) {c : Nat} (hc : c < 2) (t : Nat) : -119880 ≤ (q_W a c t).toInt ∧ (q_W a c t).toInt ≤ 119880 := by
  induction t with
  | zero => exact ⟨show -119880 ≤ (0 : Int32).toInt by decide, show (0 : Int32).toInt ≤ 119880 by decide⟩
  | succ t ih =>
    obtain ⟨-, -, -, ⟨u1, u2⟩, ⟨d1, d2⟩, ⟨s1, s2⟩⟩ := hok.2.1 c hc
    have hr := q_R_bd hok (okS hok hc).1 t
    have a1 : 1 ≤ (a (16 + c)).toInt := il u1
    have a2 : (a (16 + c)).toInt ≤ 20 := il u2
    have a3 : 1 ≤ (a (18 + c)).toInt := il d1
    have a4 : 1 ≤ (a (20 + c)).toInt := il s1
    have a5 : (a (20 + c)).toInt ≤ 16 := il s2
    have e := q_W_succ a c t
    unfold q_O at e
    generalize q_R a (a (10 + c)).toNatClampNeg t = r at e hr
    generalize q_W a c t = w at e ih
    rw [e]
    have b1 : r.toInt * (a (16 + c)).toInt ≤ 5994 * (a (16 + c)).toInt := Int.mul_le_mul_of_nonneg_right hr.2 (by omega)
    have b2 : -5994 * (a (16 + c)).toInt ≤ r.toInt * (a (16 + c)).toInt := Int.mul_le_mul_of_nonneg_right hr.1 (by omega)
    have m1 : (r * a (16 + c)).toInt = r.toInt * (a (16 + c)).toInt := ti_mul (by omega) (by omega)
    have q1 : (119880 : Int) * 1 ≤ 119880 * (a (18 + c)).toInt := Int.mul_le_mul_of_nonneg_left a3 (by omega)
    have m2 := td_bd (x := (r * a (16 + c)).toInt) (B := 119880) a3 (by omega) (by omega) (by omega)
    rw [← ti_div a3] at m2
    generalize r * a (16 + c) / a (18 + c) = i at m2 ⊢
    have m3 : (i - w).toInt = i.toInt - w.toInt := ti_sub (by omega) (by omega)
    have m5 := td_16 (s := (a (20 + c)).toInt) ih.1 ih.2 m2.1 m2.2 (by omega) a5
    have b3 : (i.toInt - w.toInt) * (a (20 + c)).toInt ≤ 239760 * (a (20 + c)).toInt := Int.mul_le_mul_of_nonneg_right (by omega) (by omega)
    have b4 : -239760 * (a (20 + c)).toInt ≤ (i.toInt - w.toInt) * (a (20 + c)).toInt := Int.mul_le_mul_of_nonneg_right (by omega) (by omega)
    have m4 : ((i - w) * a (20 + c) / 16).toInt = ((i.toInt - w.toInt) * (a (20 + c)).toInt).tdiv 16 := by
      rw [ti_div (by decide), ti_mul (by rw [m3]; omega) (by rw [m3]; omega), m3]; rfl
    rw [ti_add (by rw [m4]; omega) (by rw [m4]; omega), m4]
    exact m5
