/-! tokens, and how the class comes to them -/
def q_wh (P : Nat → Bool) (b : Nat → Nat) : Nat → Nat → Nat
  | 0, p => p
  | m + 1, p => if P (b p) = true then q_wh P b m (p + 1) else p
def pBl (x : Nat) : Bool := decide (x = 32 ∨ x = 10)
def pLe (x : Nat) : Bool := decide ((97 ≤ x ∧ x ≤ 122) ∨ (65 ≤ x ∧ x ≤ 90))
def pDi (x : Nat) : Bool := decide (48 ≤ x ∧ x ≤ 57)
theorem q_wh_bd (P : Nat → Bool) (b : Nat → Nat) : ∀ m p, p ≤ q_wh P b m p ∧ q_wh P b m p ≤ p + m ∧ (∀ i, p ≤ i → i < q_wh P b m p → P (b i) = true) ∧ (q_wh P b m p < p + m → P (b (q_wh P b m p)) = false) := by
  intro m
  induction m with
  | zero => intro p; exact ⟨Nat.le_refl _, Nat.le_refl _, fun i h1 h2 => absurd h2 (by show ¬ i < p; omega), fun h => absurd h (by show ¬ p < p + 0; omega)⟩
  | succ m ih =>
    intro p
    have e : q_wh P b (m + 1) p = if P (b p) = true then q_wh P b m (p + 1) else p := rfl
    cases h : P (b p) with
    | true =>
      rw [e, if_pos h]
      obtain ⟨i1, i2, i3, i4⟩ := ih (p + 1)
      refine ⟨by omega, by omega, fun i h1 h2 => ?_, fun h1 => i4 (by omega)⟩
      by_cases z : i = p
      · subst z; exact h
      · exact i3 i (by omega) h2
    | false =>
      rw [e, if_neg (by rw [h]; decide)]
      exact ⟨Nat.le_refl _, by omega, fun i h1 h2 => absurd h2 (by omega), fun _ => h⟩
theorem q_wh_yes {P : Nat → Bool} {b : Nat → Nat} {m p : Nat} (h : P (b p) = true) : q_wh P b (m + 1) p = q_wh P b m (p + 1) := if_pos h
theorem q_wh_no {P : Nat → Bool} {b : Nat → Nat} {m p : Nat} (h : P (b p) = false) : q_wh P b (m + 1) p = p := if_neg (by rw [h]; decide)
/-- the number that digits tell, as the reference keeps it -/
def q_rn (b : Nat → Nat) : Nat → Nat → Nat → Nat
  | 0, _, r => r
  | m + 1, p, r => q_rn b m (p + 1) (if 99999 < r then r else 10 * r + (b p - 48))
/-- letters as one number -/
def q_cd (b : Nat → Nat) (s : Nat) : Nat → Nat
  | 0 => 0
  | k + 1 => 64 * q_cd b s k + (b (s + k) - 64)
def q_cs_ (i : Nat) : Nat := [10681124, 580287086, 3058, 138148, 191476, 191479, 564287588, 802326898, 13801707, 11705253, 55693433907, 866576613].getD i 0
def q_first (c : Nat) : Nat → Nat → Nat
  | 0, i => i
  | m + 1, i => if c = q_cs_ i then i else q_first c m (i + 1)
def q_word (b : Nat → Nat) (s e : Nat) : Nat := if e - s ≤ 7 then q_first (q_cd b s (e - s)) 12 0 else 12
def q_wsg (i : Nat) : Int32 := [-54, -55, -43, -42, -41, -11, -12, -13, -14, -15, -16, -17].getD i (-58)
def q_ssg (x : Nat) (eq : Bool) : Int32 :=
  if x = 35 then -36 else if x = 40 then -51 else if x = 41 then -52 else if x = 42 then -23 else if x = 43 then -21 else if x = 45 then -22 else if x = 47 then -24
  else if x = 59 then -53 else if x = 60 then (if eq = true then -32 else -31) else if x = 61 then -35 else if x = 62 then (if eq = true then -34 else -33) else -58
def q_eqn (b : Nat → Nat) (n s : Nat) : Bool := decide ((b s = 60 ∨ b s = 62) ∧ s + 1 < n ∧ b (s + 1) = 61)
/-- the token behind p: its sign, what it tells as a number, where it begins, what is behind it -/
def q_st0 (b : Nat → Nat) (n p : Nat) : Nat := q_wh pBl b (n - p) p
def q_sg (b : Nat → Nat) (n p : Nat) : Int32 :=
  if q_st0 b n p = n then -57 else if pLe (b (q_st0 b n p)) = true then q_wsg (q_word b (q_st0 b n p) (q_wh pLe b (n - q_st0 b n p) (q_st0 b n p)))
  else if pDi (b (q_st0 b n p)) = true then -56 else q_ssg (b (q_st0 b n p)) (q_eqn b n (q_st0 b n p))
def q_nu (b : Nat → Nat) (n p : Nat) : Nat := q_rn b (q_wh pDi b (n - q_st0 b n p) (q_st0 b n p) - q_st0 b n p) (q_st0 b n p) 0
def q_ne (b : Nat → Nat) (n p : Nat) : Nat :=
  if q_st0 b n p = n then n else if pLe (b (q_st0 b n p)) = true then q_wh pLe b (n - q_st0 b n p) (q_st0 b n p)
  else if pDi (b (q_st0 b n p)) = true then q_wh pDi b (n - q_st0 b n p) (q_st0 b n p) else if q_eqn b n (q_st0 b n p) = true then q_st0 b n p + 2 else q_st0 b n p + 1
/-- a token is behind where one asks, and within the text -/
theorem q_ne_bd (b : Nat → Nat) {n p : Nat} (hp : p ≤ n) : p ≤ q_st0 b n p ∧ q_st0 b n p ≤ n ∧ q_ne b n p ≤ n ∧ (q_sg b n p ≠ -57 → q_st0 b n p < q_ne b n p) := by
  obtain ⟨a1, a2, -, -⟩ := q_wh_bd pBl b (n - p) p
  have a2 : q_st0 b n p ≤ p + (n - p) := a2
  have a1 : p ≤ q_st0 b n p := a1
  obtain ⟨l1, l2, l3, l4⟩ := q_wh_bd pLe b (n - q_st0 b n p) (q_st0 b n p)
  obtain ⟨d1, d2, d3, d4⟩ := q_wh_bd pDi b (n - q_st0 b n p) (q_st0 b n p)
  refine ⟨a1, by omega, ?_, ?_⟩
  · unfold q_ne
    by_cases c0 : q_st0 b n p = n
    · rw [if_pos c0]; omega
    · rw [if_neg c0]
      by_cases c1 : pLe (b (q_st0 b n p)) = true
      · rw [if_pos c1]; omega
      · rw [if_neg c1]
        by_cases c2 : pDi (b (q_st0 b n p)) = true
        · rw [if_pos c2]; omega
        · rw [if_neg c2]
          by_cases c3 : q_eqn b n (q_st0 b n p) = true
          · rw [if_pos c3]
            have := of_decide_eq_true c3
            omega
          · rw [if_neg c3]; omega
  · intro hs
    have c0 : ¬ q_st0 b n p = n := fun e => hs (if_pos e)
    unfold q_ne
    rw [if_neg c0]
    by_cases c1 : pLe (b (q_st0 b n p)) = true
    · rw [if_pos c1]
      rcases Nat.eq_or_lt_of_le l1 with z | z
      · rw [← z] at l4
        rw [l4 (by omega)] at c1; cases c1
      · exact z
    · rw [if_neg c1]
      by_cases c2 : pDi (b (q_st0 b n p)) = true
      · rw [if_pos c2]
        rcases Nat.eq_or_lt_of_le d1 with z | z
        · rw [← z] at d4
          rw [d4 (by omega)] at c2; cases c2
        · exact z
      · rw [if_neg c2]
        by_cases c3 : q_eqn b n (q_st0 b n p) = true
        · rw [if_pos c3]; omega
        · rw [if_neg c3]; omega
/-- a memory that holds a text of n bytes -/
def q_by (M : gx_M) (b : Nat → Nat) (n : Nat) : Prop := n ≤ 300 ∧ M 5 1 = nI n ∧ ∀ i, i < n → M 6 i = nI (b i) ∧ b i < 256
def Fr5 (M M' : gx_M) : Prop := (∀ q, q ≠ 5 → M' q = M q) ∧ M' 5 1 = M 5 1
theorem Fr5.rf {M : gx_M} : Fr5 M M := ⟨fun _ _ => rfl, rfl⟩
theorem Fr5.tr {A B C : gx_M} (h : Fr5 A B) (k : Fr5 B C) : Fr5 A C := ⟨fun q hq => (k.1 q hq).trans (h.1 q hq), k.2.trans h.2⟩
theorem Fr5.up {M M' : gx_M} (h : Fr5 M M') {j : Nat} (x : Int32) (hj : j ≠ 1) : Fr5 M (gx_up M' 5 j x) := ⟨fun q hq => by rw [gu_ne hq]; exact h.1 q hq, by rw [gu_eq, ub_ne (Ne.symm hj)]; exact h.2⟩
theorem q_by.kept {M M' : gx_M} {b : Nat → Nat} {n : Nat} (h : q_by M b n) (k : Fr5 M M') : q_by M' b n := ⟨h.1, k.2.trans h.2.1, fun i hi => by rw [k.1 6 (by decide)]; exact h.2.2 i hi⟩
theorem s_byteIn {M : gx_M} {b : Nat → Nat} {n p : Nat} {Q : Int32 → Prop} (hb : q_by M b n) (hp : p < n) (h : Q (nI (b p))) : T_X6_byteAt M (nI p) Q := by
  have h300 := hb.1
  unfold T_X6_byteAt
  rw [hb.2.1]
  refine qf (nI_pos (by omega)) (qf (nI_ge hp (by omega)) (qf (show ¬ nI 300 ≤ nI p from nI_ge (by omega) (by omega)) ⟨vp_in_nI (by omega) (by omega), ?_⟩))
  rw [nI_clamp (by omega), (hb.2.2 p hp).1]; exact h
theorem s_byteEnd {M : gx_M} {b : Nat → Nat} {n p : Nat} {Q : Int32 → Prop} (hb : q_by M b n) (hp : n ≤ p) (hp2 : p < 1000) (h : Q (-1)) : T_X6_byteAt M (nI p) Q := by
  have h300 := hb.1
  unfold T_X6_byteAt
  rw [hb.2.1]
  exact qf (nI_pos (by omega)) (qt (nI_le hp (by omega)) h)
theorem nI_is {x k : Nat} (hx : x < 256) (hk : k < 256) : nI x = nI k ↔ x = k := nI_eq (by omega) (by omega)
theorem s_isBlank {M : gx_M} {x : Nat} {Q : Int32 → Prop} (hx : x < 256) (h : Q (b2i (pBl x))) : T_X6_isBlank M (nI x) Q := by
  unfold T_X6_isBlank T_X6_isBlank_12
  unfold pBl at h
  refine qc (fun e => ?_) (fun e => qc (fun e2 => ?_) (fun e2 => ?_))
  · have e : x = 32 := (nI_is (k := 32) hx (by omega)).mp e
    rw [decide_eq_true (Or.inl e)] at h; exact h
  · have e2 : x = 10 := (nI_is (k := 10) hx (by omega)).mp e2
    rw [decide_eq_true (Or.inr e2)] at h; exact h
  · have e : ¬ x = 32 := fun z => e ((nI_is (k := 32) hx (by omega)).mpr z)
    have e2 : ¬ x = 10 := fun z => e2 ((nI_is (k := 10) hx (by omega)).mpr z)
    rw [decide_eq_false (by omega)] at h; exact h
theorem nI_bt {x lo hi : Nat} (hx : x < 256) (hlo : lo < 256) (hhi : hi < 256) : (nI lo ≤ nI x ∧ nI x ≤ nI hi) ↔ (lo ≤ x ∧ x ≤ hi) := by
  rw [nI_leI (by omega) (by omega), nI_leI (by omega) (by omega)]
theorem s_isLetter {M : gx_M} {x : Nat} {Q : Int32 → Prop} (hx : x < 256) (h : Q (b2i (pLe x))) : T_X6_isLetter M (nI x) Q := by
  unfold T_X6_isLetter T_X6_isLetter_22
  unfold pLe at h
  refine gd_within (fun e => gd_within (fun e2 => ?_) (fun e2 => ?_)) (fun e => ?_)
  · have e : ¬ (97 ≤ x ∧ x ≤ 122) := fun z => e ((nI_bt (lo := 97) (hi := 122) hx (by omega) (by omega)).mpr z)
    have e2 : ¬ (65 ≤ x ∧ x ≤ 90) := fun z => e2 ((nI_bt (lo := 65) (hi := 90) hx (by omega) (by omega)).mpr z)
    rw [decide_eq_false (by omega)] at h; exact h
  · have e2 : 65 ≤ x ∧ x ≤ 90 := (nI_bt (lo := 65) (hi := 90) hx (by omega) (by omega)).mp e2
    rw [decide_eq_true (Or.inr e2)] at h; exact h
  · have e : 97 ≤ x ∧ x ≤ 122 := (nI_bt (lo := 97) (hi := 122) hx (by omega) (by omega)).mp e
    rw [decide_eq_true (Or.inl e)] at h; exact h
theorem s_isDigit {M : gx_M} {x : Nat} {Q : Int32 → Prop} (hx : x < 256) (h : Q (b2i (pDi x))) : T_X6_isDigit M (nI x) Q := by
  unfold T_X6_isDigit
  unfold pDi at h
  refine sp_within ⟨b01o, ?_⟩
  by_cases e : (48 : Int32) ≤ nI x ∧ nI x ≤ 57
  · have e2 : 48 ≤ x ∧ x ≤ 57 := (nI_bt (lo := 48) (hi := 57) hx (by omega) (by omega)).mp e
    rw [decide_eq_true e2] at h
    rw [if_pos e]; exact h
  · have e2 : ¬ (48 ≤ x ∧ x ≤ 57) := fun z => e ((nI_bt (lo := 48) (hi := 57) hx (by omega) (by omega)).mpr z)
    rw [decide_eq_false e2] at h
    rw [if_neg e]; exact h
theorem s_blanks {M : gx_M} {b : Nat → Nat} {n p : Nat} {Q K : gx_M → Prop} (hb : q_by M b n) (h2 : M 5 2 = nI p) (hp : p ≤ n) (h : ∀ M' : gx_M, Fr5 M M' → M' 5 2 = nI (q_st0 b n p) → K M') : ∃ k, T_X6_next_0 Q K k M := by
  have h300 := hb.1
  have key : ∀ m p' (M' : gx_M), p' + m = n → Fr5 M M' → M' 5 2 = nI p' → q_st0 b n p = q_wh pBl b m p' → T_X6_next_0 Q K (m + 1) M' := by
    intro m
    induction m with
    | zero =>
      intro p' M' hm hF h2' hq
      unfold T_X6_next_0
      rw [(hb.kept hF).2.1, h2']
      refine qt (nI_le (by omega) (by omega)) (h M' hF ?_)
      rw [hq]; exact h2'
    | succ m ih =>
      intro p' M' hm hF h2' hq
      have hx := (hb.2.2 p' (by omega)).2
      unfold T_X6_next_0
      rw [(hb.kept hF).2.1, h2']
      refine qf (nI_ge (by omega) (by omega)) (s_byteIn (hb.kept hF) (by omega) (s_isBlank hx ?_))
      cases hB : pBl (b p') with
      | true =>
        refine qf (by decide) ?_
        rintro _ rfl
        rw [nI_1]
        exact ih (p' + 1) _ (by omega) (hF.up _ (by decide)) (by rw [gu_eq, ub_eq]) (by rw [hq, q_wh_yes hB])
      | false =>
        refine qt rfl (h M' hF ?_)
        rw [hq, q_wh_no hB]; exact h2'
  exact ⟨n - p + 1, key (n - p) p M (by omega) Fr5.rf h2 rfl⟩
theorem s_passLetters {M : gx_M} {b : Nat → Nat} {n p : Nat} {Q : gx_M → Prop} (hb : q_by M b n) (h2 : M 5 2 = nI p) (hp : p ≤ n) (h : ∀ M' : gx_M, Fr5 M M' → M' 5 3 = M 5 3 → M' 5 2 = nI (q_wh pLe b (n - p) p) → Q M') : T_X6_passLetters M Q := by
  have h300 := hb.1
  have key : ∀ m p' (M' : gx_M), p' + m = n → Fr5 M M' → M' 5 3 = M 5 3 → M' 5 2 = nI p' → q_wh pLe b (n - p) p = q_wh pLe b m p' → T_X6_passLetters_0 Q (fun M7 => Q M7) (m + 1) M' := by
    intro m
    induction m with
    | zero =>
      intro p' M' hm hF h3 h2' hq
      unfold T_X6_passLetters_0
      rw [(hb.kept hF).2.1, h2']
      refine qt (nI_le (by omega) (by omega)) (h M' hF h3 ?_)
      rw [hq]; exact h2'
    | succ m ih =>
      intro p' M' hm hF h3 h2' hq
      have hx := (hb.2.2 p' (by omega)).2
      unfold T_X6_passLetters_0
      rw [(hb.kept hF).2.1, h2']
      refine qf (nI_ge (by omega) (by omega)) (s_byteIn (hb.kept hF) (by omega) (s_isLetter hx ?_))
      cases hB : pLe (b p') with
      | true =>
        refine qf (by decide) ?_
        rintro _ rfl
        rw [nI_1]
        exact ih (p' + 1) _ (by omega) (hF.up _ (by decide)) (by rw [gu_eq, ub_ne (by decide)]; exact h3) (by rw [gu_eq, ub_eq]) (by rw [hq, q_wh_yes hB])
      | false =>
        refine qt rfl (h M' hF h3 ?_)
        rw [hq, q_wh_no hB]; exact h2'
  exact ⟨n - p + 1, key (n - p) p M (by omega) Fr5.rf rfl h2 rfl⟩
theorem s_readNumber {M : gx_M} {b : Nat → Nat} {n p : Nat} {Q : gx_M → Prop} (hb : q_by M b n) (h2 : M 5 2 = nI p) (hp : p ≤ n) (h : ∀ M' : gx_M, Fr5 M M' → M' 5 3 = M 5 3 → M' 5 2 = nI (q_wh pDi b (n - p) p) → M' 5 5 = nI (min (q_rn b (q_wh pDi b (n - p) p - p) p 0) 10000) → Q M') : T_X6_readNumber M Q := by
  have h300 := hb.1
  unfold T_X6_readNumber
  rintro _ rfl
  have key : ∀ m p' r (M' : gx_M), p' + m = n → Fr5 M M' → M' 5 3 = M 5 3 → M' 5 2 = nI p' → M' 5 5 = nI (min r 10000) → q_wh pDi b (n - p) p = q_wh pDi b m p' → q_rn b (q_wh pDi b (n - p) p - p) p 0 = q_rn b (q_wh pDi b m p' - p') p' r → T_X6_readNumber_5 Q (fun M11 => Q M11) (m + 1) M' := by
    intro m
    induction m with
    | zero =>
      intro p' r M' hm hF h3 h2' h5 hq hr
      unfold T_X6_readNumber_5
      rw [(hb.kept hF).2.1, h2']
      refine qt (nI_le (by omega) (by omega)) (h M' hF h3 (by rw [hq]; exact h2') ?_)
      have e0 : q_wh pDi b 0 p' - p' = 0 := Nat.sub_self p'
      rw [hr, e0]; exact h5
    | succ m ih =>
      intro p' r M' hm hF h3 h2' h5 hq hr
      have hx := (hb.2.2 p' (by omega)).2
      unfold T_X6_readNumber_5
      rw [(hb.kept hF).2.1, h2']
      refine qf (nI_ge (by omega) (by omega)) (s_byteIn (hb.kept hF) (by omega) (s_isDigit hx ?_))
      cases hB : pDi (b p') with
      | true =>
        refine qf (by decide) (s_byteIn (hb.kept hF) (by omega) ?_)
        have hd := of_decide_eq_true hB
        have eN : nI (min r 10000) * 10 + nI (b p') - 48 = nI (min r 10000 * 10 + b p' - 48) := by
          rw [show nI (min r 10000) * (10 : Int32) = nI (min r 10000 * 10) from pk_mul _ 10, nI_add]
          exact pk_sub (b := 48) (by omega)
        rintro _ rfl _ rfl
        rw [h5, eN, gu_eq, ub_ne (by decide), h2', nI_1]
        rw [q_wh_yes hB] at hq hr
        obtain ⟨w1, -, -, -⟩ := q_wh_bd pDi b m (p' + 1)
        rw [show q_wh pDi b m (p' + 1) - p' = q_wh pDi b m (p' + 1) - (p' + 1) + 1 by omega] at hr
        refine ih (p' + 1) (if 99999 < r then r else 10 * r + (b p' - 48)) _ (by omega) ((hF.up _ (by decide)).up _ (by decide)) ?_ (by rw [gu_eq, ub_eq]) ?_ hq hr
        · rw [gu_eq, ub_ne (by decide), gu_eq, ub_ne (by decide)]; exact h3
        · rw [gu_eq, ub_ne (by decide), gu_eq, ub_eq]
          by_cases big : 10000 < min r 10000 * 10 + b p' - 48
          · rw [if_pos (show (10000 : Int32) < nI (min r 10000 * 10 + b p' - 48) from nI_lt (a := 10000) big (by omega))]
            have e1 : min (if 99999 < r then r else 10 * r + (b p' - 48)) 10000 = 10000 := by
              by_cases c : 99999 < r
              · rw [if_pos c]; omega
              · rw [if_neg c]; omega
            rw [e1]; rfl
          · rw [if_neg (show ¬ (10000 : Int32) < nI (min r 10000 * 10 + b p' - 48) from nI_nlt (a := 10000) (by omega) (by omega))]
            have e1 : min (if 99999 < r then r else 10 * r + (b p' - 48)) 10000 = min r 10000 * 10 + b p' - 48 := by
              by_cases c : 99999 < r
              · rw [if_pos c]; omega
              · rw [if_neg c]; omega
            rw [e1]
      | false =>
        refine qt rfl (h M' hF h3 (by rw [hq, q_wh_no hB]; exact h2') ?_)
        rw [q_wh_no hB, Nat.sub_self] at hr
        rw [hr]; exact h5
  exact ⟨n - p + 1, key (n - p) p 0 _ (by omega) (Fr5.rf.up _ (by decide)) (by rw [gu_eq, ub_ne (by decide)]) (by rw [gu_eq, ub_ne (by decide)]; exact h2) (by rw [gu_eq, ub_eq]; rfl) rfl rfl⟩
/-- two rows of letters with one number are alike -/
theorem cd_inj {b w : Nat → Nat} {s : Nat} : ∀ m m', (∀ k, k < m → 65 ≤ b (s + k) ∧ b (s + k) ≤ 122) → (∀ k, k < m' → 65 ≤ w k ∧ w k ≤ 122) → q_cd b s m = q_cd w 0 m' → m = m' ∧ ∀ k, k < m → b (s + k) = w k := by
  intro m
  induction m with
  | zero =>
    intro m' h1 h2 h
    cases m' with
    | zero => exact ⟨rfl, fun k hk => absurd hk (Nat.not_lt_zero _)⟩
    | succ m' =>
      have e : (0 : Nat) = 64 * q_cd w 0 m' + (w (0 + m') - 64) := h
      have := h2 m' (by omega)
      rw [Nat.zero_add] at e
      omega
  | succ m ih =>
    intro m' h1 h2 h
    have hm := h1 m (by omega)
    cases m' with
    | zero =>
      have e : 64 * q_cd b s m + (b (s + m) - 64) = 0 := h
      omega
    | succ m' =>
      have e : 64 * q_cd b s m + (b (s + m) - 64) = 64 * q_cd w 0 m' + (w (0 + m') - 64) := h
      have hw := h2 m' (by omega)
      rw [Nat.zero_add] at e
      obtain ⟨i1, i2⟩ := ih m' (fun k hk => h1 k (by omega)) (fun k hk => h2 k (by omega)) (by omega)
      subst i1
      refine ⟨rfl, fun k hk => ?_⟩
      by_cases z : k = m
      · subst z; omega
      · exact i2 k (by omega)
def q_Wd (i k : Nat) : Nat := ((gx_sb.getD i []).getD k 0).toNatClampNeg
theorem q_W_ok : ∀ i, i < 12 → (gx_sl.getD i 0 ≤ 7 ∧ q_cd (q_Wd i) 0 (gx_sl.getD i 0) = q_cs_ i) ∧ ∀ k, k < gx_sl.getD i 0 → (gx_sb.getD i []).getD k 0 = nI (q_Wd i k) ∧ 65 ≤ q_Wd i k ∧ q_Wd i k ≤ 122 := by decide +kernel
/-- does a row of letters spell a word -/
theorem spell_iff {b : Nat → Nat} {s e i : Nat} (hi : i < 12) (hl : ∀ k, k < e - s → 65 ≤ b (s + k) ∧ b (s + k) ≤ 122) : (e - s ≤ 7 ∧ q_cd b s (e - s) = q_cs_ i) ↔ (e - s = gx_sl.getD i 0 ∧ ∀ k, k < gx_sl.getD i 0 → b (s + k) = q_Wd i k) := by
  obtain ⟨⟨w1, w2⟩, w3⟩ := q_W_ok i hi
  constructor
  · rintro ⟨h1, h2⟩
    obtain ⟨i1, i2⟩ := cd_inj (b := b) (w := q_Wd i) (s := s) (e - s) (gx_sl.getD i 0) hl (fun k hk => (w3 k hk).2) (h2.trans w2.symm)
    exact ⟨i1, fun k hk => i2 k (by omega)⟩
  · rintro ⟨h1, h2⟩
    refine ⟨by omega, ?_⟩
    rw [h1, ← w2]
    have key : ∀ m, m ≤ gx_sl.getD i 0 → q_cd b s m = q_cd (q_Wd i) 0 m := by
      intro m
      induction m with
      | zero => intro _; rfl
      | succ m ih =>
        intro hm
        show 64 * q_cd b s m + (b (s + m) - 64) = 64 * q_cd (q_Wd i) 0 m + (q_Wd i (0 + m) - 64)
        rw [ih (by omega), h2 m (by omega), Nat.zero_add]
    exact key _ (Nat.le_refl _)
theorem s_spells {M : gx_M} {b : Nat → Nat} {n s e i : Nat} {Q : Int32 → Prop} (hb : q_by M b n) (hi : i < 12) (h2 : M 5 2 = nI e) (h3 : M 5 3 = nI s) (hse : s ≤ e) (hen : e ≤ n) (hl : ∀ k, k < e - s → 65 ≤ b (s + k) ∧ b (s + k) ≤ 122)
    (h : Q (b2i (decide (e - s ≤ 7 ∧ q_cd b s (e - s) = q_cs_ i)))) : T_X6_spells M i Q := by
  have h300 := hb.1
  have hiff := spell_iff hi hl
  obtain ⟨⟨w1, w2⟩, w3⟩ := q_W_ok i hi
  unfold T_X6_spells gx_slen
  rw [h2, h3, pk_sub hse]
  refine qc (fun d => ?_) (fun d => ?_)
  · have d : e - s = gx_sl.getD i 0 := (nI_eq (by omega) (by omega)).mp d
    have key : ∀ m k, k + m = gx_sl.getD i 0 → (∀ j, j < k → b (s + j) = q_Wd i j) → T_X6_spells_20 M Q (m + 1) i (nI k) := by
      intro m
      induction m with
      | zero =>
        intro k hk hj
        unfold T_X6_spells_20 gx_slen
        refine qt (nI_le (by omega) (by omega)) ?_
        rw [decide_eq_true (hiff.mpr ⟨d, fun j hj2 => hj j (by omega)⟩)] at h
        exact h
      | succ m ih =>
        intro k hk hj
        unfold T_X6_spells_20 gx_slen gx_sch
        refine qf (nI_ge (by omega) (by omega)) ?_
        rw [h3, nI_add]
        refine s_byteIn hb (by omega) ⟨vp_in_nI (by omega) (by omega), ?_⟩
        have hx := (hb.2.2 (s + k) (by omega)).2
        obtain ⟨w4, w5⟩ := w3 k (by omega)
        rw [nI_clamp (by omega), w4]
        refine qc (fun q => ?_) (fun q => ?_)
        · rintro _ rfl
          rw [nI_1]
          have q : b (s + k) = q_Wd i k := (nI_eq (by omega) (by omega)).mp q
          refine ih (k + 1) (by omega) (fun j hj2 => ?_)
          by_cases z : j = k
          · subst z; exact q
          · exact hj j (by omega)
        · rw [decide_eq_false (fun z => q (by rw [(hiff.mp z).2 k (by omega)]))] at h
          exact h
    exact ⟨gx_sl.getD i 0 + 1, key _ 0 (by omega) (fun j hj => absurd hj (Nat.not_lt_zero _))⟩
  · rw [decide_eq_false (fun z => d (by rw [(hiff.mp z).1]))] at h
    exact h
theorem q_first_at {c : Nat} : ∀ m i j, i ≤ j → j < i + m → (∀ k, i ≤ k → k < j → ¬ c = q_cs_ k) → c = q_cs_ j → q_first c m i = j := by
  intro m
  induction m with
  | zero => intro i j h1 h2; omega
  | succ m ih =>
    intro i j h1 h2 h3 h4
    have e : q_first c (m + 1) i = if c = q_cs_ i then i else q_first c m (i + 1) := rfl
    rw [e]
    by_cases z : i = j
    · subst z; rw [if_pos h4]
    · rw [if_neg (h3 i (Nat.le_refl _) (by omega))]
      exact ih (i + 1) j (by omega) (by omega) (fun k h5 h6 => h3 k (by omega) h6) h4
theorem q_first_no {c : Nat} : ∀ m i, (∀ k, i ≤ k → k < i + m → ¬ c = q_cs_ k) → q_first c m i = i + m := by
  intro m
  induction m with
  | zero => intro i _; rfl
  | succ m ih =>
    intro i h
    have e : q_first c (m + 1) i = if c = q_cs_ i then i else q_first c m (i + 1) := rfl
    rw [e, if_neg (h i (Nat.le_refl _) (by omega)), ih (i + 1) (fun k h1 h2 => h k (by omega) (by omega))]
    omega
theorem q_word_at {b : Nat → Nat} {s e j : Nat} (hj : j < 12) (h : ∀ k, k < j → ¬ (e - s ≤ 7 ∧ q_cd b s (e - s) = q_cs_ k)) (hh : e - s ≤ 7 ∧ q_cd b s (e - s) = q_cs_ j) : q_word b s e = j := by
  unfold q_word
  rw [if_pos hh.1]
  exact q_first_at 12 0 j (Nat.zero_le _) (by omega) (fun k _ h2 z => h k h2 ⟨hh.1, z⟩) hh.2
theorem q_word_no {b : Nat → Nat} {s e : Nat} (h : ∀ k, k < 12 → ¬ (e - s ≤ 7 ∧ q_cd b s (e - s) = q_cs_ k)) : q_word b s e = 12 := by
  unfold q_word
  by_cases c : e - s ≤ 7
  · rw [if_pos c]
    exact q_first_no 12 0 (fun k _ h2 z => h k (by omega) ⟨c, z⟩)
  · rw [if_neg c]

theorem s_wordSign {M : gx_M} {b : Nat → Nat} {n s e : Nat} {Q : Int32 → Prop} (hb : q_by M b n) (h2 : M 5 2 = nI e) (h3 : M 5 3 = nI s) (hse : s ≤ e) (hen : e ≤ n) (hl : ∀ k, k < e - s → 65 ≤ b (s + k) ∧ b (s + k) ≤ 122)
    (h : Q (q_wsg (q_word b s e))) : T_X6_wordSign M Q := by
  have all : ∀ i, i < 12 → (∀ k, k < i → ¬ (e - s ≤ 7 ∧ q_cd b s (e - s) = q_cs_ k)) → ∀ (A B : Prop), (Q (q_wsg i) → B) → ((∀ k, k < i + 1 → ¬ (e - s ≤ 7 ∧ q_cd b s (e - s) = q_cs_ k)) → A) → (if b2i (decide (e - s ≤ 7 ∧ q_cd b s (e - s) = q_cs_ i)) = 0 then A else B) := by
    intro i hi hno A B hB hA
    by_cases d : e - s ≤ 7 ∧ q_cd b s (e - s) = q_cs_ i
    · rw [decide_eq_true d]
      refine qf (by decide) (hB ?_)
      rw [q_word_at hi hno d] at h
      exact h
    · rw [decide_eq_false d]
      refine qt rfl (hA (fun k hk => ?_))
      by_cases z : k = i
      · subst z; exact d
      · exact hno k (by omega)
  unfold T_X6_wordSign T_X6_valueSign
  refine s_spells (i := 0) hb (by omega) h2 h3 hse hen hl (all 0 (by omega) (fun k hk => absurd hk (Nat.not_lt_zero _)) _ _ id (fun n0 => ?_))
  refine s_spells (i := 1) hb (by omega) h2 h3 hse hen hl (all 1 (by omega) n0 _ _ id (fun n1 => ?_))
  refine s_spells (i := 2) hb (by omega) h2 h3 hse hen hl (all 2 (by omega) n1 _ _ id (fun n2 => ?_))
  refine s_spells (i := 3) hb (by omega) h2 h3 hse hen hl (all 3 (by omega) n2 _ _ id (fun n3 => ?_))
  refine s_spells (i := 4) hb (by omega) h2 h3 hse hen hl (all 4 (by omega) n3 _ _ id (fun n4 => ?_))
  refine s_spells (i := 5) hb (by omega) h2 h3 hse hen hl (all 5 (by omega) n4 _ _ id (fun n5 => ?_))
  refine s_spells (i := 6) hb (by omega) h2 h3 hse hen hl (all 6 (by omega) n5 _ _ id (fun n6 => ?_))
  refine s_spells (i := 7) hb (by omega) h2 h3 hse hen hl (all 7 (by omega) n6 _ _ id (fun n7 => ?_))
  refine s_spells (i := 8) hb (by omega) h2 h3 hse hen hl (all 8 (by omega) n7 _ _ id (fun n8 => ?_))
  refine s_spells (i := 9) hb (by omega) h2 h3 hse hen hl (all 9 (by omega) n8 _ _ id (fun n9 => ?_))
  refine s_spells (i := 10) hb (by omega) h2 h3 hse hen hl (all 10 (by omega) n9 _ _ id (fun n10 => ?_))
  refine s_spells (i := 11) hb (by omega) h2 h3 hse hen hl (all 11 (by omega) n10 _ _ id (fun n11 => ?_))
  rw [q_word_no n11] at h
  exact h
theorem s_passesEqual {M : gx_M} {b : Nat → Nat} {n s : Nat} {Q : Int32 → gx_M → Prop} (hb : q_by M b n) (h2 : M 5 2 = nI (s + 1)) (hs : s < n) (h : ∀ (eq : Bool) (M' : gx_M), eq = decide (s + 1 < n ∧ b (s + 1) = 61) → Fr5 M M' → M' 5 3 = M 5 3 → M' 5 2 = nI (if eq = true then s + 2 else s + 1) → Q (b2i eq) M') : T_X6_passesEqual M Q := by
  have h300 := hb.1
  unfold T_X6_passesEqual
  rw [h2]
  rcases Nat.lt_or_ge (s + 1) n with z | z
  · have hx := (hb.2.2 (s + 1) z).2
    refine s_byteIn hb z (qc (fun e => ?_) (fun e => ?_))
    · have e : b (s + 1) = 61 := (nI_is (k := 61) hx (by omega)).mp e
      rintro _ rfl
      rw [nI_1]
      exact h true _ (decide_eq_true ⟨z, e⟩).symm (Fr5.rf.up _ (by decide)) (by rw [gu_eq, ub_ne (by decide)]) (by rw [gu_eq, ub_eq, if_pos rfl])
    · have e : ¬ b (s + 1) = 61 := fun y => e ((nI_is (k := 61) hx (by omega)).mpr y)
      exact h false M (decide_eq_false (fun y => e y.2)).symm Fr5.rf rfl (by rw [if_neg (by decide)]; exact h2)
  · refine s_byteEnd hb z (by omega) (qf (by decide) ?_)
    exact h false M (decide_eq_false (by omega)).symm Fr5.rf rfl (by rw [if_neg (by decide)]; exact h2)
theorem s_signOf {M : gx_M} {b : Nat → Nat} {n s : Nat} {Q : Int32 → gx_M → Prop} (hb : q_by M b n) (h2 : M 5 2 = nI (s + 1)) (hs : s < n) (h : ∀ M' : gx_M, Fr5 M M' → M' 5 3 = M 5 3 → M' 5 2 = nI (if q_eqn b n s = true then s + 2 else s + 1) → Q (q_ssg (b s) (q_eqn b n s)) M') : T_X6_signOf M (nI (b s)) Q := by
  have hx := (hb.2.2 s hs).2
  have plain : ∀ x, b s = x → ¬ (x = 60 ∨ x = 62) → Q (q_ssg x false) M := by
    intro x ex hno
    have e0 : q_eqn b n s = false := decide_eq_false (fun y => by rw [ex] at y; exact hno y.1)
    have hh := h M Fr5.rf rfl (by rw [e0, if_neg (by decide)]; exact h2)
    rw [e0, ex] at hh
    exact hh
  unfold T_X6_signOf
  refine qc (fun e => plain 35 ((nI_is (k := 35) hx (by omega)).mp e) (by decide)) (fun n35 => ?_)
  refine qc (fun e => plain 36 ((nI_is (k := 36) hx (by omega)).mp e) (by decide)) (fun n36 => ?_)
  refine qc (fun e => plain 37 ((nI_is (k := 37) hx (by omega)).mp e) (by decide)) (fun n37 => ?_)
  refine qc (fun e => plain 38 ((nI_is (k := 38) hx (by omega)).mp e) (by decide)) (fun n38 => ?_)
  refine qc (fun e => plain 39 ((nI_is (k := 39) hx (by omega)).mp e) (by decide)) (fun n39 => ?_)
  refine qc (fun e => plain 40 ((nI_is (k := 40) hx (by omega)).mp e) (by decide)) (fun n40 => ?_)
  refine qc (fun e => plain 41 ((nI_is (k := 41) hx (by omega)).mp e) (by decide)) (fun n41 => ?_)
  refine qc (fun e => plain 42 ((nI_is (k := 42) hx (by omega)).mp e) (by decide)) (fun n42 => ?_)
  refine qc (fun e => plain 43 ((nI_is (k := 43) hx (by omega)).mp e) (by decide)) (fun n43 => ?_)
  refine qc (fun e => plain 44 ((nI_is (k := 44) hx (by omega)).mp e) (by decide)) (fun n44 => ?_)
  refine qc (fun e => plain 45 ((nI_is (k := 45) hx (by omega)).mp e) (by decide)) (fun n45 => ?_)
  refine qc (fun e => plain 46 ((nI_is (k := 46) hx (by omega)).mp e) (by decide)) (fun n46 => ?_)
  refine qc (fun e => plain 47 ((nI_is (k := 47) hx (by omega)).mp e) (by decide)) (fun n47 => ?_)
  refine qc (fun e => plain 48 ((nI_is (k := 48) hx (by omega)).mp e) (by decide)) (fun n48 => ?_)
  refine qc (fun e => plain 49 ((nI_is (k := 49) hx (by omega)).mp e) (by decide)) (fun n49 => ?_)
  refine qc (fun e => plain 50 ((nI_is (k := 50) hx (by omega)).mp e) (by decide)) (fun n50 => ?_)
  refine qc (fun e => plain 51 ((nI_is (k := 51) hx (by omega)).mp e) (by decide)) (fun n51 => ?_)
  refine qc (fun e => plain 52 ((nI_is (k := 52) hx (by omega)).mp e) (by decide)) (fun n52 => ?_)
  refine qc (fun e => plain 53 ((nI_is (k := 53) hx (by omega)).mp e) (by decide)) (fun n53 => ?_)
  refine qc (fun e => plain 54 ((nI_is (k := 54) hx (by omega)).mp e) (by decide)) (fun n54 => ?_)
  refine qc (fun e => plain 55 ((nI_is (k := 55) hx (by omega)).mp e) (by decide)) (fun n55 => ?_)
  refine qc (fun e => plain 56 ((nI_is (k := 56) hx (by omega)).mp e) (by decide)) (fun n56 => ?_)
  refine qc (fun e => plain 57 ((nI_is (k := 57) hx (by omega)).mp e) (by decide)) (fun n57 => ?_)
  refine qc (fun e => plain 58 ((nI_is (k := 58) hx (by omega)).mp e) (by decide)) (fun n58 => ?_)
  refine qc (fun e => plain 59 ((nI_is (k := 59) hx (by omega)).mp e) (by decide)) (fun n59 => ?_)
  refine qc (fun e => ?_) (fun n60 => ?_)
  · have ex : b s = 60 := (nI_is (k := 60) hx (by omega)).mp e
    refine s_passesEqual hb h2 hs (fun eq M' he hF h3 h2' => ?_)
    have eE : q_eqn b n s = eq := by
      rw [he]
      unfold q_eqn
      rw [ex]
      simp
    have hh := h M' hF h3 (by rw [eE]; exact h2')
    rw [eE, ex] at hh
    cases eq with
    | true => exact qf (by decide) hh
    | false => exact qt rfl hh
  refine qc (fun e => plain 61 ((nI_is (k := 61) hx (by omega)).mp e) (by decide)) (fun n61 => ?_)
  refine qc (fun e => ?_) (fun n62 => ?_)
  · have ex : b s = 62 := (nI_is (k := 62) hx (by omega)).mp e
    refine s_passesEqual hb h2 hs (fun eq M' he hF h3 h2' => ?_)
    have eE : q_eqn b n s = eq := by
      rw [he]
      unfold q_eqn
      rw [ex]
      simp
    have hh := h M' hF h3 (by rw [eE]; exact h2')
    rw [eE, ex] at hh
    cases eq with
    | true => exact qf (by decide) hh
    | false => exact qt rfl hh
  have no : ∀ k, k < 256 → ¬ nI (b s) = nI k → ¬ b s = k := fun k hk z y => z ((nI_is hx hk).mpr y)
  have hh := plain (b s) rfl (fun z => by
    rcases z with z | z
    · exact no 60 (by omega) n60 z
    · exact no 62 (by omega) n62 z)
  unfold q_ssg at hh
  rw [if_neg (no 35 (by omega) n35), if_neg (no 40 (by omega) n40), if_neg (no 41 (by omega) n41), if_neg (no 42 (by omega) n42), if_neg (no 43 (by omega) n43), if_neg (no 45 (by omega) n45), if_neg (no 47 (by omega) n47), if_neg (no 59 (by omega) n59), if_neg (no 60 (by omega) n60), if_neg (no 61 (by omega) n61), if_neg (no 62 (by omega) n62)] at hh
  exact hh
theorem tok_E {b : Nat → Nat} {n p : Nat} (h : q_st0 b n p = n) : q_sg b n p = -57 ∧ q_ne b n p = n := ⟨if_pos h, if_pos h⟩
theorem tok_L {b : Nat → Nat} {n p : Nat} (h : ¬ q_st0 b n p = n) (hL : pLe (b (q_st0 b n p)) = true) : q_sg b n p = q_wsg (q_word b (q_st0 b n p) (q_wh pLe b (n - q_st0 b n p) (q_st0 b n p))) ∧ q_ne b n p = q_wh pLe b (n - q_st0 b n p) (q_st0 b n p) := ⟨(if_neg h).trans (if_pos hL), (if_neg h).trans (if_pos hL)⟩
theorem b_no {x : Bool} (h : x = false) : ¬ x = true := by rw [h]; decide
theorem tok_D {b : Nat → Nat} {n p : Nat} (h : ¬ q_st0 b n p = n) (hL : pLe (b (q_st0 b n p)) = false) (hD : pDi (b (q_st0 b n p)) = true) : q_sg b n p = -56 ∧ q_ne b n p = q_wh pDi b (n - q_st0 b n p) (q_st0 b n p) := ⟨(if_neg h).trans ((if_neg (b_no hL)).trans (if_pos hD)), (if_neg h).trans ((if_neg (b_no hL)).trans (if_pos hD))⟩
theorem tok_S {b : Nat → Nat} {n p : Nat} (h : ¬ q_st0 b n p = n) (hL : pLe (b (q_st0 b n p)) = false) (hD : pDi (b (q_st0 b n p)) = false) : q_sg b n p = q_ssg (b (q_st0 b n p)) (q_eqn b n (q_st0 b n p)) ∧ q_ne b n p = (if q_eqn b n (q_st0 b n p) = true then q_st0 b n p + 2 else q_st0 b n p + 1) := ⟨(if_neg h).trans ((if_neg (b_no hL)).trans (if_neg (b_no hD))), (if_neg h).trans ((if_neg (b_no hL)).trans (if_neg (b_no hD)))⟩
theorem wsg_no (i : Nat) : q_wsg i ≠ -56 := by
  unfold q_wsg
  match i with
  | 0 => decide
  | 1 => decide
  | 2 => decide
  | 3 => decide
  | 4 => decide
  | 5 => decide
  | 6 => decide
  | 7 => decide
  | 8 => decide
  | 9 => decide
  | 10 => decide
  | 11 => decide
  | j + 12 => exact fun y => absurd (show (-58 : Int32) = -56 from y) (by decide)
theorem ssg_no (x : Nat) (eq : Bool) : q_ssg x eq ≠ -56 := by
  unfold q_ssg
  repeat' split
  all_goals decide
/-- the class comes to its next token -/
theorem s_tok {M : gx_M} {b : Nat → Nat} {n p : Nat} {Q : gx_M → Prop} (hb : q_by M b n) (h2 : M 5 2 = nI p) (hp : p ≤ n) (h : ∀ M' : gx_M, Fr5 M M' → M' 5 2 = nI (q_ne b n p) → M' 5 3 = nI (q_st0 b n p) → M' 5 4 = q_sg b n p → (q_sg b n p = -56 → M' 5 5 = nI (min (q_nu b n p) 10000)) → Q M') : T_X6_next M Q := by
  have h300 := hb.1
  obtain ⟨bd1, bd2, -, -⟩ := q_ne_bd b hp
  unfold T_X6_next
  refine s_blanks hb h2 hp (fun M1 f1 e1 => ?_)
  unfold T_X6_next_38
  rintro _ rfl
  have f2 : Fr5 M (gx_up M1 5 3 (M1 5 2)) := f1.up _ (by decide)
  have b2 := hb.kept f2
  have g2 : gx_up M1 5 3 (M1 5 2) 5 2 = nI (q_st0 b n p) := by rw [gu_eq, ub_ne (by decide)]; exact e1
  have g3 : gx_up M1 5 3 (M1 5 2) 5 3 = nI (q_st0 b n p) := by rw [gu_eq, ub_eq]; exact e1
  generalize gx_up M1 5 3 (M1 5 2) = M2 at f2 b2 g2 g3
  rw [g2]
  rcases Nat.eq_or_lt_of_le bd2 with c0 | c0
  · obtain ⟨t1, t2⟩ := tok_E c0
    refine s_byteEnd b2 (by omega) (by omega) (qt rfl ?_)
    rintro _ rfl
    exact h _ (f2.up _ (by decide)) (by rw [gu_eq, ub_ne (by decide), g2, t2, c0]) (by rw [gu_eq, ub_ne (by decide), g3]) (by rw [gu_eq, ub_eq, t1]) (fun z => absurd (t1.symm.trans z) (by decide))
  · have ne0 : ¬ q_st0 b n p = n := by omega
    have hx := (hb.2.2 _ c0).2
    refine s_byteIn b2 c0 (qf (ne_m1 (by omega)) (s_isLetter hx ?_))
    cases hL : pLe (b (q_st0 b n p)) with
    | true =>
      obtain ⟨t1, t2⟩ := tok_L ne0 hL
      refine qf (by decide) (s_passLetters b2 g2 bd2 (fun M3 f3 g33 g32 => ?_))
      obtain ⟨l1, l2, l3, l4⟩ := q_wh_bd pLe b (n - q_st0 b n p) (q_st0 b n p)
      refine s_wordSign (b2.kept f3) g32 (g33.trans g3) l1 (by omega) (fun k hk => ?_) ?_
      · have := of_decide_eq_true (l3 (q_st0 b n p + k) (by omega) (by omega))
        omega
      · rintro _ rfl
        exact h _ ((f2.tr f3).up _ (by decide)) (by rw [gu_eq, ub_ne (by decide), g32, t2]) (by rw [gu_eq, ub_ne (by decide), g33, g3]) (by rw [gu_eq, ub_eq, t1]) (fun z => absurd (t1.symm.trans z) (wsg_no _))
    | false =>
      refine qt rfl (s_isDigit hx ?_)
      cases hD : pDi (b (q_st0 b n p)) with
      | true =>
        obtain ⟨t1, t2⟩ := tok_D ne0 hL hD
        refine qf (by decide) (s_readNumber b2 g2 bd2 (fun M3 f3 g33 g32 g35 => ?_))
        rintro _ rfl
        exact h _ ((f2.tr f3).up _ (by decide)) (by rw [gu_eq, ub_ne (by decide), g32, t2]) (by rw [gu_eq, ub_ne (by decide), g33, g3]) (by rw [gu_eq, ub_eq, t1]) (fun _ => by rw [gu_eq, ub_ne (by decide)]; exact g35)
      | false =>
        obtain ⟨t1, t2⟩ := tok_S ne0 hL hD
        refine qt rfl ?_
        rintro _ rfl
        rw [nI_1]
        have f4 : Fr5 M (gx_up M2 5 2 (nI (q_st0 b n p + 1))) := f2.up _ (by decide)
        have b4 := hb.kept f4
        refine s_signOf b4 (by rw [gu_eq, ub_eq]) c0 (fun M5 f5 g53 g52 => ?_)
        rintro _ rfl
        exact h _ ((f4.tr f5).up _ (by decide)) (by rw [gu_eq, ub_ne (by decide), g52, t2]) (by rw [gu_eq, ub_ne (by decide), g53, gu_eq, ub_ne (by decide), g3]) (by rw [gu_eq, ub_eq, t1]) (fun z => absurd (t1.symm.trans z) (ssg_no _ _))
