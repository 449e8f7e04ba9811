/-! what else the samples can be -/
def q_fit (S v : Nat → Int32) : Nat → Nat → Bool
  | 0, _ => true
  | m + 1, k => decide (S k = v k) && q_fit S v m (k + 1)
/-- a guess of height h, period p, width w, from f, at the samples' ticks -/
def q_gs (a : Nat → Int32) (tick : Nat) (h : Int32) (p w f k : Nat) : Int32 := if nI w ≤ q_rest (nI (tick + k * (a 2).toNatClampNeg) - nI f) (nI p) then 0 else h
def q_S (a : Nat → Int32) (c tick k : Nat) : Int32 := q_O a c (tick + k * (a 2).toNatClampNeg)
def q_e3 (fit : Nat → Nat → Nat → Bool) (i : Int32) (p w : Nat) : Nat → Nat → Int32 → Sum Int32 Int32
  | 0, _, n => .inr n
  | m + 1, f, n => if fit p w f = true then (if n = i then .inl (10000 * nI p + 100 * nI w + nI f) else q_e3 fit i p w m (f + 1) (n + 1)) else q_e3 fit i p w m (f + 1) n
def q_e2 (fit : Nat → Nat → Nat → Bool) (i : Int32) (p : Nat) : Nat → Nat → Int32 → Sum Int32 Int32
  | 0, _, n => .inr n
  | m + 1, w, n => match q_e3 fit i p w p 0 n with
    | .inl x => .inl x
    | .inr n' => q_e2 fit i p m (w + 1) n'
def q_e1 (fit : Nat → Nat → Nat → Bool) (i : Int32) : Nat → Nat → Int32 → Sum Int32 Int32
  | 0, _, n => .inr n
  | m + 1, p, n => match q_e2 fit i p (p - 1) 1 n with
    | .inl x => .inl x
    | .inr n' => q_e1 fit i m (p + 1) n'
def q_mx (S : Nat → Int32) : Nat → Int32 → Int32
  | 0, x => x
  | k + 1, x => if q_mx S k x < S k then S k else q_mx S k x
theorem q_mx_rel (S : Nat → Int32) (k : Nat) : q_mx S (k + 1) 0 = if 0 < q_mx S (k + 1) (S 0) then q_mx S (k + 1) (S 0) else 0 := by
  induction k with
  | zero =>
    show (if (0 : Int32) < S 0 then S 0 else 0) = if 0 < (if S 0 < S 0 then S 0 else S 0) then (if S 0 < S 0 then S 0 else S 0) else 0
    by_cases c : (0 : Int32) < S 0
    · simp [c]
    · simp [c]
  | succ k ih =>
    show (if q_mx S (k + 1) 0 < S (k + 1) then S (k + 1) else q_mx S (k + 1) 0) = if 0 < (if q_mx S (k + 1) (S 0) < S (k + 1) then S (k + 1) else q_mx S (k + 1) (S 0)) then (if q_mx S (k + 1) (S 0) < S (k + 1) then S (k + 1) else q_mx S (k + 1) (S 0)) else 0
    rw [ih]
    generalize q_mx S (k + 1) (S 0) = x
    generalize S (k + 1) = y
    have z : (0 : Int32).toInt = 0 := rfl
    by_cases c1 : 0 < x
    · rw [if_pos c1]
      have c1' := Int32.lt_iff_toInt_lt.mp c1
      by_cases c2 : x < y
      · have c2' := Int32.lt_iff_toInt_lt.mp c2
        rw [if_pos c2, if_pos (Int32.lt_iff_toInt_lt.mpr (by omega))]
      · rw [if_neg c2, if_pos c1]
    · rw [if_neg c1]
      have c1' : ¬ (0 : Int32).toInt < x.toInt := fun q => c1 (Int32.lt_iff_toInt_lt.mpr q)
      by_cases c2 : x < y
      · rw [if_pos c2]
      · rw [if_neg c2, if_neg c1]
        have c2' : ¬ x.toInt < y.toInt := fun q => c2 (Int32.lt_iff_toInt_lt.mpr q)
        rw [if_neg (fun q => by have q := Int32.lt_iff_toInt_lt.mp q; omega)]
theorem tk {a : Nat → Int32} (hok : okA a) {tick k : Nat} (ht : tick ≤ 1000) (hk : k < 20) : tick + k * (a 2).toNatClampNeg < 2000 ∧ nI tick + nI k * a 2 = nI (tick + k * (a 2).toNatClampNeg) := by
  obtain ⟨⟨p1, p50, ep⟩, -⟩ := okP hok
  have hp : k * (a 2).toNatClampNeg ≤ 19 * 50 := Nat.mul_le_mul (by omega) p50
  refine ⟨by omega, ?_⟩
  rw [show nI k * a 2 = nI (k * (a 2).toNatClampNeg) by rw [← pk_mul, ← ep], nI_add]
theorem s_take {M : gx_M} {a : Nat → Int32} {c tick : Nat} {Q : Int32 → gx_M → Prop} (hR : RS 0 a M) (hok : okA a) (hca : q_cache a M) (hc : c < 2) (ht : tick ≤ 1000)
    (h : ∀ M' : gx_M, FC M M' → RS 0 a M' → q_cache a M' → (∀ k, k < 20 → M' 10 k = q_S a c tick k) → Q (q_mx (q_S a c tick) 20 (q_S a c tick 0)) M') : T_X10_takeSamples M (nI c) (nI tick) Q := by
  unfold T_X10_takeSamples
  refine s_outAt hR hok hca hc (by omega) (fun M1 f1 r1 c1 => ?_)
  have e0 : q_O a c tick = q_S a c tick 0 := by unfold q_S; rw [Nat.zero_mul, Nat.add_zero]
  rw [e0]
  have key : ∀ m k (M' : gx_M), k + m = 20 → FC M M' → RS 0 a M' → q_cache a M' → (∀ k', k' < k → M' 10 k' = q_S a c tick k') → T_X10_takeSamples_13 Q (m + 1) M' (nI c) (nI tick) (q_mx (q_S a c tick) k (q_S a c tick 0)) (nI k) := by
    intro m
    induction m with
    | zero =>
      intro k M' hk hf hr hca' h1
      obtain rfl : k = 20 := by omega
      unfold T_X10_takeSamples_13
      exact qt (show nI 20 ≤ nI 20 from nI_le (by omega) (by omega)) (h M' hf hr hca' h1)
    | succ m ih =>
      intro k M' hk hf hr hca' h1
      obtain ⟨t1, t2⟩ := tk hok ht (k := k) (by omega)
      have e3 : M' 34 3 = a 2 := hr.1.1 0 (by omega)
      unfold T_X10_takeSamples_13
      refine qf (show ¬ nI 20 ≤ nI k from nI_ge (by omega) (by omega)) ?_
      rw [e3, t2]
      refine s_outAt hr hok hca' hc t1 (fun M2 f2 r2 c2 => ⟨vp_in_nI (by omega) (by omega), ?_⟩)
      rintro _ rfl
      refine ⟨vp_in_nI (by omega) (by omega), ?_⟩
      rw [nI_clamp (by omega), gu_eq, ub_eq]
      rintro _ rfl _ rfl
      rw [nI_1]
      refine ih (k + 1) _ (by omega) (hf.tr (f2.fc.tr (fun o _ _ _ _ b _ _ _ _ => gu_ne b))) (r2.kept0 hok (fun o ho => gu_ne (by omega))) (c2.kept (by rw [gu_ne (by decide)]) (gu_ne (by decide)) (gu_ne (by decide))) (fun k' hk' => ?_)
      rw [gu_eq]
      by_cases z : k' = k
      · subst z; rw [ub_eq]; rfl
      · rw [ub_ne z, f2.1 10 (by decide) (by decide) (by decide)]; exact h1 k' (by omega)
  exact ⟨21, key 20 0 M1 (by omega) f1.fc r1 c1 (fun k' hk' => absurd hk' (Nat.not_lt_zero _))⟩
/-- does the guess fit: the class -/
theorem s_fits {M : gx_M} {a : Nat → Int32} {c tick p w f : Nat} {h : Int32} {Q : Int32 → Prop} (hR : RS 0 a M) (hok : okA a) (ht : tick ≤ 1000) (hp : 1 ≤ p) (hp2 : p < 100) (hs : ∀ k, k < 20 → M 10 k = q_S a c tick k) (g0 : M 110 0 = 1) (g1 : M 110 1 = h) (g2 : M 110 2 = nI p) (g3 : M 110 3 = nI w) (g4 : M 110 4 = nI f)
    (hq : Q (b2i (q_fit (q_S a c tick) (q_gs a tick h p w f) 20 0))) : T_X10_guessFits M (nI tick) Q := by
  have e3 : M 34 3 = a 2 := hR.1.1 0 (by omega)
  have key : ∀ m k, k + m = 20 → q_fit (q_S a c tick) (q_gs a tick h p w f) 20 0 = q_fit (q_S a c tick) (q_gs a tick h p w f) m k → T_X10_guessFits_2 M Q (m + 1) (nI tick) (nI k) := by
    intro m
    induction m with
    | zero =>
      intro k hk he
      obtain rfl : k = 20 := by omega
      unfold T_X10_guessFits_2
      rw [he] at hq
      exact qt (show nI 20 ≤ nI 20 from nI_le (by omega) (by omega)) hq
    | succ m ih =>
      intro k hk he
      obtain ⟨t1, t2⟩ := tk hok ht (k := k) (by omega)
      unfold T_X10_guessFits_2
      refine qf (show ¬ nI 20 ≤ nI k from nI_ge (by omega) (by omega)) ?_
      rw [e3, t2]
      refine s_partAt (by rw [g2]; exact nI_le (a := 1) hp (by omega)) ⟨vp_in_nI (by omega) (by omega), ?_⟩
      rw [nI_clamp (by omega), hs k (by omega)]
      have ev : q_part (M 110) (nI (tick + k * (a 2).toNatClampNeg)) = q_gs a tick h p w f k := by
        unfold q_part
        rw [g0, g1, g2, g3, g4, qp1 (by decide) rfl]; rfl
      rw [ev]
      have st : q_fit (q_S a c tick) (q_gs a tick h p w f) (m + 1) k = (decide (q_S a c tick k = q_gs a tick h p w f k) && q_fit (q_S a c tick) (q_gs a tick h p w f) m (k + 1)) := rfl
      refine qc (fun q => ?_) (fun q => ?_)
      · rintro _ rfl
        rw [nI_1]
        refine ih (k + 1) (by omega) ?_
        rw [he, st, decide_eq_true q.symm, Bool.true_and]
      · rw [he, st, decide_eq_false (fun z => q z.symm), Bool.false_and] at hq
        exact hq
  exact ⟨21, key 20 0 (by omega) rfl⟩
theorem n_isAs {N : gx_M} {c tick p w f : Nat} {h : Int32} {Q : Int32 → Prop} (hok : okA (N 1)) (ht : tick ≤ 1000) (hp : 1 ≤ p) (hp2 : p < 100) (hs : ∀ k, k < 20 → N 22 k = q_S (N 1) c tick k)
    (hq : Q (b2i (q_fit (q_S (N 1) c tick) (q_gs (N 1) tick h p w f) 20 0))) : T_X11_isAs N (nI p) (nI w) (nI f) h (nI tick) Q := by
  have c2 : (2 : Int32).toNatClampNeg = 2 := rfl
  have fin : ∀ b : Bool, q_fit (q_S (N 1) c tick) (q_gs (N 1) tick h p w f) 20 0 = b → ((b2i b = 0 ∨ b2i b = 1) ∧ Q (b2i b)) := fun b e => by
    rw [e] at hq
    exact ⟨by cases b <;> decide, hq⟩
  have key : ∀ m k, k + m = 20 → q_fit (q_S (N 1) c tick) (q_gs (N 1) tick h p w f) 20 0 = q_fit (q_S (N 1) c tick) (q_gs (N 1) tick h p w f) m k → T_X11_isAs_6 N Q (fun v6_5 => (v6_5 = 0 ∨ v6_5 = 1) ∧ Q v6_5) (m + 1) (nI p) (nI w) (nI f) h (nI tick) 1 (nI k) := by
    intro m
    induction m with
    | zero =>
      intro k hk he
      obtain rfl : k = 20 := by omega
      unfold T_X11_isAs_6
      exact qt (show nI 20 ≤ nI 20 from nI_le (by omega) (by omega)) (fin true he)
    | succ m ih =>
      intro k hk he
      obtain ⟨t1, t2⟩ := tk hok ht (k := k) (by omega)
      have st : q_fit (q_S (N 1) c tick) (q_gs (N 1) tick h p w f) (m + 1) k = (decide (q_S (N 1) c tick k = q_gs (N 1) tick h p w f k) && q_fit (q_S (N 1) c tick) (q_gs (N 1) tick h p w f) m (k + 1)) := rfl
      unfold T_X11_isAs_6
      refine qf (show ¬ nI 20 ≤ nI k from nI_ge (by omega) (by omega)) (qf (by decide) ⟨vp_in_nI (by omega) (by omega), by unfold vp_in; decide, ?_⟩)
      rw [c2, t2, nI_clamp (by omega), hs k (by omega)]
      have go : ∀ x : Int32, x = q_gs (N 1) tick h p w f k → T_X11_isAs_53 N Q (T_X11_isAs_6 N Q (fun v6_5 => (v6_5 = 0 ∨ v6_5 = 1) ∧ Q v6_5) (m + 1)) x (q_S (N 1) c tick k) (nI p) (nI w) (nI f) h (nI tick) (nI k) := by
        rintro _ rfl
        unfold T_X11_isAs_53 T_X11_isAs_61
        refine qc (fun q => ?_) (fun q => ?_)
        · rintro _ rfl
          rw [nI_1]
          refine ih (k + 1) (by omega) ?_
          rw [he, st, decide_eq_true q, Bool.true_and]
        · rintro _ rfl
          have hf := fin false (by rw [he, st, decide_eq_false q, Bool.false_and])
          unfold T_X11_isAs_6
          exact qc (fun _ => hf) (fun _ => qt rfl hf)
      refine n_rest (nI_ne0 hp (by omega)) ?_
      exact qc (fun q => go 0 (by unfold q_gs; rw [if_pos q])) (fun q => go h (by unfold q_gs; rw [if_neg q]))
  exact ⟨21, key 20 0 (by omega) rfl⟩
