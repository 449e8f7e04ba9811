/-! measures -/
def q_lo (O : Nat → Int32) : Nat → Nat → Int32 → Int32
  | 0, _, x => x
  | m + 1, t, x => q_lo O m (t + 1) (if O t < x then O t else x)
def q_hi (O : Nat → Int32) : Nat → Nat → Int32 → Int32
  | 0, _, x => x
  | m + 1, t, x => q_hi O m (t + 1) (if x < O t then O t else x)
def q_wi (O : Nat → Int32) (s : Int32) : Nat → Nat → Int32 → Int32
  | 0, _, n => n
  | m + 1, t, n => q_wi O s m (t + 1) (if 2 * O t < s then n else n + 1)
def q_ri (f : Nat → Bool) (b st : Nat) : Nat → Nat → Option Nat
  | 0, _ => none
  | m + 1, t => if b ≤ t then none else if f t = true then some t else q_ri f b st m (t + st)
def q_oe (x y : Option Nat) : Option Nat := match x with
  | some s => some s
  | none => y
def q_rr (x y : Option Nat) : Option Int32 := match x, y with
  | some e, some s => some (nI e - nI s)
  | _, _ => none
def q_nov (x : Option Int32) : Int32 := match x with
  | some d => d
  | none => -1000000
def q_ft (x : Option Nat) : Int32 := match x with
  | some s => nI s
  | none => -1
def q_up (ten : Int32) (O : Nat → Int32) (lo hi : Int32) (t : Nat) : Bool := !decide (10 * (O t - lo) < ten * (hi - lo))
def q_far (O : Nat → Int32) (lo hi : Int32) (b st f : Nat) : Option Int32 := q_rr (q_ri (q_up 9 O lo hi) b st b f) (q_ri (q_up 1 O lo hi) b st b f)
theorem q_lo_bd {O : Nat → Int32} (hO : ∀ t, -119880 ≤ (O t).toInt ∧ (O t).toInt ≤ 119880) : ∀ m t (x : Int32), -119880 ≤ x.toInt → (-119880 ≤ (q_lo O m t x).toInt ∧ (q_lo O m t x).toInt ≤ x.toInt) := by
  intro m
  induction m with
  | zero => intro t x h; exact ⟨h, Int.le_refl _⟩
  | succ m ih =>
    intro t x h
    show -119880 ≤ (q_lo O m (t + 1) (if O t < x then O t else x)).toInt ∧ (q_lo O m (t + 1) (if O t < x then O t else x)).toInt ≤ x.toInt
    by_cases c : O t < x
    · rw [if_pos c]
      have := ih (t + 1) (O t) (hO t).1
      have c' := Int32.lt_iff_toInt_lt.mp c
      omega
    · rw [if_neg c]; exact ih (t + 1) x h
theorem q_hi_bd {O : Nat → Int32} (hO : ∀ t, -119880 ≤ (O t).toInt ∧ (O t).toInt ≤ 119880) : ∀ m t (x : Int32), x.toInt ≤ 119880 → (x.toInt ≤ (q_hi O m t x).toInt ∧ (q_hi O m t x).toInt ≤ 119880) := by
  intro m
  induction m with
  | zero => intro t x h; exact ⟨Int.le_refl _, h⟩
  | succ m ih =>
    intro t x h
    show x.toInt ≤ (q_hi O m (t + 1) (if x < O t then O t else x)).toInt ∧ (q_hi O m (t + 1) (if x < O t then O t else x)).toInt ≤ 119880
    by_cases c : x < O t
    · rw [if_pos c]
      have := ih (t + 1) (O t) (hO t).2
      have c' := Int32.lt_iff_toInt_lt.mp c
      omega
    · rw [if_neg c]; exact ih (t + 1) x h
/-- nine tenths up is one tenth up too -/
theorem q_up_imp {O : Nat → Int32} {lo hi : Int32} (hO : ∀ t, -119880 ≤ (O t).toInt ∧ (O t).toInt ≤ 119880) (h1 : -119880 ≤ lo.toInt) (h2 : lo.toInt ≤ hi.toInt) (h3 : hi.toInt ≤ 119880) (t : Nat) (h : q_up 9 O lo hi t = true) : q_up 1 O lo hi t = true := by
  have z1 : (1 : Int32).toInt = 1 := rfl
  have z9 : (9 : Int32).toInt = 9 := rfl
  have z10 : (10 : Int32).toInt = 10 := rfl
  have o := hO t
  have e1 : (O t - lo).toInt = (O t).toInt - lo.toInt := ti_sub (by omega) (by omega)
  have e2 : (hi - lo).toInt = hi.toInt - lo.toInt := ti_sub (by omega) (by omega)
  have e3 : (10 * (O t - lo)).toInt = 10 * (O t - lo).toInt := ti_mul (by rw [z10]; omega) (by rw [z10]; omega)
  have e4 : (9 * (hi - lo)).toInt = 9 * (hi - lo).toInt := ti_mul (by rw [z9]; omega) (by rw [z9]; omega)
  have e5 : (1 * (hi - lo)).toInt = 1 * (hi - lo).toInt := ti_mul (by rw [z1]; omega) (by rw [z1]; omega)
  unfold q_up at h ⊢
  have n9 : ¬ 10 * (O t - lo) < 9 * (hi - lo) := fun q => by rw [decide_eq_true q] at h; cases h
  have n1 : ¬ 10 * (O t - lo) < 1 * (hi - lo) := fun q => by
    have q := Int32.lt_iff_toInt_lt.mp q
    refine n9 (Int32.lt_iff_toInt_lt.mpr ?_)
    omega
  rw [decide_eq_false n1]; rfl
theorem s_lowest {M : gx_M} {a : Nat → Int32} {c f b : Nat} {Q : Int32 → gx_M → Prop} (hR : RS 0 a M) (hok : okA a) (hca : q_cache a M) (hc : c < 2) (hf : f < b) (hb : b ≤ 2000)
    (h : ∀ M' : gx_M, FrT M M' → RS 0 a M' → q_cache a M' → Q (q_lo (q_O a c) (b - f) f (q_O a c f)) M') : T_X10_lowest M (nI c) (nI f) (nI b) Q := by
  unfold T_X10_lowest
  refine s_outAt hR hok hca hc (by omega) (fun M1 f1 r1 c1 => ?_)
  have key : ∀ m t (x : Int32) (M' : gx_M), t + m = b → FrT M M' → RS 0 a M' → q_cache a M' → q_lo (q_O a c) (b - f) f (q_O a c f) = q_lo (q_O a c) m t x → T_X10_lowest_14 Q (m + 1) M' (nI c) (nI b) x (nI t) := by
    intro m
    induction m with
    | zero =>
      intro t x M' ht hF hr hc' hq
      unfold T_X10_lowest_14
      refine qt (nI_le (by omega) (by omega)) ?_
      have := h M' hF hr hc'
      rw [hq] at this
      exact this
    | succ m ih =>
      intro t x M' ht hF hr hc' hq
      unfold T_X10_lowest_14
      refine qf (nI_ge (by omega) (by omega)) (s_outAt hr hok hc' hc (by omega) (fun M2 f2 r2 c2 => ?_))
      rintro _ rfl _ rfl
      rw [nI_1]
      exact ih (t + 1) _ M2 (by omega) (hF.tr f2) r2 c2 hq
  exact ⟨b - f + 1, key (b - f) f _ M1 (by omega) f1 r1 c1 rfl⟩
theorem s_highest {M : gx_M} {a : Nat → Int32} {c f b : Nat} {Q : Int32 → gx_M → Prop} (hR : RS 0 a M) (hok : okA a) (hca : q_cache a M) (hc : c < 2) (hf : f < b) (hb : b ≤ 2000)
    (h : ∀ M' : gx_M, FrT M M' → RS 0 a M' → q_cache a M' → Q (q_hi (q_O a c) (b - f) f (q_O a c f)) M') : T_X10_highest M (nI c) (nI f) (nI b) Q := by
  unfold T_X10_highest
  refine s_outAt hR hok hca hc (by omega) (fun M1 f1 r1 c1 => ?_)
  have key : ∀ m t (x : Int32) (M' : gx_M), t + m = b → FrT M M' → RS 0 a M' → q_cache a M' → q_hi (q_O a c) (b - f) f (q_O a c f) = q_hi (q_O a c) m t x → T_X10_highest_14 Q (m + 1) M' (nI c) (nI b) x (nI t) := by
    intro m
    induction m with
    | zero =>
      intro t x M' ht hF hr hc' hq
      unfold T_X10_highest_14
      refine qt (nI_le (by omega) (by omega)) ?_
      have := h M' hF hr hc'
      rw [hq] at this
      exact this
    | succ m ih =>
      intro t x M' ht hF hr hc' hq
      unfold T_X10_highest_14
      refine qf (nI_ge (by omega) (by omega)) (s_outAt hr hok hc' hc (by omega) (fun M2 f2 r2 c2 => ?_))
      rintro _ rfl _ rfl
      rw [nI_1]
      exact ih (t + 1) _ M2 (by omega) (hF.tr f2) r2 c2 hq
  exact ⟨b - f + 1, key (b - f) f _ M1 (by omega) f1 r1 c1 rfl⟩
theorem s_wide {M : gx_M} {a : Nat → Int32} {c f b : Nat} {s : Int32} {Q : Int32 → gx_M → Prop} (hR : RS 0 a M) (hok : okA a) (hca : q_cache a M) (hc : c < 2) (hf : f < b) (hb : b ≤ 2000)
    (h : ∀ M' : gx_M, FrT M M' → RS 0 a M' → q_cache a M' → Q (q_wi (q_O a c) s (b - f) f 0) M') : T_X10_wide M (nI c) (nI f) (nI b) s Q := by
  have key : ∀ m t (x : Int32) (M' : gx_M), t + m = b → FrT M M' → RS 0 a M' → q_cache a M' → q_wi (q_O a c) s (b - f) f 0 = q_wi (q_O a c) s m t x → T_X10_wide_6 Q (m + 1) M' (nI c) (nI b) s x (nI t) := by
    intro m
    induction m with
    | zero =>
      intro t x M' ht hF hr hc' hq
      unfold T_X10_wide_6
      refine qt (nI_le (by omega) (by omega)) ?_
      have := h M' hF hr hc'
      rw [hq] at this
      exact this
    | succ m ih =>
      intro t x M' ht hF hr hc' hq
      have st : q_wi (q_O a c) s (m + 1) t x = q_wi (q_O a c) s m (t + 1) (if 2 * q_O a c t < s then x else x + 1) := rfl
      rw [st] at hq
      unfold T_X10_wide_6 T_X10_wide_32
      refine qf (nI_ge (by omega) (by omega)) (s_outAt hr hok hc' hc (by omega) (fun M2 f2 r2 c2 => ?_))
      refine qc (fun z => ?_) (fun z => ?_)
      · rintro _ rfl
        rw [if_pos z] at hq
        rw [nI_1]
        exact ih (t + 1) _ M2 (by omega) (hF.tr f2) r2 c2 hq
      · rintro _ rfl _ rfl
        rw [if_neg z] at hq
        rw [nI_1]
        exact ih (t + 1) _ M2 (by omega) (hF.tr f2) r2 c2 hq
  exact ⟨b - f + 1, key (b - f) f _ M (by omega) FrT.rf hR hca rfl⟩
theorem s_rise {M : gx_M} {a : Nat → Int32} {c f b st : Nat} {lo hi : Int32} {Q : Int32 → gx_M → Prop} (hR : RS 0 a M) (hok : okA a) (hca : q_cache a M) (hc : c < 2) (hf : f < b) (hb : b ≤ 2000) (hst : 1 ≤ st) (hst2 : st ≤ 50) (himp : ∀ t, q_up 9 (q_O a c) lo hi t = true → q_up 1 (q_O a c) lo hi t = true)
    (h : ∀ M' : gx_M, FrT M M' → RS 0 a M' → q_cache a M' → Q (q_nov (q_far (q_O a c) lo hi b st f)) M') : T_X10_rise M (nI c) (nI f) (nI b) (nI st) lo hi Q := by
  have key : ∀ m t (ft : Option Nat) (M' : gx_M), b ≤ t + m → t < 3000 → (∀ s, ft = some s → s < 2000) → FrT M M' → RS 0 a M' → q_cache a M' → q_far (q_O a c) lo hi b st f = q_rr (q_ri (q_up 9 (q_O a c) lo hi) b st m t) (q_oe ft (q_ri (q_up 1 (q_O a c) lo hi) b st m t)) → T_X10_rise_6 Q (fun M6 => Q (-1000000) M6) (m + 1) M' (nI c) (nI b) (nI st) lo hi (q_ft ft) (nI t) := by
    intro m
    induction m with
    | zero =>
      intro t ft M' ht htb hft hF hr hc' hq
      unfold T_X10_rise_6
      refine qt (nI_le (by omega) (by omega)) ?_
      have := h M' hF hr hc'
      rw [hq] at this
      exact this
    | succ m ih =>
      intro t ft M' ht htb hft hF hr hc' hq
      by_cases over : b ≤ t
      · unfold T_X10_rise_6
        refine qt (nI_le over (by omega)) ?_
        have := h M' hF hr hc'
        have e0 : q_ri (q_up 9 (q_O a c) lo hi) b st (m + 1) t = none := if_pos over
        rw [hq, e0] at this
        exact this
      · have r9 : q_ri (q_up 9 (q_O a c) lo hi) b st (m + 1) t = if q_up 9 (q_O a c) lo hi t = true then some t else q_ri (q_up 9 (q_O a c) lo hi) b st m (t + st) := if_neg over
        have r1 : q_ri (q_up 1 (q_O a c) lo hi) b st (m + 1) t = if q_up 1 (q_O a c) lo hi t = true then some t else q_ri (q_up 1 (q_O a c) lo hi) b st m (t + st) := if_neg over
        rw [r9, r1] at hq
        unfold T_X10_rise_6
        refine qf (nI_ge (by omega) (by omega)) (qf (show ¬ nI st ≤ nI 0 from nI_ge (by omega) (by omega)) (s_outAt hr hok hc' hc (by omega) (fun M2 f2 r2 c2 => ?_)))
        rintro _ rfl
        have go : ∀ ft' : Option Nat, q_oe ft (if q_up 1 (q_O a c) lo hi t = true then some t else q_ri (q_up 1 (q_O a c) lo hi) b st m (t + st)) = q_oe ft' (q_ri (q_up 1 (q_O a c) lo hi) b st m (t + st)) → (q_up 9 (q_O a c) lo hi t = true → ∃ s, ft' = some s) → (∀ s, ft' = some s → s < 2000) → T_X10_rise_55 Q (T_X10_rise_6 Q (fun M6 => Q (-1000000) M6) (m + 1)) M2 (nI c) (nI b) (nI st) lo hi (q_ft ft') (nI t) (10 * (q_O a c t - lo)) := by
          intro ft' e1 e2 e3
          rw [e1] at hq
          unfold T_X10_rise_55
          refine qc (fun z => ?_) (fun z => ?_)
          · have n9 : ¬ q_up 9 (q_O a c) lo hi t = true := by unfold q_up; rw [decide_eq_true z]; decide
            rw [if_neg n9] at hq
            rintro _ rfl
            rw [nI_add]
            exact ih (t + st) ft' M2 (by omega) (by omega) e3 (hF.tr f2) r2 c2 hq
          · have y9 : q_up 9 (q_O a c) lo hi t = true := by unfold q_up; rw [decide_eq_false z]; rfl
            obtain ⟨s, rfl⟩ := e2 y9
            rw [if_pos y9] at hq
            have := h M2 (hF.tr f2) r2 c2
            rw [hq] at this
            exact this
        have ex1 : q_up 1 (q_O a c) lo hi t = !decide (10 * (q_O a c t - lo) < hi - lo) := by unfold q_up; rw [Int32.one_mul]
        cases ft with
        | none =>
          refine qt rfl (qc (fun z => ?_) (fun z => ?_))
          · have n1 : ¬ q_up 1 (q_O a c) lo hi t = true := by rw [ex1, decide_eq_true z]; decide
            refine go none (by rw [if_neg n1]) (fun y => absurd (himp t y) n1) (fun s e => by cases e)
          · have y1 : q_up 1 (q_O a c) lo hi t = true := by rw [ex1, decide_eq_false z]; rfl
            refine go (some t) (by rw [if_pos y1]; rfl) (fun _ => ⟨t, rfl⟩) (fun s e => by injection e with e; omega)
        | some s =>
          exact qf (ne_m1 (k := s) (by have := hft s rfl; omega)) (go (some s) rfl (fun _ => ⟨s, rfl⟩) hft)
  exact ⟨b + 1, key b f none M (by omega) (by omega) (fun s e => by cases e) FrT.rf hR hca rfl⟩
theorem q_ri_lt {f : Nat → Bool} {b st : Nat} : ∀ m t s, q_ri f b st m t = some s → s < b := by
  intro m
  induction m with
  | zero => intro t s h; cases h
  | succ m ih =>
    intro t s h
    have e : q_ri f b st (m + 1) t = if b ≤ t then none else if f t = true then some t else q_ri f b st m (t + st) := rfl
    rw [e] at h
    by_cases c : b ≤ t
    · rw [if_pos c] at h; cases h
    · rw [if_neg c] at h
      by_cases d : f t = true
      · rw [if_pos d] at h; injection h with h; omega
      · rw [if_neg d] at h; exact ih _ _ h
theorem n_risen {N : gx_M} {O : Nat → Int32} {c f b st : Nat} {ten lo hi : Int32} {Q : Int32 → Prop} (hO : ∀ t, t < 2000 → N 9 (2000 * c + t) = O t) (hc : c < 2) (hf : f < b) (hb : b ≤ 2000) (hst : 1 ≤ st) (hst2 : st ≤ 50) (hlo : N 0 39 = lo) (hhi : N 0 40 = hi)
    (h : Q (q_ft (q_ri (q_up ten O lo hi) b st b f))) : T_X11_risen N (nI c) (nI f) (nI b) (nI st) ten Q := by
  have key : ∀ m t, b ≤ t + m → t < 3000 → q_ri (q_up ten O lo hi) b st b f = q_ri (q_up ten O lo hi) b st m t → T_X11_risen_3 N Q (m + 1) (nI c) (nI b) (nI st) ten (nI t) := by
    intro m
    induction m with
    | zero =>
      intro t ht htb hq
      unfold T_X11_risen_3
      refine qt (nI_le (by omega) (by omega)) ?_
      rw [hq] at h
      exact h
    | succ m ih =>
      intro t ht htb hq
      unfold T_X11_risen_3
      by_cases over : b ≤ t
      · refine qt (nI_le over (by omega)) ?_
        have e0 : q_ri (q_up ten O lo hi) b st (m + 1) t = none := if_pos over
        rw [hq, e0] at h
        exact h
      · have r : q_ri (q_up ten O lo hi) b st (m + 1) t = if q_up ten O lo hi t = true then some t else q_ri (q_up ten O lo hi) b st m (t + st) := if_neg over
        rw [r] at hq
        refine qf (nI_ge (by omega) (by omega)) ?_
        rw [show (2000 : Int32) * nI c = nI (2000 * c) from pk_mul 2000 c, nI_add]
        refine ⟨vp_in_nI (by omega) (by omega), ?_⟩
        rw [nI_clamp (by omega), hO t (by omega), hlo, hhi]
        refine qc (fun z => ?_) (fun z => ?_)
        · have n : ¬ q_up ten O lo hi t = true := by unfold q_up; rw [decide_eq_true z]; decide
          rw [if_neg n] at hq
          rintro _ rfl
          rw [nI_add]
          exact ih (t + st) (by omega) (by omega) hq
        · have y : q_up ten O lo hi t = true := by unfold q_up; rw [decide_eq_false z]; rfl
          rw [if_pos y] at hq
          rw [hq] at h
          exact h
  exact ⟨b + 1, key b f (by omega) (by omega) rfl⟩
