/-! settings -/
theorem q_cnt_0 {f : Nat → Bool} {n : Nat} : q_cnt f n = 0 ↔ ∀ i, i < n → f i = false := by
  induction n with
  | zero => exact ⟨fun _ i hi => absurd hi (Nat.not_lt_zero _), fun _ => rfl⟩
  | succ n ih =>
    rw [q_cnt]
    constructor
    · intro h i hi
      by_cases e : i = n
      · subst e
        cases hf : f i with
        | false => rfl
        | true => rw [hf, Bool.toNat_true] at h; omega
      · exact ih.mp (by omega) i (by omega)
    · intro h
      rw [ih.mpr (fun i hi => h i (by omega)), h n (by omega)]; rfl
theorem q_pop_xor {x y : Nat} (hx : x < 65536) (hy : y < 65536) : q_pop (x ^^^ y) 16 = 0 ↔ x = y := by
  rw [q_pop_cnt (f := (x ^^^ y).testBit) (fun _ _ => rfl), q_cnt_0]
  constructor
  · intro h
    refine Nat.eq_of_testBit_eq (fun i => ?_)
    by_cases z : i < 16
    · have := h i z
      rw [Nat.testBit_xor] at this
      cases h1 : x.testBit i <;> cases h2 : y.testBit i <;> rw [h1, h2] at this <;> first | rfl | cases this
    · have p : (2 : Nat) ^ 16 ≤ 2 ^ i := Nat.pow_le_pow_right (by omega) (by omega)
      rw [Nat.testBit_lt_two_pow (Nat.lt_of_lt_of_le hx p), Nat.testBit_lt_two_pow (Nat.lt_of_lt_of_le hy p)]
  · rintro rfl i hi
    rw [Nat.xor_self, Nat.zero_testBit]
/-- how many bits are unlike in two rows of columns -/
def q_un (x y : Nat → Nat) : Nat → Nat
  | 0 => 0
  | c + 1 => q_un x y c + q_pop (x c ^^^ y c) 16
theorem q_un_le (x y : Nat → Nat) (m : Nat) : q_un x y m ≤ 16 * m := by
  induction m with
  | zero => exact Nat.le_refl _
  | succ m ih =>
    have : q_pop (x m ^^^ y m) 16 ≤ 16 := by rw [q_pop_cnt (f := (x m ^^^ y m).testBit) (fun _ _ => rfl)]; exact q_cnt_le _ _
    rw [q_un]; omega
theorem q_un_0 {x y : Nat → Nat} {m : Nat} (h : ∀ c, c < m → x c < 65536 ∧ y c < 65536) : q_un x y m = 0 ↔ ∀ c, c < m → x c = y c := by
  induction m with
  | zero => exact ⟨fun _ c hc => absurd hc (Nat.not_lt_zero _), fun _ => rfl⟩
  | succ m ih =>
    have i := ih (fun c hc => h c (by omega))
    have p := q_pop_xor (h m (by omega)).1 (h m (by omega)).2
    rw [q_un]
    constructor
    · intro z c hc
      by_cases e : c = m
      · subst e; exact p.mp (by omega)
      · exact i.mp (by omega) c (by omega)
    · intro z
      rw [i.mpr (fun c hc => z c (by omega)), p.mpr (z m (by omega))]
theorem s_unlike {M : gx_M} {g : Nat → Int32} {n : Int32} {o : Nat} {x : Nat → Nat} {Q : Int32 → Prop} (hx : ∀ c, c < 20 → M o c = nI (x c) ∧ x c < 65536) (hg : ∀ d, d < 320 → M 9 d = g d) (h : Q (nI (q_un x (q_rows g n) 20))) : T_X10_unlike M o n Q := by
  have key : ∀ m c, c + m = 20 → T_X10_unlike_5 M Q (m + 1) o n (nI (q_un x (q_rows g n) c)) (nI c) := by
    intro m
    induction m with
    | zero =>
      intro c hc
      obtain rfl : c = 20 := by omega
      unfold T_X10_unlike_5
      exact qt (show nI 20 ≤ nI 20 from nI_le (by omega) (by omega)) h
    | succ m ih =>
      intro c hc
      obtain ⟨x1, x2⟩ := hx c (by omega)
      have r2 := q_rows_lt g n c
      unfold T_X10_unlike_5
      refine qf (show ¬ nI 20 ≤ nI c from nI_ge (by omega) (by omega)) ⟨vp_in_nI (by omega) (by omega), s_bits (by omega) hg ?_⟩
      rw [nI_clamp (by omega), x1, nI_xor (by omega) (by omega)]
      refine s_bitCount (Nat.xor_lt_two_pow (n := 16) x2 r2) ?_
      rintro _ rfl _ rfl
      rw [nI_1, nI_add]
      exact ih (c + 1) (by omega)
  exact ⟨21, key 20 0 (by omega)⟩
def q_isp (g : Nat → Int32) (n : Int32) (a : Nat → Int32) : Nat → Nat → Bool
  | 0, _ => true
  | m + 1, c => decide (nI (q_rows g n c) = a (150 + c)) && q_isp g n a m (c + 1)
theorem q_isp_iff {g : Nat → Int32} {n : Int32} {a : Nat → Int32} : ∀ m c, q_isp g n a m c = true ↔ ∀ c', c ≤ c' → c' < c + m → nI (q_rows g n c') = a (150 + c') := by
  intro m
  induction m with
  | zero => intro c; exact ⟨fun _ c' h1 h2 => absurd h2 (by omega), fun _ => rfl⟩
  | succ m ih =>
    intro c
    have e : q_isp g n a (m + 1) c = (decide (nI (q_rows g n c) = a (150 + c)) && q_isp g n a m (c + 1)) := rfl
    rw [e, Bool.and_eq_true, decide_eq_true_iff, ih (c + 1)]
    constructor
    · rintro ⟨h1, h2⟩ c' h3 h4
      by_cases z : c' = c
      · subst z; exact h1
      · exact h2 c' (by omega) (by omega)
    · intro h
      exact ⟨h c (by omega) (by omega), fun c' h3 h4 => h c' (by omega) (by omega)⟩
theorem okF {a : Nat → Int32} (hok : okA a) {c : Nat} (hc : c < 20) : a (150 + c) = nI (a (150 + c)).toNatClampNeg ∧ (a (150 + c)).toNatClampNeg < 65536 := by
  obtain ⟨h1, h2⟩ := hok.2.2.2 c hc
  have := toNle 65535 (by omega) h1 h2
  exact ⟨toN h1, by omega⟩
theorem q_un_isp {a g : Nat → Int32} {n : Int32} (hok : okA a) : nI (q_un (fun c => (a (150 + c)).toNatClampNeg) (q_rows g n) 20) = 0 ↔ q_isp g n a 20 0 = true := by
  have le := q_un_le (fun c => (a (150 + c)).toNatClampNeg) (q_rows g n) 20
  rw [q_isp_iff]
  have e0 : nI (q_un (fun c => (a (150 + c)).toNatClampNeg) (q_rows g n) 20) = 0 ↔ q_un (fun c => (a (150 + c)).toNatClampNeg) (q_rows g n) 20 = 0 := nI_eq (b := 0) (by omega) (by omega)
  rw [e0, q_un_0 (fun c hc => ⟨(okF hok hc).2, q_rows_lt g n c⟩)]
  constructor
  · intro h c _ hc
    rw [(okF hok (show c < 20 by omega)).1, ← h c (by omega)]
  · intro h c hc
    have := h c (Nat.zero_le _) (by omega)
    show (a (150 + c)).toNatClampNeg = _
    rw [← this, nI_clamp (by have := q_rows_lt g n c; omega)]
theorem n_isPhoto {N : gx_M} {g : Nat → Int32} {n : Int32} {a : Nat → Int32} {Q : Int32 → Prop} (hg : ∀ d, d < 320 → N 21 d = g d) (ha : ∀ c, c < 20 → N 1 (150 + c) = a (150 + c)) (h : Q (b2i (q_isp g n a 20 0))) : T_X11_isPhoto N n Q := by
  have fin : ∀ b : Bool, q_isp g n a 20 0 = b → ((b2i b = 0 ∨ b2i b = 1) ∧ Q (b2i b)) := fun b e => by
    rw [e] at h
    exact ⟨by cases b <;> decide, h⟩
  have key : ∀ m c, c + m = 20 → q_isp g n a 20 0 = q_isp g n a m c → T_X11_isPhoto_4 N Q (fun v2_5 => (v2_5 = 0 ∨ v2_5 = 1) ∧ Q v2_5) (m + 1) n 1 (nI c) := by
    intro m
    induction m with
    | zero =>
      intro c hc he
      obtain rfl : c = 20 := by omega
      unfold T_X11_isPhoto_4
      exact qt (show nI 20 ≤ nI 20 from nI_le (by omega) (by omega)) (fin true he)
    | succ m ih =>
      intro c hc he
      have st : q_isp g n a (m + 1) c = (decide (nI (q_rows g n c) = a (150 + c)) && q_isp g n a m (c + 1)) := rfl
      unfold T_X11_isPhoto_4 T_X11_isPhoto_38
      refine qf (show ¬ nI 20 ≤ nI c from nI_ge (by omega) (by omega)) (qf (by decide) (n_rowsOf (g := g) (by omega) hg ?_))
      rw [show (150 : Int32) + nI c = nI (150 + c) from nI_add 150 c]
      refine ⟨vp_in_nI (by omega) (by omega), ?_⟩
      rw [nI_clamp (by omega), ha c (by omega)]
      refine qc (fun q => ?_) (fun q => ?_)
      · rintro _ rfl
        rw [nI_1]
        refine ih (c + 1) (by omega) ?_
        rw [he, st, decide_eq_true q, Bool.true_and]
      · rintro _ rfl
        have hf := fin false (by rw [he, st, decide_eq_false q, Bool.false_and])
        unfold T_X11_isPhoto_4
        exact qc (fun _ => hf) (fun _ => qt rfl hf)
  exact ⟨21, key 20 0 (by omega) rfl⟩
theorem n_gainOf {N : gx_M} {k : Nat} {Q : Int32 → Prop} (hk : k < 8) (h : Q (gx_gains k)) : T_X11_gainOf N (nI k) Q := by
  unfold T_X11_gainOf T_X11_gainOf_24
  match k, hk with
  | 0, _ =>
    rw [show gx_gains 0 = 1 * 1 by decide +kernel] at h
    exact qt (by decide +kernel) (qt (by decide +kernel) h)
  | 1, _ =>
    rw [show gx_gains 1 = 1 * 2 by decide +kernel] at h
    exact qt (by decide +kernel) (qf (by decide +kernel) (qt (by decide +kernel) h))
  | 2, _ =>
    rw [show gx_gains 2 = 1 * 5 by decide +kernel] at h
    exact qt (by decide +kernel) (qf (by decide +kernel) (qf (by decide +kernel) h))
  | 3, _ =>
    rw [show gx_gains 3 = 10 * 1 by decide +kernel] at h
    exact qf (by decide +kernel) (qt (by decide +kernel) (qt (by decide +kernel) h))
  | 4, _ =>
    rw [show gx_gains 4 = 10 * 2 by decide +kernel] at h
    exact qf (by decide +kernel) (qt (by decide +kernel) (qf (by decide +kernel) (qt (by decide +kernel) h)))
  | 5, _ =>
    rw [show gx_gains 5 = 10 * 5 by decide +kernel] at h
    exact qf (by decide +kernel) (qt (by decide +kernel) (qf (by decide +kernel) (qf (by decide +kernel) h)))
  | 6, _ =>
    rw [show gx_gains 6 = 100 * 1 by decide +kernel] at h
    exact qf (by decide +kernel) (qf (by decide +kernel) (qt (by decide +kernel) h))
  | 7, _ =>
    rw [show gx_gains 7 = 100 * 2 by decide +kernel] at h
    exact qf (by decide +kernel) (qf (by decide +kernel) (qf (by decide +kernel) (qt (by decide +kernel) h)))
theorem gains_ok : ∀ k, k < 8 → 1 ≤ gx_gains k ∧ gx_gains k ≤ 999 := by decide +kernel
/-- sweeps begin alike where pace, delay and outs are -/
theorem q_SL_cong {a a' : Nat → Int32} {G : List (Bool × List Int32)} (h : q_sim a a') (hok : okA a) (h2 : a' 2 = a 2) (h3 : a' 3 = a 3) : q_SL a' G = q_SL a G := by
  have ew : ∀ t ready k, q_w a' t ready k = q_w a t ready k := fun t ready k => by
    funext i
    match i with
    | 0 => exact q_O_cong h hok (c := 0) (by omega) t
    | 1 => exact q_W_cong h hok (c := 0) (by omega) t
    | 2 => exact q_O_cong h hok (c := 1) (by omega) t
    | 3 => rfl
    | 4 => rfl
    | 5 => rfl
    | 6 => rfl
    | n + 7 => rfl
  have et : q_tr a' G = q_tr a G := by
    funext t ready k
    unfold q_tr
    rw [ew]
  have eh : q_ho a' G = q_ho a G := by
    funext t ready k
    unfold q_ho
    rw [ew]
  funext m t ready k
  unfold q_SL
  rw [et, eh, h2, h3]
/-- the setup by which a pace and a gain are tried -/
def q_A (a : Nat → Int32) (x y : Int32) : Nat → Int32 := upd (upd a 2 x) 12 y
theorem q_A_sim (a : Nat → Int32) (x y : Int32) : q_sim a (q_A a x y) := fun r hr => by
  unfold q_A
  rw [ub_ne (by omega), ub_ne (by omega)]
theorem q_A_ok {a : Nat → Int32} {x y : Int32} (hok : okA a) (hx : 1 ≤ x ∧ x ≤ 50) (hy : 1 ≤ y ∧ y ≤ 999) : okA (q_A a x y) :=
  okA_up (okA_up hok (i := 2) (by omega) ⟨fun _ => hx, by omega, by omega, by omega, by omega, by omega, by omega, by omega, by omega, by omega, by omega, by omega⟩) (i := 12) (by omega) ⟨by omega, by omega, by omega, by omega, by omega, by omega, fun _ _ _ => hy, by omega, by omega, by omega, by omega, by omega⟩
theorem q_A_RS {a : Nat → Int32} {M : gx_M} {x y : Int32} (h : RS 0 a M) (hok : okA a) (hx : 1 ≤ x ∧ x ≤ 50) : RS 0 (q_A a x y) (gx_up (gx_up M 34 3 x) 58 4 y) :=
  RS_up (RS_up h hok (Or.inl ⟨0, by omega⟩)) (okA_up hok (i := 2) (by omega) ⟨fun _ => hx, by omega, by omega, by omega, by omega, by omega, by omega, by omega, by omega, by omega, by omega, by omega⟩) (Or.inr (Or.inr (Or.inr (Or.inr ⟨0, by omega⟩))))
theorem q_A_A (a : Nat → Int32) (x y x' y' : Int32) : upd (upd (q_A a x y) 2 x') 12 y' = q_A a x' y' := by
  unfold q_A
  funext j
  by_cases e : j = 12
  · subst e; rw [ub_eq, ub_eq]
  · rw [ub_ne e, ub_ne e]
    by_cases f : j = 2
    · subst f; rw [ub_eq, ub_eq]
    · rw [ub_ne f, ub_ne e, ub_ne f, ub_ne f]
theorem q_A_2 (a : Nat → Int32) (x y x' : Int32) : upd (q_A a x y) 2 x' = q_A a x' y := by
  unfold q_A
  funext j
  by_cases f : j = 2
  · subst f; rw [ub_eq, ub_ne (by decide), ub_eq]
  · rw [ub_ne f]
    by_cases e : j = 12
    · subst e; rw [ub_eq, ub_eq]
    · rw [ub_ne e, ub_ne e, ub_ne f, ub_ne f]
theorem q_A_12 (a : Nat → Int32) (x y y' : Int32) : upd (q_A a x y) 12 y' = q_A a x y' := by
  unfold q_A
  funext j
  by_cases e : j = 12
  · subst e; rw [ub_eq, ub_eq]
  · rw [ub_ne e, ub_ne e, ub_ne e]
theorem q_A_id (a : Nat → Int32) : q_A a (a 2) (a 12) = a := by
  unfold q_A
  funext j
  by_cases e : j = 12
  · subst e; rw [ub_eq]
  · rw [ub_ne e]
    by_cases f : j = 2
    · subst f; rw [ub_eq]
    · rw [ub_ne f]
def q_fits (a : Nat → Int32) (G : List (Bool × List Int32)) (e : Nat) (n : Int32) (p k : Nat) : Bool := q_isp (q_G (q_A a (nI p) (gx_gains k)) G e) n a 20 0
def q_s8 (fit : Nat → Nat → Bool) (i : Int32) (p : Nat) : Nat → Nat → Int32 × Int32 → Int32 × Int32
  | 0, _, s => s
  | m + 1, k, s => q_s8 fit i p m (k + 1) (if fit p k = true then (s.1 + 1, if s.1 = i then 1000 * nI p + gx_gains k else s.2) else s)
def q_s20 (fit : Nat → Nat → Bool) (i : Int32) : Nat → Nat → Int32 × Int32 → Int32 × Int32
  | 0, _, s => s
  | m + 1, p, s => q_s20 fit i m (p + 1) (q_s8 fit i p 8 0 s)
/-- what the class has changed while it tries -/
def FrS (M M' : gx_M) : Prop := (∀ q, q ≠ 1 → q ≠ 2 → q ≠ 3 → q ≠ 9 → q ≠ 13 → q ≠ 14 → q ≠ 34 → q ≠ 58 → M' q = M q) ∧ (∀ j, j ≠ 3 → M' 34 j = M 34 j) ∧ ∀ j, j ≠ 4 → M' 58 j = M 58 j
theorem FrS.up {M M' : gx_M} (h : FrS M M') (x y : Int32) : FrS M (gx_up (gx_up M' 34 3 x) 58 4 y) := by
  obtain ⟨h1, h2, h3⟩ := h
  refine ⟨fun q a1 a2 a3 a4 a5 a6 a7 a8 => by rw [gu_ne a8, gu_ne a7]; exact h1 q a1 a2 a3 a4 a5 a6 a7 a8, fun j hj => by rw [gu_ne (by decide), gu_eq, ub_ne hj]; exact h2 j hj, fun j hj => by rw [gu_eq, ub_ne hj, gu_ne (by decide)]; exact h3 j hj⟩
theorem FrS.w {M M1 M' : gx_M} (h : FrS M M1) (k : FrW M1 M') : FrS M M' := by
  obtain ⟨h1, h2, h3⟩ := h
  refine ⟨fun q a1 a2 a3 a4 a5 a6 a7 a8 => (k q a1 a2 a3 a4 a5 a6).trans (h1 q a1 a2 a3 a4 a5 a6 a7 a8), fun j hj => by rw [k 34 (by decide) (by decide) (by decide) (by decide) (by decide) (by decide)]; exact h2 j hj, fun j hj => by rw [k 58 (by decide) (by decide) (by decide) (by decide) (by decide) (by decide)]; exact h3 j hj⟩
theorem FrS.eq {M M' : gx_M} (h : FrS M M') (x y : Int32) (q : Nat) (hq : 15 ≤ q) : gx_up (gx_up M' 34 3 x) 58 4 y q = gx_up (gx_up M 34 3 x) 58 4 y q := by
  obtain ⟨h1, h2, h3⟩ := h
  by_cases e : q = 58
  · subst e
    rw [gu_eq, gu_eq, gu_ne (by decide), gu_ne (by decide)]
    funext j
    by_cases f : j = 4
    · subst f; rw [ub_eq, ub_eq]
    · rw [ub_ne f, ub_ne f]; exact h3 j f
  · rw [gu_ne e, gu_ne e]
    by_cases f : q = 34
    · subst f
      rw [gu_eq, gu_eq]
      funext j
      by_cases g : j = 3
      · subst g; rw [ub_eq, ub_eq]
      · rw [ub_ne g, ub_ne g]; exact h2 j g
    · rw [gu_ne f, gu_ne f]; exact h1 q (by omega) (by omega) (by omega) (by omega) (by omega) (by omega) f e
