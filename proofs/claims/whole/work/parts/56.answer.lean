/-! the class works a row of signs out -/
theorem mul_bd {x y : Int} (hx : -1000000 ≤ x ∧ x ≤ 1000000) (hy : -1000000 ≤ y ∧ y ≤ 1000000) : -1000000000000 ≤ x * y ∧ x * y ≤ 1000000000000 := by
  rcases Int.le_total 0 y with z | z
  · have a1 : x * y ≤ 1000000 * y := Int.mul_le_mul_of_nonneg_right hx.2 z
    have a2 : -1000000 * y ≤ x * y := Int.mul_le_mul_of_nonneg_right hx.1 z
    omega
  · have a1 : 1000000 * y ≤ x * y := Int.mul_le_mul_of_nonpos_right hx.2 z
    have a2 : x * y ≤ -1000000 * y := Int.mul_le_mul_of_nonpos_right hx.1 z
    omega
theorem ll {x y : Int64} : x ≤ y ↔ x.toInt ≤ y.toInt := Int64.le_iff_toInt_le
theorem llt {x y : Int64} : x < y ↔ x.toInt < y.toInt := Int64.lt_iff_toInt_lt
theorem s_bounded {M : gx_M} {x : Int64} {Q : Int32 → Prop} (h : ∀ r : Int32, r.toInt = q_bd x.toInt → Q r) : T_X0_bounded M x Q := by
  unfold T_X0_bounded
  have z1 : (1000000 : Int64).toInt = 1000000 := rfl
  have z2 : (-1000000 : Int64).toInt = -1000000 := rfl
  unfold q_bd at h
  refine qc (fun c => qc (fun c2 => h _ ?_) (fun c2 => h _ ?_)) (fun c => h _ ?_)
  · have c := ll.mp c
    have c2 := ll.mp c2
    rw [if_pos (by omega), if_pos (by omega)]
    show (x.toInt32).toInt = x.toInt
    rw [Int64.toInt_toInt32]
    exact Int.bmod_eq_of_le (by omega) (by omega)
  · have c := ll.mp c
    have c2 : ¬ (-1000000 : Int64).toInt ≤ x.toInt := fun q => c2 (ll.mpr q)
    rw [if_pos (by omega), if_neg (by omega)]; rfl
  · have c : ¬ x.toInt ≤ (1000000 : Int64).toInt := fun q => c (ll.mpr q)
    rw [if_neg (by omega)]; rfl
theorem ls_eq {x y : Int32} : x.toInt64 = y.toInt64 ↔ x.toInt = y.toInt := by
  constructor
  · intro h; rw [← lg_lo x, ← lg_lo y, h]
  · intro h; exact Int64.toInt_inj.mp (by rw [lg_lo, lg_lo, h])
theorem z_of {x : Int32} (h : x.toInt = 0) : x = 0 := Int32.toInt_inj.mp h
theorem o_of {x : Int32} (h : x.toInt = 1) : x = 1 := Int32.toInt_inj.mp h
theorem if_n {p q : Prop} {hd : Decidable p} (hq : Decidable q) (h : p ↔ ¬ q) {A B : Prop} {R : Int32 → Prop} (f : ∀ r : Int32, r.toInt = (@ite Int q hq 1 0) → R r) (ha : R 0 → A) (hb : R 1 → B) : @ite Prop p hd A B := by
  by_cases e : q
  · rw [if_neg (fun z => (h.mp z) e)]; exact hb (f 1 (by rw [if_pos e]; rfl))
  · rw [if_pos (h.mpr e)]; exact ha (f 0 (by rw [if_neg e]; rfl))
theorem if_y {p q : Prop} {hd : Decidable p} (hq : Decidable q) (h : p ↔ q) {A B : Prop} {R : Int32 → Prop} (f : ∀ r : Int32, r.toInt = (@ite Int q hq 1 0) → R r) (ha : R 1 → A) (hb : R 0 → B) : @ite Prop p hd A B := by
  by_cases e : q
  · rw [if_pos (h.mpr e)]; exact ha (f 1 (by rw [if_pos e]; rfl))
  · rw [if_neg (fun z => e (h.mp z))]; exact hb (f 0 (by rw [if_neg e]; rfl))
theorem if_z {p q : Prop} {hd : Decidable p} (hq : Decidable q) (h : p ↔ q) {A B : Prop} {R : Int32 → Prop} (f : ∀ r : Int32, r.toInt = (@ite Int q hq 0 1) → R r) (ha : R 0 → A) (hb : R 1 → B) : @ite Prop p hd A B := by
  by_cases e : q
  · rw [if_pos (h.mpr e)]; exact ha (f 0 (by rw [if_pos e]; rfl))
  · rw [if_neg (fun z => e (h.mp z))]; exact hb (f 1 (by rw [if_neg e]; rfl))
theorem s_joined {M : gx_M} {c x y : Int32} {Q : Int32 → Prop} (hc : (q_isA c ∧ q_ty true x.toInt ∧ q_ty true y.toInt) ∨ q_isR c ∨ ((c = -42 ∨ c = -43) ∧ q_ty false x.toInt ∧ q_ty false y.toInt))
    (h : ∀ r : Int32, r.toInt = q_jn c x.toInt y.toInt → Q r) : T_X0_joined M c x.toInt64 y.toInt64 Q := by
  have z0 : (0 : Int64).toInt = 0 := rfl
  have ex := lg_lo x
  have ey := lg_lo y
  unfold T_X0_joined
  rcases hc with ⟨hc, hx, hy⟩ | hc | ⟨hc, hx, hy⟩
  · have hx : -1000000 ≤ x.toInt ∧ x.toInt ≤ 1000000 := hx
    have hy : -1000000 ≤ y.toInt ∧ y.toInt ≤ 1000000 := hy
    have hm := mul_bd hx hy
    rcases hc with rfl | rfl | rfl | rfl
    · refine qf (by decide) (qf (by decide) (qf (by decide) (qt rfl (s_bounded (fun r hr => h r ?_)))))
      rw [hr, lg_add (by omega) (by omega), ex, ey]; rfl
    · refine qf (by decide) (qf (by decide) (qt rfl (s_bounded (fun r hr => h r ?_))))
      rw [hr, lg_sub (by omega) (by omega), ex, ey]; rfl
    · refine qf (by decide) (qt rfl (s_bounded (fun r hr => h r ?_)))
      rw [hr, lg_mul (by rw [ex, ey]; omega) (by rw [ex, ey]; omega), ex, ey]; rfl
    · refine qt rfl (qc (fun e => h _ ?_) (fun e => ⟨e, s_bounded (fun r hr => h r ?_)⟩))
      · have e : y.toInt = 0 := by rw [← ey, e]; rfl
        rw [e]; rfl
      · have e : ¬ y.toInt = 0 := fun q => e (Int64.toInt_inj.mp (by rw [ey, q]; rfl))
        have t := q_jnA (c := -24) (x := x.toInt) (y := y.toInt) (Or.inr (Or.inr (Or.inr rfl))) hx
        have j : q_jn (-24) x.toInt y.toInt = x.toInt.tdiv y.toInt := if_neg e
        rw [j] at t ⊢
        have t : -1000000 ≤ x.toInt.tdiv y.toInt ∧ x.toInt.tdiv y.toInt ≤ 1000000 := t
        rw [hr, lg_div (by omega) (by omega), ex, ey]
        unfold q_bd
        rw [if_pos (by omega), if_pos (by omega)]
  · have fin : ∀ {P : Prop}, P → P := fun p => p
    unfold T_X0_isSo
    rcases hc with rfl | rfl | rfl | rfl | rfl | rfl
    all_goals refine qf (by decide) (qf (by decide) (qf (by decide) (qf (by decide) (qf (by decide) (qf (by decide) (qf (by decide) (qf (by decide) (qf (by decide) (qf (by decide) ?_)))))))))
    · refine qf (by decide) (qf (by decide) (qf (by decide) (qf (by decide) (qf (by decide) (qt rfl ?_)))))
      exact if_n (p := y.toInt64 ≤ x.toInt64) (q := x.toInt < y.toInt) inferInstance (by rw [ll, ex, ey]; omega) (R := Q) h (fun q => qt rfl q) (fun q => qf (by decide) q)
    · refine qf (by decide) (qf (by decide) (qf (by decide) (qf (by decide) (qt rfl ?_))))
      exact if_n (p := y.toInt64 < x.toInt64) (q := x.toInt ≤ y.toInt) inferInstance (by rw [llt, ex, ey]; omega) (R := Q) h (fun q => qt rfl q) (fun q => qf (by decide) q)
    · refine qf (by decide) (qf (by decide) (qf (by decide) (qt rfl ?_)))
      exact if_n (p := x.toInt64 ≤ y.toInt64) (q := y.toInt < x.toInt) inferInstance (by rw [ll, ex, ey]; omega) (R := Q) h (fun q => qt rfl q) (fun q => qf (by decide) q)
    · refine qf (by decide) (qf (by decide) (qt rfl ?_))
      exact if_n (p := x.toInt64 < y.toInt64) (q := y.toInt ≤ x.toInt) inferInstance (by rw [llt, ex, ey]; omega) (R := Q) h (fun q => qt rfl q) (fun q => qf (by decide) q)
    · refine qf (by decide) (qt rfl ?_)
      exact if_y (p := x.toInt64 = y.toInt64) (q := x.toInt = y.toInt) inferInstance ls_eq (R := Q) h (fun q => qf (by decide) q) (fun q => qt rfl q)
    · refine qt rfl ?_
      exact if_z (p := x.toInt64 = y.toInt64) (q := x.toInt = y.toInt) inferInstance ls_eq (R := Q) h (fun q => qt rfl q) (fun q => qf (by decide) q)
  · have h1 : x.toInt = 0 ∨ x.toInt = 1 := hx
    have h2 : y.toInt = 0 ∨ y.toInt = 1 := hy
    have g1 : x = 0 ∨ x = 1 := h1.elim (fun e => Or.inl (z_of e)) (fun e => Or.inr (o_of e))
    have g2 : y = 0 ∨ y = 1 := h2.elim (fun e => Or.inl (z_of e)) (fun e => Or.inr (o_of e))
    unfold T_X0_isSo
    rcases hc with rfl | rfl <;> rcases g1 with rfl | rfl <;> rcases g2 with rfl | rfl
    all_goals refine qf (by decide) (qf (by decide) (qf (by decide) (qf (by decide) ?_)))
    · exact qt rfl (qt (by decide) (qt rfl (h 0 rfl)))
    · exact qt rfl (qt (by decide) (qt rfl (h 0 rfl)))
    · exact qt rfl (qt (by decide) (qt rfl (h 0 rfl)))
    · exact qt rfl (qf (by decide) (qf (by decide) (h 1 rfl)))
    · exact qf (by decide) (qf (by decide) (qf (by decide) (qf (by decide) (qf (by decide) (qf (by decide) (qf (by decide) (qf (by decide) (qf (by decide) (qf (by decide) (qf (by decide) (qf (by decide) (qt (by decide) (qt rfl (h 0 rfl))))))))))))))
    · exact qf (by decide) (qf (by decide) (qf (by decide) (qf (by decide) (qf (by decide) (qf (by decide) (qf (by decide) (qf (by decide) (qf (by decide) (qf (by decide) (qf (by decide) (qf (by decide) (qf (by decide) (qf (by decide) (h 1 rfl))))))))))))))
    · exact qf (by decide) (qf (by decide) (qf (by decide) (qf (by decide) (qf (by decide) (qf (by decide) (qf (by decide) (qf (by decide) (qf (by decide) (qf (by decide) (qf (by decide) (qf (by decide) (qf (by decide) (qf (by decide) (h 1 rfl))))))))))))))
    · exact qf (by decide) (qf (by decide) (qf (by decide) (qf (by decide) (qf (by decide) (qf (by decide) (qf (by decide) (qf (by decide) (qf (by decide) (qf (by decide) (qf (by decide) (qf (by decide) (qf (by decide) (qf (by decide) (h 1 rfl))))))))))))))
def q_ask (M : gx_M) (w : Nat → Int32) : Prop := M 2 1 = w 0 ∧ M 2 2 = w 1 ∧ M 2 3 = w 2 ∧ M 2 4 = w 3 ∧ M 2 4 - M 2 4 / 40 * 40 = w 4 ∧ M 2 5 = w 5 ∧ M 2 6 = w 6
theorem i7 {c : Int32} (h : -17 ≤ c) (h2 : c ≤ -11) : c = -17 ∨ c = -16 ∨ c = -15 ∨ c = -14 ∨ c = -13 ∨ c = -12 ∨ c = -11 := by
  have a : (-17 : Int32).toInt ≤ c.toInt := il h
  have b : c.toInt ≤ (-11 : Int32).toInt := il h2
  rw [show (-17 : Int32).toInt = -17 from rfl] at a
  rw [show (-11 : Int32).toInt = -11 from rfl] at b
  have e : c.toInt = -17 ∨ c.toInt = -16 ∨ c.toInt = -15 ∨ c.toInt = -14 ∨ c.toInt = -13 ∨ c.toInt = -12 ∨ c.toInt = -11 := by omega
  rcases e with e | e | e | e | e | e | e
  · exact Or.inl (Int32.toInt_inj.mp e)
  · exact Or.inr (Or.inl (Int32.toInt_inj.mp e))
  · exact Or.inr (Or.inr (Or.inl (Int32.toInt_inj.mp e)))
  · exact Or.inr (Or.inr (Or.inr (Or.inl (Int32.toInt_inj.mp e))))
  · exact Or.inr (Or.inr (Or.inr (Or.inr (Or.inl (Int32.toInt_inj.mp e)))))
  · exact Or.inr (Or.inr (Or.inr (Or.inr (Or.inr (Or.inl (Int32.toInt_inj.mp e))))))
  · exact Or.inr (Or.inr (Or.inr (Or.inr (Or.inr (Or.inr (Int32.toInt_inj.mp e))))))
theorem s_word {M : gx_M} {w : Nat → Int32} {c : Int32} {Q : Int32 → Prop} (ha : q_ask M w) (h : -17 ≤ c) (h2 : c ≤ -11) (hq : Q (w ((-11) - c).toNatClampNeg)) : T_X0_word M c Q := by
  obtain ⟨a0, a1, a2, a3, a4, a5, a6⟩ := ha
  unfold T_X0_word
  rcases i7 h h2 with rfl | rfl | rfl | rfl | rfl | rfl | rfl
  · refine qf (by decide) (qf (by decide) (qf (by decide) (qf (by decide) (qf (by decide) (qf (by decide) ?_))))); rw [a6]; exact hq
  · refine qt rfl ?_; rw [a5]; exact hq
  · refine qf (by decide) (qt rfl ?_); rw [a4]; exact hq
  · refine qf (by decide) (qf (by decide) (qt rfl ?_)); rw [a3]; exact hq
  · refine qf (by decide) (qf (by decide) (qf (by decide) (qt rfl ?_))); rw [a2]; exact hq
  · refine qf (by decide) (qf (by decide) (qf (by decide) (qf (by decide) (qt rfl ?_)))); rw [a1]; exact hq
  · refine qf (by decide) (qf (by decide) (qf (by decide) (qf (by decide) (qf (by decide) (qt rfl ?_))))); rw [a0]; exact hq
theorem isA_lt {c : Int32} (h : q_isA c) : c < -17 ∧ ¬ c = -25 ∧ ¬ c = -41 ∧ ¬ -17 ≤ c := by rcases h with rfl | rfl | rfl | rfl <;> decide
theorem isR_lt {c : Int32} (h : q_isR c) : c < -17 ∧ ¬ c = -25 ∧ ¬ c = -41 ∧ ¬ -17 ≤ c := by rcases h with rfl | rfl | rfl | rfl | rfl | rfl <;> decide
theorem isB_lt {c : Int32} (h : c = -42 ∨ c = -43) : c < -17 ∧ ¬ c = -25 ∧ ¬ c = -41 ∧ ¬ -17 ≤ c := by rcases h with rfl | rfl <;> decide
theorem q_st2 {w : Nat → Int32} {c : Int32} {x y : Int} {r : List Int} (h : c < -17 ∧ ¬ c = -25 ∧ ¬ c = -41 ∧ ¬ -17 ≤ c) : q_st w c (x :: y :: r) = q_jn c y x :: r := by
  unfold q_st
  rw [if_neg h.2.2.2]
  show (if c = -25 then (-x) :: y :: r else if c = -41 then (1 - x) :: y :: r else q_jn c y x :: r) = _
  rw [if_neg h.2.1, if_neg h.2.2.1]
theorem s_ans {M : gx_M} {w : Nat → Int32} {o : Nat} {l : List Int32} {T : List Bool} {Q : Int32 → gx_M → Prop} {K : gx_M → Prop} (ho : o ≠ 3) (hr : q_row (M o) l) (hl : l.length ≤ 300) (ha : q_ask M w) (hw : q_wd w) (ht : q_tc l T) (hp : q_ps l ≤ 290)
    (hK : ∀ M' : gx_M, (∀ o, o ≠ 3 → M' o = M o) → q_vrow (M' 3) (q_ev w l) → K M') : ∃ n, T_X0_answer_5 Q K n M o (nI l.length) 0 0 := by
  have key : ∀ m, m ≤ l.length → ∀ M' : gx_M, (∀ o, o ≠ 3 → M' o = M o) → q_vrow (M' 3) (q_ev w (l.drop m)) → T_X0_answer_5 Q K (m + 1) M' o (nI l.length) (nI (q_ev w (l.drop m)).length) (nI (l.length - m)) := by
    intro m
    induction m with
    | zero =>
      intro _ M' hf hv
      unfold T_X0_answer_5
      exact qt (nI_le (by omega) (by omega)) (hK M' hf hv)
    | succ m ih =>
      intro hm M' hf hv
      have hd : l.drop m = l[m] :: l.drop (m + 1) := List.drop_eq_getElem_cons (by omega)
      have hlen : (l.drop (m + 1)).length = l.length - (m + 1) := List.length_drop
      have hrow := q_row_drop hr m
      obtain ⟨T', hT⟩ := q_tc_drop ht m
      have hps := q_ps_drop l (m + 1)
      rw [hd] at hrow hT
      obtain ⟨hc, -⟩ := hrow
      obtain ⟨S, hS, hts⟩ := hT
      have hty := q_ev_ty hw hS
      have hVl := q_tys_len hty
      have hTl := q_tc_len hS
      have hev : q_ev w (l.drop m) = q_st w l[m] (q_ev w (l.drop (m + 1))) := by rw [hd]; rfl
      rw [hlen] at hc
      generalize q_ev w (l.drop (m + 1)) = V at hev hty hVl hv ⊢
      have go : ∀ (V2 : List Int) (n : Nat) (M2 : gx_M), V2.length = n → (∀ o, o ≠ 3 → M2 o = M o) → q_vrow (M2 3) V2 → q_ev w (l.drop m) = V2 → T_X0_answer_164 Q (T_X0_answer_5 Q K (m + 1)) M2 o (nI l.length) (nI n) (nI (l.length - (m + 1))) := by
        intro V2 n M2 hn h1 h2 h3
        subst hn
        unfold T_X0_answer_164
        rintro _ rfl
        rw [lit, nI_add, show l.length - (m + 1) + 1 = l.length - m by omega, ← h3]
        rw [← h3] at h2
        exact ih (by omega) M2 h1 h2
      generalize l[m] = c at hc hts hev
      have put : ∀ (V0 : List Int) (x : Int32) (M2 : gx_M), (∀ o, o ≠ 3 → M2 o = M o) → q_vrow (M2 3) V0 → (∀ o, o ≠ 3 → gx_up M2 3 V0.length x o = M o) ∧ q_vrow (gx_up M2 3 V0.length x 3) (x.toInt :: V0) := by
        intro V0 x M2 h1 h2
        refine ⟨fun o ho => by rw [gu_ne ho]; exact h1 o ho, ?_, ?_⟩
        · rw [gu_eq, ub_eq]
        · rw [gu_eq]; exact q_vrow_cong h2 (fun k hk => ub_ne (by omega))
      have bin : c < -17 ∧ ¬ c = -25 ∧ ¬ c = -41 ∧ ¬ -17 ≤ c → ∀ (x y : Int) (r : List Int), V = x :: y :: r → ((q_isA c ∧ q_ty true y ∧ q_ty true x) ∨ q_isR c ∨ ((c = -42 ∨ c = -43) ∧ q_ty false y ∧ q_ty false x)) → T_X0_answer_5 Q K (m + 1 + 1) M' o (nI l.length) (nI V.length) (nI (l.length - (m + 1))) := by
        intro hlt x y r hV hj
        subst hV
        obtain ⟨v1, v2, v3⟩ := hv
        simp only [List.length_cons] at hVl hTl v1 ⊢
        rw [q_st2 hlt] at hev
        unfold T_X0_answer_5
        refine qf (nI_ge (by omega) (by omega)) (qf (show ¬ nI 300 ≤ nI _ from nI_ge (by omega) (by omega)) ⟨vp_in_nI (by omega) (by omega), ?_⟩)
        rw [nI_clamp (by omega), hf o ho, hc]
        refine nm_e ?_
        refine qt hlt.1 (qf hlt.2.1 (qf hlt.2.2.1 (qf (show ¬ nI _ < nI 2 from nI_nlt (by omega) (by omega)) ?_)))
        rintro _ rfl
        rw [pk_m1, nI_pred]
        refine ⟨vp_in_nI (by omega) (by omega), vp_in_nI (by omega) (by omega), ?_⟩
        rw [nI_clamp (by omega), nI_clamp (by omega)]
        refine s_joined (by rw [v1, v2]; exact hj) (fun r5 h5 => ⟨vp_in_nI (by omega) (by omega), ?_⟩)
        rintro _ rfl
        obtain ⟨p1, p2⟩ := put r r5 M' hf v3
        rw [h5, v1, v2] at p2
        exact go _ _ _ (by simp) p1 p2 hev
      rcases hts with ⟨hcp, -⟩ | ⟨rfl, r, rfl, -⟩ | ⟨rfl, r, rfl, -⟩ | ⟨hcp, r, rfl, -⟩ | ⟨hcp, r, rfl, -⟩ | ⟨hcp, r, rfl, -⟩
      · unfold T_X0_answer_5
        refine qf (nI_ge (by omega) (by omega)) (qf (show ¬ nI 300 ≤ nI _ from nI_ge (by omega) (by omega)) ⟨vp_in_nI (by omega) (by omega), ?_⟩)
        rw [nI_clamp (by omega), hf o ho, hc]
        refine nm_e ?_
        refine qf (Int32.not_lt.mpr (isP_ge hcp)) (qf (show ¬ nI 300 ≤ nI _ from nI_ge (by omega) (by omega)) ?_)
        have fin : ∀ x : Int32, q_st w c V = x.toInt :: V → T_X0_answer_61 Q (T_X0_answer_5 Q K (m + 1)) M' x (nI V.length) o (nI l.length) (nI V.length) (nI (l.length - (m + 1))) := by
          intro x hx
          unfold T_X0_answer_61
          refine ⟨vp_in_nI (by omega) (by omega), ?_⟩
          rintro _ rfl _ rfl
          rw [nI_clamp (by omega), lit, nI_add]
          obtain ⟨p1, p2⟩ := put V x M' hf hv
          exact go (x.toInt :: V) (V.length + 1) _ (by simp) p1 p2 (hev.trans hx)
        refine qc (fun c0 => ?_) (fun c0 => ?_)
        · have c1 : -17 ≤ c ∧ c ≤ -11 := hcp.elim (fun q => absurd q.1 (Int32.not_le.mpr c0)) (fun q => q)
          have ha' : q_ask M' w := by unfold q_ask; rw [hf 2 (by decide)]; exact ha
          refine s_word ha' c1.1 c1.2 (fin _ ?_)
          unfold q_st
          rw [if_pos c1.1, if_neg (Int32.not_le.mpr c0)]
        · refine fin _ ?_
          unfold q_st
          rw [if_pos (isP_ge hcp), if_pos (Int32.not_lt.mp c0)]
      · obtain ⟨v, V2, rfl, hv1, -⟩ := hty
        have hv1 : -1000000 ≤ v ∧ v ≤ 1000000 := hv1
        obtain ⟨v1, v2⟩ := hv
        simp only [List.length_cons] at hVl hTl ⊢
        unfold T_X0_answer_5
        refine qf (nI_ge (by omega) (by omega)) (qf (show ¬ nI 300 ≤ nI _ from nI_ge (by omega) (by omega)) ⟨vp_in_nI (by omega) (by omega), ?_⟩)
        rw [nI_clamp (by omega), hf o ho, hc]
        refine nm_e ?_
        refine qt (by decide) (qt rfl ?_)
        unfold T_X0_answer_82
        rw [nI_pred]
        refine qf (show ¬ nI _ < nI 1 from nI_nlt (by omega) (by omega)) (qf (by decide) ⟨vp_in_nI (by omega) (by omega), ?_⟩)
        unfold T_X0_answer_123
        refine ⟨vp_in_nI (by omega) (by omega), ?_⟩
        rintro _ rfl
        rw [nI_clamp (by omega)]
        obtain ⟨p1, p2⟩ := put V2 (-(M' 3 V2.length)) M' hf v2
        rw [ti_neg (by omega), v1] at p2
        exact go _ _ _ (by simp) p1 p2 hev
      · obtain ⟨v, V2, rfl, hv1, -⟩ := hty
        have hv1 : v = 0 ∨ v = 1 := hv1
        obtain ⟨v1, v2⟩ := hv
        simp only [List.length_cons] at hVl hTl ⊢
        unfold T_X0_answer_5
        refine qf (nI_ge (by omega) (by omega)) (qf (show ¬ nI 300 ≤ nI _ from nI_ge (by omega) (by omega)) ⟨vp_in_nI (by omega) (by omega), ?_⟩)
        rw [nI_clamp (by omega), hf o ho, hc]
        refine nm_e ?_
        refine qt (by decide) (qf (by decide) (qt rfl ?_))
        unfold T_X0_answer_82
        rw [nI_pred]
        refine qf (show ¬ nI _ < nI 1 from nI_nlt (by omega) (by omega)) (qt rfl ⟨vp_in_nI (by omega) (by omega), ?_⟩)
        unfold T_X0_answer_123
        refine ⟨vp_in_nI (by omega) (by omega), ?_⟩
        rintro _ rfl
        rw [nI_clamp (by omega)]
        obtain ⟨p1, p2⟩ := put V2 (1 - (M' 3 V2.length)) M' hf v2
        have o1 : (1 : Int32).toInt = 1 := rfl
        rw [ti_sub (by rw [o1]; omega) (by rw [o1]; omega), v1, o1] at p2
        exact go _ _ _ (by simp) p1 p2 hev
      · obtain ⟨v, V2, rfl, hv1, vv, V3, rfl, hv2, -⟩ := hty
        exact bin (isA_lt hcp) v vv V3 rfl (Or.inl ⟨hcp, hv2, hv1⟩)
      · obtain ⟨v, V2, rfl, hv1, vv, V3, rfl, hv2, -⟩ := hty
        exact bin (isR_lt hcp) v vv V3 rfl (Or.inr (Or.inl hcp))
      · obtain ⟨v, V2, rfl, hv1, vv, V3, rfl, hv2, -⟩ := hty
        exact bin (isB_lt hcp) v vv V3 rfl (Or.inr (Or.inr ⟨hcp, hv2, hv1⟩))
  have k0 := key l.length (Nat.le_refl _) M (fun _ _ => rfl) (by rw [List.drop_length]; trivial)
  rw [List.drop_length, Nat.sub_self] at k0
  exact ⟨l.length + 1, k0⟩
theorem s_answer {M : gx_M} {w : Nat → Int32} {o : Nat} {l : List Int32} {b : Bool} {v : Int} {Q : Int32 → gx_M → Prop} (ho : o ≠ 3) (hr : q_row (M o) l) (hl : l.length ≤ 300) (ha : q_ask M w) (hw : q_wd w) (ht : q_tc l [b]) (hp : q_ps l ≤ 290) (hv : q_ev w l = [v])
    (h : ∀ (M' : gx_M) (r : Int32), (∀ o, o ≠ 3 → M' o = M o) → r.toInt = v → Q r M') : T_X0_answer M o (nI l.length) Q := by
  unfold T_X0_answer
  refine s_ans ho hr hl ha hw ht hp (fun M' hf hv' => ⟨by unfold vp_in; decide, ?_⟩)
  rw [hv] at hv'
  exact h M' _ hf hv'.1
