/-! the reference works a row of orders out -/
def q_ro (c : Int32) : Int32 :=
  if 0 ≤ c then 400 else if -17 ≤ c then 401 else if c = -25 then 402 else if c = -41 then 405 else if c = -42 then 406 else if c = -43 then 407
  else if c = -21 then 43 else if c = -22 then 45 else if c = -23 then 42 else if c = -24 then 47 else if c = -31 then 60 else if c = -32 then 300
  else if c = -33 then 62 else if c = -34 then 301 else if c = -35 then 61 else 35
def q_rv (c : Int32) : Int32 := if 0 ≤ c then c else if -17 ≤ c then (-11) - c else 0
def q_orow (N : gx_M) (base : Nat) : List Int32 → Prop
  | [] => True
  | c :: l => N 7 (base + l.length) = q_ro c ∧ N 8 (base + l.length) = q_rv c ∧ q_orow N base l
theorem q_orow_drop {N : gx_M} {base : Nat} {l : List Int32} (h : q_orow N base l) (m : Nat) : q_orow N base (l.drop m) := by
  induction m generalizing l with
  | zero => exact h
  | succ m ih =>
    cases l with
    | nil => exact h
    | cons c l => exact ih h.2.2
theorem q_orow_cong {N N' : gx_M} {base : Nat} {l : List Int32} (h : q_orow N base l) (e : ∀ k, k < base + l.length → base ≤ k → N' 7 k = N 7 k ∧ N' 8 k = N 8 k) : q_orow N' base l := by
  induction l with
  | nil => trivial
  | cons c l ih =>
    obtain ⟨e1, e2⟩ := e (base + l.length) (by simp) (by omega)
    exact ⟨e1.trans h.1, e2.trans h.2.1, ih h.2.2 (fun k hk hb => e k (by simp; omega) hb)⟩
theorem n_bound {N : gx_M} {x : Int64} {Q : Int64 → Prop} (h : ∀ r : Int64, r.toInt = q_bd x.toInt → Q r) : T_X11_bound N x Q := by
  unfold T_X11_bound
  have z1 : (1000000 : Int64).toInt = 1000000 := rfl
  have z2 : (-1000000 : Int64).toInt = -1000000 := rfl
  unfold q_bd at h
  refine qc (fun c => qc (fun c2 => h _ ?_) (fun c2 => h _ ?_)) (fun c => h _ ?_)
  · have c := ll.mp c
    have c2 := ll.mp c2
    rw [if_pos (by omega), if_pos (by omega)]
  · have c := ll.mp c
    have c2 : ¬ (-1000000 : Int64).toInt ≤ x.toInt := fun q => c2 (ll.mpr q)
    rw [if_pos (by omega), if_neg (by omega)]; rfl
  · have c : ¬ x.toInt ≤ (1000000 : Int64).toInt := fun q => c (ll.mpr q)
    rw [if_neg (by omega)]; rfl
theorem lf_n {p q : Prop} {hd : Decidable p} (hq : Decidable q) (h : p ↔ ¬ q) {R : Int64 → Prop} (f : ∀ r : Int64, r.toInt = (@ite Int q hq 1 0) → R r) : @ite Prop p hd (R 0) (R 1) := by
  by_cases e : q
  · rw [if_neg (fun z => (h.mp z) e)]; exact f 1 (by rw [if_pos e]; rfl)
  · rw [if_pos (h.mpr e)]; exact f 0 (by rw [if_neg e]; rfl)
theorem lf_y {p q : Prop} {hd : Decidable p} (hq : Decidable q) (h : p ↔ q) {R : Int64 → Prop} (f : ∀ r : Int64, r.toInt = (@ite Int q hq 1 0) → R r) : @ite Prop p hd (R 1) (R 0) := by
  by_cases e : q
  · rw [if_pos (h.mpr e)]; exact f 1 (by rw [if_pos e]; rfl)
  · rw [if_neg (fun z => e (h.mp z))]; exact f 0 (by rw [if_neg e]; rfl)
theorem lf_z {p q : Prop} {hd : Decidable p} (hq : Decidable q) (h : p ↔ q) {R : Int64 → Prop} (f : ∀ r : Int64, r.toInt = (@ite Int q hq 0 1) → R r) : @ite Prop p hd (R 0) (R 1) := by
  by_cases e : q
  · rw [if_pos (h.mpr e)]; exact f 0 (by rw [if_pos e]; rfl)
  · rw [if_neg (fun z => e (h.mp z))]; exact f 1 (by rw [if_neg e]; rfl)
theorem le_eq {x y : Int64} : x = y ↔ x.toInt = y.toInt := Int64.toInt_inj.symm
theorem n_worked {N : gx_M} {c : Int32} {x y : Int64} {Q : Int64 → Prop} (hc : (q_isA c ∧ q_ty true x.toInt ∧ q_ty true y.toInt) ∨ (q_isR c) ∨ ((c = -42 ∨ c = -43) ∧ q_ty false x.toInt ∧ q_ty false y.toInt))
    (h : ∀ r : Int64, r.toInt = q_jn c x.toInt y.toInt → Q r) : T_X11_worked N (q_ro c) x y Q := by
  have z0 : (0 : Int64).toInt = 0 := rfl
  unfold T_X11_worked
  rcases hc with ⟨hc, hx, hy⟩ | hc | ⟨hc, hx, hy⟩
  · have hx : -1000000 ≤ x.toInt ∧ x.toInt ≤ 1000000 := hx
    have hy : -1000000 ≤ y.toInt ∧ y.toInt ≤ 1000000 := hy
    have hm := mul_bd hx hy
    rcases hc with rfl | rfl | rfl | rfl
    · rw [show q_ro (-21) = 43 by decide]
      refine qf (by decide) (qf (by decide) (qt rfl (n_bound (fun r hr => h r ?_))))
      rw [hr, lg_add (by omega) (by omega)]; rfl
    · rw [show q_ro (-22) = 45 by decide]
      refine qf (by decide) (qf (by decide) (qf (by decide) (qt rfl (n_bound (fun r hr => h r ?_)))))
      rw [hr, lg_sub (by omega) (by omega)]; rfl
    · rw [show q_ro (-23) = 42 by decide]
      refine qf (by decide) (qt rfl (n_bound (fun r hr => h r ?_)))
      rw [hr, lg_mul (by omega) (by omega)]; rfl
    · rw [show q_ro (-24) = 47 by decide]
      refine qf (by decide) (qf (by decide) (qf (by decide) (qf (by decide) (qt rfl (qc (fun e => h _ ?_) (fun e => ⟨e, h _ ?_⟩))))))
      · rw [e]; rfl
      · have e : ¬ y.toInt = 0 := fun q => e (Int64.toInt_inj.mp (by rw [q]; rfl))
        rw [lg_div hx hy]
        exact (if_neg e).symm
  · rcases hc with rfl | rfl | rfl | rfl | rfl | rfl
    · rw [show q_ro (-31) = 60 by decide]
      refine qf (by decide) (qf (by decide) (qf (by decide) (qf (by decide) (qf (by decide) (qt rfl ?_)))))
      exact lf_n (q := x.toInt < y.toInt) inferInstance (by rw [ll]; omega) h
    · rw [show q_ro (-32) = 300 by decide]
      refine qf (by decide) (qf (by decide) (qf (by decide) (qf (by decide) (qf (by decide) (qf (by decide) (qf (by decide) (qf (by decide) (qt rfl ?_))))))))
      exact lf_n (q := x.toInt ≤ y.toInt) inferInstance (by rw [llt]; omega) h
    · rw [show q_ro (-33) = 62 by decide]
      refine qf (by decide) (qf (by decide) (qf (by decide) (qf (by decide) (qf (by decide) (qf (by decide) (qf (by decide) (qt rfl ?_)))))))
      exact lf_n (q := y.toInt < x.toInt) inferInstance (by rw [ll]; omega) h
    · rw [show q_ro (-34) = 301 by decide]
      refine qf (by decide) (qf (by decide) (qf (by decide) (qf (by decide) (qf (by decide) (qf (by decide) (qf (by decide) (qf (by decide) (qf (by decide) (qt rfl ?_)))))))))
      exact lf_n (q := y.toInt ≤ x.toInt) inferInstance (by rw [llt]; omega) h
    · rw [show q_ro (-35) = 61 by decide]
      refine qf (by decide) (qf (by decide) (qf (by decide) (qf (by decide) (qf (by decide) (qf (by decide) (qt rfl ?_))))))
      exact lf_y (q := x.toInt = y.toInt) inferInstance le_eq h
    · rw [show q_ro (-36) = 35 by decide]
      refine qt rfl ?_
      exact lf_z (q := x.toInt = y.toInt) inferInstance le_eq h
  · have h1 : x.toInt = 0 ∨ x.toInt = 1 := hx
    have h2 : y.toInt = 0 ∨ y.toInt = 1 := hy
    have g1 : x = 0 ∨ x = 1 := h1.elim (fun e => Or.inl (Int64.toInt_inj.mp e)) (fun e => Or.inr (Int64.toInt_inj.mp e))
    have g2 : y = 0 ∨ y = 1 := h2.elim (fun e => Or.inl (Int64.toInt_inj.mp e)) (fun e => Or.inr (Int64.toInt_inj.mp e))
    rcases hc with rfl | rfl
    · rw [show q_ro (-42) = 406 by decide]
      refine qf (by decide) (qf (by decide) (qf (by decide) (qf (by decide) (qf (by decide) (qf (by decide) (qf (by decide) (qf (by decide) (qf (by decide) (qf (by decide) (qt rfl ?_))))))))))
      refine h _ ?_
      rcases g1 with rfl | rfl <;> rcases g2 with rfl | rfl <;> rfl
    · rw [show q_ro (-43) = 407 by decide]
      refine qf (by decide) (qf (by decide) (qf (by decide) (qf (by decide) (qf (by decide) (qf (by decide) (qf (by decide) (qf (by decide) (qf (by decide) (qf (by decide) (qf (by decide) ?_))))))))))
      rcases g1 with rfl | rfl <;> rcases g2 with rfl | rfl
      · exact qt (by decide) (h 0 rfl)
      · exact qf (by decide) (h 1 rfl)
      · exact qf (by decide) (h 1 rfl)
      · exact qf (by decide) (h 1 rfl)
theorem gul_ne {M : gx_M} {o q j : Nat} {v : Int64} (h : q ≠ o) : gx_ul M o j v q = M q := by unfold gx_ul; rw [gu_ne h, gu_ne h]
theorem gul_eq (M : gx_M) (o j : Nat) (v : Int64) : gx_rl (gx_ul M o j v o) = vp_updL (gx_rl (M o)) j v := by
  unfold gx_ul
  rw [gu_eq, gu_eq, gx_rl_up]
theorem i11 {c : Int32} (h1 : -17 ≤ c) (h2 : c ≤ -11) : vp_in ((-11) - c) 7 ∧ ((-11) - c).toNatClampNeg < 7 := by
  rcases i7 h1 h2 with rfl | rfl | rfl | rfl | rfl | rfl | rfl <;> exact ⟨by unfold vp_in; decide, by decide⟩
set_option maxHeartbeats 100000 in
theorem n_tell {N : gx_M} {w : Nat → Int32} {base : Nat} {l : List Int32} {T : List Bool} {Q : Int64 → gx_M → Prop} (hr : q_orow N base l) (hend : N 7 (base + l.length) = 408) (hl : base + l.length < 1600) (ha : ∀ i, i < 7 → N 18 i = w i) (hw : q_wd w) (ht : q_tc l T) (hp : q_ps l ≤ 190)
    (hK : ∀ N' : gx_M, (∀ o, o ≠ 19 → N' o = N o) → q_lrow (gx_rl (N' 19)) (q_ev w l) → Q (gx_rl (N' 19) 0) N') : T_X11_tells N (nI base) Q := by
  have key : ∀ m, m ≤ l.length → ∀ N' : gx_M, (∀ o, o ≠ 19 → N' o = N o) → q_lrow (gx_rl (N' 19)) (q_ev w (l.drop m)) → T_X11_tells_4 Q (m + 1) N' (nI (q_ev w (l.drop m)).length) (nI (base + (l.length - m))) := by
    intro m
    induction m with
    | zero =>
      intro _ N' hf hv
      unfold T_X11_tells_4
      refine ⟨vp_in_nI (by omega) (by omega), ?_⟩
      rw [nI_clamp (by omega), hf 7 (by decide), Nat.sub_zero]
      exact qt hend ⟨by unfold vp_in; decide, hK N' hf hv⟩
    | succ m ih =>
      intro hm N' hf hv
      have hd : l.drop m = l[m] :: l.drop (m + 1) := List.drop_eq_getElem_cons (by omega)
      have hlen : (l.drop (m + 1)).length = l.length - (m + 1) := List.length_drop
      have hrow := q_orow_drop hr m
      obtain ⟨T', hT⟩ := q_tc_drop ht m
      have hps := q_ps_drop l (m + 1)
      rw [hd] at hrow hT
      obtain ⟨hc, hc8, -⟩ := hrow
      obtain ⟨S, hS, hts⟩ := hT
      have hty := q_ev_ty hw hS
      have hVl := q_tys_len hty
      have hTl := q_tc_len hS
      have hev : q_ev w (l.drop m) = q_st w l[m] (q_ev w (l.drop (m + 1))) := by rw [hd]; rfl
      rw [hlen] at hc hc8
      generalize q_ev w (l.drop (m + 1)) = V at hev hty hVl hv ⊢
      have go : ∀ (V2 : List Int) (n : Nat) (M2 : gx_M), V2.length = n → (∀ o, o ≠ 19 → M2 o = N o) → q_lrow (gx_rl (M2 19)) V2 → q_ev w (l.drop m) = V2 → T_X11_tells_169 Q (T_X11_tells_4 Q (m + 1)) M2 (nI n) (nI (base + (l.length - (m + 1)))) := by
        intro V2 n M2 hn h1 h2 h3
        subst hn
        unfold T_X11_tells_169
        rintro _ rfl
        rw [lit, nI_add, show base + (l.length - (m + 1)) + 1 = base + (l.length - m) by omega, ← h3]
        rw [← h3] at h2
        exact ih (by omega) M2 h1 h2
      generalize l[m] = c at hc hc8 hts hev
      have put : ∀ (V0 : List Int) (x : Int64) (M2 : gx_M), (∀ o, o ≠ 19 → M2 o = N o) → q_lrow (gx_rl (M2 19)) V0 → (∀ o, o ≠ 19 → gx_ul M2 19 V0.length x o = N o) ∧ q_lrow (gx_rl (gx_ul M2 19 V0.length x 19)) (x.toInt :: V0) := by
        intro V0 x M2 h1 h2
        refine ⟨fun o ho => by rw [gul_ne ho]; exact h1 o ho, ?_, ?_⟩
        · rw [gul_eq]; simp [vp_updL]
        · rw [gul_eq]; exact q_lrow_cong h2 (fun k hk => by unfold vp_updL; rw [if_neg (by omega)])
      have ho0 : ¬ q_ro c = 408 := by
        rcases hts with ⟨hcp, -⟩ | ⟨rfl, -⟩ | ⟨rfl, -⟩ | ⟨hcp, -⟩ | ⟨hcp, -⟩ | ⟨hcp, -⟩
        · unfold q_ro
          by_cases z : 0 ≤ c
          · rw [if_pos z]; decide
          · rw [if_neg z, if_pos (isP_ge hcp)]; decide
        · decide
        · decide
        · rcases hcp with rfl | rfl | rfl | rfl <;> decide
        · rcases hcp with rfl | rfl | rfl | rfl | rfl | rfl <;> decide
        · rcases hcp with rfl | rfl <;> decide
      have bin : (q_ro c ≠ 400 ∧ q_ro c ≠ 401 ∧ q_ro c ≠ 402 ∧ q_ro c ≠ 405) → (c < -17 ∧ ¬ c = -25 ∧ ¬ c = -41 ∧ ¬ -17 ≤ c) → ∀ (x y : Int) (r : List Int), V = x :: y :: r → ((q_isA c ∧ q_ty true y ∧ q_ty true x) ∨ q_isR c ∨ ((c = -42 ∨ c = -43) ∧ q_ty false y ∧ q_ty false x)) → T_X11_tells_4 Q (m + 1 + 1) N' (nI V.length) (nI (base + (l.length - (m + 1)))) := by
        intro ho hlt x y r hV hj
        subst hV
        obtain ⟨v1, v2, v3⟩ := hv
        simp only [List.length_cons] at hVl hTl v1 ⊢
        rw [q_st2 hlt] at hev
        unfold T_X11_tells_4
        refine ⟨vp_in_nI (by omega) (by omega), ?_⟩
        rw [nI_clamp (by omega), hf 7 (by decide), hc]
        refine qf ho0 ⟨vp_in_nI (by omega) (by omega), ?_⟩
        rintro _ rfl
        refine qf ho.1 (qf ho.2.1 (qf ho.2.2.1 (qf ho.2.2.2 ?_)))
        rintro _ rfl
        rw [pk_m1, nI_pred]
        refine ⟨vp_in_nI (by omega) (by omega), vp_in_nI (by omega) (by omega), ?_⟩
        rw [nI_clamp (by omega), nI_clamp (by omega)]
        refine n_worked (by rw [v1, v2]; exact hj) (fun r5 h5 => ⟨vp_in_nI (by omega) (by omega), ?_⟩)
        rintro _ rfl
        obtain ⟨p1, p2⟩ := put r r5 N' hf v3
        rw [h5, v1, v2] at p2
        exact go _ _ _ (by simp) p1 p2 hev
      rcases hts with ⟨hcp, -⟩ | ⟨rfl, r, rfl, -⟩ | ⟨rfl, r, rfl, -⟩ | ⟨hcp, r, rfl, -⟩ | ⟨hcp, r, rfl, -⟩ | ⟨hcp, r, rfl, -⟩
      · unfold T_X11_tells_4
        refine ⟨vp_in_nI (by omega) (by omega), ?_⟩
        rw [nI_clamp (by omega), hf 7 (by decide), hc]
        refine qf ho0 ⟨vp_in_nI (by omega) (by omega), ?_⟩
        rintro _ rfl
        have fin : ∀ x : Int64, q_st w c V = x.toInt :: V → T_X11_tells_75 Q (T_X11_tells_4 Q (m + 1)) N' x (nI V.length) (nI V.length) (nI (base + (l.length - (m + 1)))) := by
          intro x hx
          unfold T_X11_tells_75
          refine ⟨vp_in_nI (by omega) (by omega), ?_⟩
          rintro _ rfl _ rfl
          rw [nI_clamp (by omega), lit, nI_add]
          obtain ⟨p1, p2⟩ := put V x N' hf hv
          exact go (x.toInt :: V) (V.length + 1) _ (by simp) p1 p2 (hev.trans hx)
        by_cases z : 0 ≤ c
        · have e1 : q_ro c = 400 := if_pos z
          have e2 : q_rv c = c := if_pos z
          rw [e1]
          refine qt rfl ?_
          unfold T_X11_tells_40
          refine qt rfl ⟨vp_in_nI (by omega) (by omega), ?_⟩
          rw [nI_clamp (by omega), hf 8 (by decide), hc8, e2]
          refine fin _ ?_
          unfold q_st
          rw [if_pos (isP_ge hcp), if_pos z, lg_lo]
        · have c1 : -17 ≤ c ∧ c ≤ -11 := hcp.elim (fun q => absurd q.1 z) (fun q => q)
          have e1 : q_ro c = 401 := (if_neg z).trans (if_pos c1.1)
          have e2 : q_rv c = (-11) - c := (if_neg z).trans (if_pos c1.1)
          obtain ⟨i1, i2⟩ := i11 c1.1 c1.2
          rw [e1]
          refine qf (by decide) (qt rfl ?_)
          unfold T_X11_tells_40
          refine qf (by decide) ⟨vp_in_nI (by omega) (by omega), ?_⟩
          rw [nI_clamp (by omega), hf 8 (by decide), hc8, e2]
          refine ⟨i1, ?_⟩
          refine fin _ ?_
          rw [hf 18 (by decide), ha _ i2, lg_lo]
          unfold q_st
          rw [if_pos c1.1, if_neg z]
      · obtain ⟨v, V2, rfl, hv1, -⟩ := hty
        have hv1 : -1000000 ≤ v ∧ v ≤ 1000000 := hv1
        obtain ⟨v1, v2⟩ := hv
        simp only [List.length_cons] at hVl hTl ⊢
        unfold T_X11_tells_4
        refine ⟨vp_in_nI (by omega) (by omega), ?_⟩
        rw [nI_clamp (by omega), hf 7 (by decide), hc, show q_ro (-25) = 402 by decide]
        refine qf (by decide) ⟨vp_in_nI (by omega) (by omega), ?_⟩
        rintro _ rfl
        rw [nI_pred]
        refine qf (by decide) (qf (by decide) (qt rfl ⟨vp_in_nI (by omega) (by omega), vp_in_nI (by omega) (by omega), ?_⟩))
        rintro _ rfl
        rw [nI_clamp (by omega)]
        obtain ⟨p1, p2⟩ := put V2 (-(gx_rl (N' 19) V2.length)) N' hf v2
        rw [lg_neg (by omega) (by omega), v1] at p2
        exact go _ _ _ (by simp) p1 p2 hev
      · obtain ⟨v, V2, rfl, hv1, -⟩ := hty
        have hv1 : v = 0 ∨ v = 1 := hv1
        obtain ⟨v1, v2⟩ := hv
        simp only [List.length_cons] at hVl hTl ⊢
        unfold T_X11_tells_4
        refine ⟨vp_in_nI (by omega) (by omega), ?_⟩
        rw [nI_clamp (by omega), hf 7 (by decide), hc, show q_ro (-41) = 405 by decide]
        refine qf (by decide) ⟨vp_in_nI (by omega) (by omega), ?_⟩
        rintro _ rfl
        rw [nI_pred]
        refine qf (by decide) (qf (by decide) (qf (by decide) (qt rfl ⟨vp_in_nI (by omega) (by omega), vp_in_nI (by omega) (by omega), ?_⟩)))
        rintro _ rfl
        rw [nI_clamp (by omega)]
        obtain ⟨p1, p2⟩ := put V2 (1 - (gx_rl (N' 19) V2.length)) N' hf v2
        have o1 : (1 : Int64).toInt = 1 := rfl
        rw [lg_sub (by rw [o1]; omega) (by rw [o1]; omega), v1, o1] at p2
        exact go _ _ _ (by simp) p1 p2 hev
      · obtain ⟨v, V2, rfl, hv1, vv, V3, rfl, hv2, -⟩ := hty
        exact bin (by rcases hcp with rfl | rfl | rfl | rfl <;> decide) (isA_lt hcp) v vv V3 rfl (Or.inl ⟨hcp, hv2, hv1⟩)
      · obtain ⟨v, V2, rfl, hv1, vv, V3, rfl, hv2, -⟩ := hty
        exact bin (by rcases hcp with rfl | rfl | rfl | rfl | rfl | rfl <;> decide) (isR_lt hcp) v vv V3 rfl (Or.inr (Or.inl hcp))
      · obtain ⟨v, V2, rfl, hv1, vv, V3, rfl, hv2, -⟩ := hty
        exact bin (by rcases hcp with rfl | rfl <;> decide) (isB_lt hcp) v vv V3 rfl (Or.inr (Or.inr ⟨hcp, hv2, hv1⟩))
  have k0 := key l.length (Nat.le_refl _) N (fun _ _ => rfl) (by rw [List.drop_length]; trivial)
  rw [List.drop_length, Nat.sub_self] at k0
  exact ⟨l.length + 1, k0⟩
theorem n_tells {N : gx_M} {w : Nat → Int32} {base : Nat} {l : List Int32} {b : Bool} {v : Int} {Q : Int64 → gx_M → Prop} (hr : q_orow N base l) (hend : N 7 (base + l.length) = 408) (hl : base + l.length < 1600) (ha : ∀ i, i < 7 → N 18 i = w i) (hw : q_wd w) (ht : q_tc l [b]) (hp : q_ps l ≤ 190) (hv : q_ev w l = [v])
    (h : ∀ (N' : gx_M) (r : Int64), (∀ o, o ≠ 19 → N' o = N o) → r.toInt = v → Q r N') : T_X11_tells N (nI base) Q := by
  refine n_tell hr hend hl ha hw ht hp (fun N' hf hv' => ?_)
  rw [hv] at hv'
  exact h N' _ hf hv'.1
