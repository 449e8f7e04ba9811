/-! parts of signals; what is asked without sweeps -/
theorem RS_new {a : Nat → Int32} {M : gx_M} {s n j : Nat} {x : Int32} (h : RS 0 a M) (hok : okA a) (hs : s < 4) (hn : (a (24 + s)).toNatClampNeg ≤ n) (h6 : n < 6) (hj : j < 5) : RS 0 (upd a (30 + 30 * s + 5 * n + j) x) (gx_up M (62 + 6 * s + n) j x) := by
  obtain ⟨⟨h1, h2, h3⟩, h4, h5, h6'⟩ := h
  have H : ∀ (q k r : Nat), M q k = a r → q ≠ 62 + 6 * s + n → r ≠ 30 + 30 * s + 5 * n + j → gx_up M (62 + 6 * s + n) j x q k = upd a (30 + 30 * s + 5 * n + j) x r := fun q k r e f g => by rw [gu_ne f, ub_ne g]; exact e
  refine ⟨⟨fun k hk => H _ _ _ (h1 k hk) (by omega) (by omega), H _ _ _ h2 (by omega) (by omega), H _ _ _ h3 (by omega) (by omega)⟩, fun c hc => H _ _ _ (h4 c hc) (by omega) (by omega), fun c hc => ?_, fun s' hs' => ?_⟩
  · obtain ⟨g0, g1, g2, g3, g4, g5⟩ := h5 c hc
    exact ⟨H _ _ _ g0 (by omega) (by omega), H _ _ _ g1 (by omega) (by omega), H _ _ _ g2 (by omega) (by omega), H _ _ _ g3 (by omega) (by omega), H _ _ _ g4 (by omega) (by omega), H _ _ _ g5 (by omega) (by omega)⟩
  · obtain ⟨g1, g2⟩ := h6' s' hs'
    have k6 := (okN hok hs').1
    have es : upd a (30 + 30 * s + 5 * n + j) x (24 + s') = a (24 + s') := ub_ne (by omega)
    refine ⟨H _ _ _ g1 (by omega) (by omega), fun k hk j' hj' => ?_⟩
    rw [es] at hk
    have ne : ¬ (s' = s ∧ k = n) := by
      rintro ⟨rfl, rfl⟩; omega
    exact H _ _ _ (g2 k hk j' hj') (by omega) (by omega)
theorem okA_new {a : Nat → Int32} {s n j : Nat} {x : Int32} (h : okA a) (hs : s < 4) (hn : (a (24 + s)).toNatClampNeg ≤ n) (h6 : n < 6) (hj : j < 5) : okA (upd a (30 + 30 * s + 5 * n + j) x) := by
  have H : ∀ r : Nat, r ≠ 30 + 30 * s + 5 * n + j → upd a (30 + 30 * s + 5 * n + j) x r = a r := fun r g => ub_ne g
  have hok := h
  obtain ⟨⟨h0, h1, h2, h3, h4, h5, h6'⟩, hc, hss, hp⟩ := h
  refine ⟨by rw [H 0 (by omega), H 1 (by omega), H 2 (by omega), H 3 (by omega), H 4 (by omega), H 5 (by omega), H 6 (by omega)]; exact ⟨h0, h1, h2, h3, h4, h5, h6'⟩, fun c c2 => by rw [H _ (by omega), H _ (by omega), H _ (by omega), H _ (by omega), H _ (by omega), H _ (by omega)]; exact hc c c2, fun s' hs' => ?_, fun c c2 => by rw [H _ (by omega)]; exact hp c c2⟩
  obtain ⟨a1, a2⟩ := hss s' hs'
  have k6 := (okN hok hs').1
  rw [H _ (by omega)]
  refine ⟨a1, fun k hk => ?_⟩
  have ne : ¬ (s' = s ∧ k = n) := by
    rintro ⟨rfl, rfl⟩; omega
  rw [H _ (by omega), H _ (by omega), H _ (by omega), H _ (by omega), H _ (by omega)]
  exact a2 k hk
theorem RS_cnt {a : Nat → Int32} {M : gx_M} {s : Nat} {x : Int32} (h : RS 0 a M) (hok : okA a) (hs : s < 4) (hx : ∀ k, k < x.toNatClampNeg → ∀ j, j < 5 → M (62 + 6 * s + k) j = a (30 + 30 * s + 5 * k + j)) (h6 : x.toNatClampNeg ≤ 6) : RS 0 (upd a (24 + s) x) (gx_up M (42 + s) 1 x) := by
  obtain ⟨⟨h1, h2, h3⟩, h4, h5, h6'⟩ := h
  have H : ∀ (q k r : Nat), M q k = a r → q ≠ 42 + s → r ≠ 24 + s → gx_up M (42 + s) 1 x q k = upd a (24 + s) x r := fun q k r e f g => by rw [gu_ne f, ub_ne g]; exact e
  refine ⟨⟨fun k hk => H _ _ _ (h1 k hk) (by omega) (by omega), H _ _ _ h2 (by omega) (by omega), H _ _ _ h3 (by omega) (by omega)⟩, fun c hc => H _ _ _ (h4 c hc) (by omega) (by omega), fun c hc => ?_, fun s' hs' => ?_⟩
  · obtain ⟨g0, g1, g2, g3, g4, g5⟩ := h5 c hc
    exact ⟨H _ _ _ g0 (by omega) (by omega), H _ _ _ g1 (by omega) (by omega), H _ _ _ g2 (by omega) (by omega), H _ _ _ g3 (by omega) (by omega), H _ _ _ g4 (by omega) (by omega), H _ _ _ g5 (by omega) (by omega)⟩
  · obtain ⟨g1, g2⟩ := h6' s' hs'
    have k6 := (okN hok hs').1
    simp only [Nat.mul_zero, Nat.zero_add, Nat.add_zero] at g1 g2 ⊢
    by_cases e : s' = s
    · subst e
      rw [ub_eq, gu_eq, ub_eq]
      exact ⟨rfl, fun k hk j hj => H _ _ _ (hx k hk j hj) (by omega) (by omega)⟩
    · rw [ub_ne (show 24 + s' ≠ 24 + s by omega)]
      refine ⟨by rw [gu_ne (by omega)]; exact g1, fun k hk j hj => H _ _ _ (g2 k hk j hj) (by omega) (by omega)⟩
theorem okA_cnt {a : Nat → Int32} {s : Nat} {x : Int32} (h : okA a) (hs : s < 4) (h06 : 0 ≤ x ∧ x ≤ 6) (hx : ∀ k, k < x.toNatClampNeg → (0 ≤ a (30 + 30 * s + 5 * k) ∧ a (30 + 30 * s + 5 * k) ≤ 2) ∧ (-999 ≤ a (30 + 30 * s + 5 * k + 1) ∧ a (30 + 30 * s + 5 * k + 1) ≤ 999) ∧ (1 ≤ a (30 + 30 * s + 5 * k + 2) ∧ a (30 + 30 * s + 5 * k + 2) ≤ 500) ∧ (0 ≤ a (30 + 30 * s + 5 * k + 3) ∧ a (30 + 30 * s + 5 * k + 3) ≤ 500) ∧ (0 ≤ a (30 + 30 * s + 5 * k + 4) ∧ a (30 + 30 * s + 5 * k + 4) ≤ 1999)) : okA (upd a (24 + s) x) := by
  have H : ∀ r : Nat, r ≠ 24 + s → upd a (24 + s) x r = a r := fun r g => ub_ne g
  have hok := h
  obtain ⟨⟨h0, h1, h2, h3, h4, h5, h6'⟩, hc, hss, hp⟩ := h
  refine ⟨by rw [H 0 (by omega), H 1 (by omega), H 2 (by omega), H 3 (by omega), H 4 (by omega), H 5 (by omega), H 6 (by omega)]; exact ⟨h0, h1, h2, h3, h4, h5, h6'⟩, fun c c2 => by rw [H _ (by omega), H _ (by omega), H _ (by omega), H _ (by omega), H _ (by omega), H _ (by omega)]; exact hc c c2, fun s' hs' => ?_, fun c c2 => by rw [H _ (by omega)]; exact hp c c2⟩
  by_cases e : s' = s
  · subst e
    rw [ub_eq]
    refine ⟨h06, fun k hk => ?_⟩
    rw [H _ (by omega), H _ (by omega), H _ (by omega), H _ (by omega), H _ (by omega)]
    exact hx k hk
  · rw [H _ (by omega)]
    refine ⟨(hss s' hs').1, fun k hk => ?_⟩
    rw [H _ (by omega), H _ (by omega), H _ (by omega), H _ (by omega), H _ (by omega)]
    exact (hss s' hs').2 k hk
theorem step_clear : st_clear RR := by
  intro M N h v1
  unfold T_X10_clear T_X11_clear
  refine gd_isSignal (fun n1 => gn_isSignal (fun _ => ⟨rfl, h⟩) (fun q => absurd q n1)) (fun s hs es => ?_)
  have p1 : 0 ≤ v1 ∧ v1 ≤ 3 := by rw [es]; exact v_n (n := 3) (by omega) (by omega)
  subst es
  refine ⟨vp_in_nI hs (by omega), ?_⟩
  rintro _ rfl
  refine ⟨vp_in_nI hs (by omega), ?_⟩
  unfold T_X1_forget
  rintro _ rfl _ rfl
  refine gn_isSignal (fun q => absurd p1 q) (fun _ => ?_)
  simp (disch := omega) only [lit, nI_add, nI_clamp, vp_in_nI, true_and]
  rintro _ rfl _ rfl
  have hR := h.1.1
  obtain ⟨e1, e2⟩ := hR.2.2.2 s hs
  simp only [Nat.mul_zero, Nat.zero_add, Nat.add_zero] at e1 e2
  refine ⟨e1, RRn.forget (h.n.rest (i := 24 + s) (o := 42 + s) (j := 1) (by omega) (by omega) (RS_cnt hR h.1.2.1 hs (fun k hk => absurd hk (Nat.not_lt_zero k)) (Nat.zero_le _)) (okA_cnt h.1.2.1 hs ⟨by decide, by decide⟩ (fun k hk => absurd hk (Nat.not_lt_zero k))))⟩
theorem RRn.new {M N : gx_M} {s n j : Nat} {x : Int32} (h : RRn M N) (hs : s < 4) (hn : (N 1 (24 + s)).toNatClampNeg ≤ n) (h6 : n < 6) (hj : j < 5) : RRn (gx_up M (62 + 6 * s + n) j x) (gx_up N 1 (30 + 30 * s + 5 * n + j) x) ∧ gx_up N 1 (30 + 30 * s + 5 * n + j) x 1 (24 + s) = N 1 (24 + s) :=
  ⟨h.rest (by omega) (by omega) (RS_new h.1.1 h.1.2 hs hn h6 hj) (okA_new h.1.2 hs hn h6 hj), by rw [gu_eq, ub_ne (by omega)]⟩
theorem p69 {Q : Int32 → gx_M → Prop} {M : gx_M} {v1 v2 v3 v4 v5 v6 : Int32} (h : Q (-1) M) : T_X10_part_69 Q M v1 v2 v3 v4 v5 v6 := by
  unfold T_X10_part_69 T_X10_part_70; exact qt rfl h
theorem n69 {Q : Int32 → gx_M → Prop} {M : gx_M} {v1 v2 v3 v4 v5 v6 : Int32} (h : Q (-1) M) : T_X11_part_69 Q M v1 v2 v3 v4 v5 v6 := by
  unfold T_X11_part_69 T_X11_part_70; exact qt rfl h
theorem step_part : st_part RR := by
  intro M N h v1 v2 v3 v4 v5 v6
  unfold T_X10_part T_X11_part
  refine gd_isSignal (fun n1 => p69 (gn_isSignal (fun _ => n69 ⟨rfl, h⟩) (fun q => absurd q n1))) (fun s hs es => ?_)
  have p1 : 0 ≤ v1 ∧ v1 ≤ 3 := by rw [es]; exact v_n (n := 3) (by omega) (by omega)
  refine gd_within (fun n2 => p69 (gn_isSignal (fun q => absurd p1 q) (fun _ => gd_in (fun _ => n69 ⟨rfl, h⟩) (fun q => absurd q n2)))) (fun p2 => ?_)
  refine gd_within (fun n3 => p69 (gn_isSignal (fun q => absurd p1 q) (fun _ => gd_in (fun q => absurd p2 q) (fun _ => gd_in (fun _ => n69 ⟨rfl, h⟩) (fun q => absurd q n3))))) (fun p3 => ?_)
  refine gd_within (fun n4 => p69 (gn_isSignal (fun q => absurd p1 q) (fun _ => gd_in (fun q => absurd p2 q) (fun _ => gd_in (fun q => absurd p3 q) (fun _ => gd_in (fun _ => n69 ⟨rfl, h⟩) (fun q => absurd q n4)))))) (fun p4 => ?_)
  refine gd_within (fun n5 => p69 (gn_isSignal (fun q => absurd p1 q) (fun _ => gd_in (fun q => absurd p2 q) (fun _ => gd_in (fun q => absurd p3 q) (fun _ => gd_in (fun q => absurd p4 q) (fun _ => gd_in (fun _ => n69 ⟨rfl, h⟩) (fun q => absurd q n5))))))) (fun p5 => ?_)
  refine gd_within (fun n6 => p69 (gn_isSignal (fun q => absurd p1 q) (fun _ => gd_in (fun q => absurd p2 q) (fun _ => gd_in (fun q => absurd p3 q) (fun _ => gd_in (fun q => absurd p4 q) (fun _ => gd_in (fun q => absurd p5 q) (fun _ => gd_in (fun _ => n69 ⟨rfl, h⟩) (fun q => absurd q n6)))))))) (fun p6 => ?_)
  subst es
  have hR := h.1.1
  have hok := h.1.2.1
  obtain ⟨c6, ec⟩ := okN hok hs
  obtain ⟨e1, e2⟩ := hR.2.2.2 s hs
  simp only [Nat.mul_zero, Nat.zero_add, Nat.add_zero] at e1 e2
  have go : ∀ {P : Int32 → gx_M → Prop}, T_X11_part_70 P N 1 (nI s) v2 v3 v4 v5 v6 → T_X11_part N (nI s) v2 v3 v4 v5 v6 P := fun z => by
    unfold T_X11_part
    exact gn_isSignal (fun q => absurd p1 q) (fun _ => gd_in (fun q => absurd p2 q) (fun _ => gd_in (fun q => absurd p3 q) (fun _ => gd_in (fun q => absurd p4 q) (fun _ => gd_in (fun q => absurd p5 q) (fun _ => gd_in (fun q => absurd p6 q) (fun _ => z))))))
  unfold T_X10_part_70
  refine qf (by decide) ⟨vp_in_nI hs (by omega), ?_⟩
  rw [nI_clamp (by omega), e1, ec]
  generalize hn : (N 1 (24 + s)).toNatClampNeg = n at c6 ec e2
  refine qc (fun lt => ⟨vp_in_nI hs (by omega), ?_⟩) (fun ge => ?_)
  · have lt : n < 6 := (nI_ltI (b := 6) (by omega) (by omega)).mp lt
    unfold T_X9_add
    rw [e1, ec]
    have hw : (0 : Int32) ≤ nI n ∧ nI n ≤ 6 - 1 := ⟨nI_pos' (by omega), show nI n ≤ nI 5 from nI_le (by omega) (by omega)⟩
    refine gd_within (fun q => absurd hw q) (fun _ => ⟨vp_in_nI lt (by omega), ?_⟩)
    have ei : (nI n).toNatClampNeg + 6 * (42 + s) - 190 = 62 + 6 * s + n := by rw [nI_clamp (by omega)]; omega
    rw [ei]
    unfold T_X3_set T_X1_forget
    rintro _ rfl _ rfl _ rfl _ rfl _ rfl _ rfl _ rfl
    refine ⟨vp_in_nI hs (by omega), go ?_⟩
    unfold T_X11_part_70
    refine qf (by decide) ?_
    simp (disch := omega) only [lit, nI_add, nI_clamp, vp_in_nI, true_and, ec, pk_mul]
    refine qf (fun e => absurd ((nI_eq (by omega) (by omega)).mp e) (by omega)) ?_
    refine nm_e ?_
    simp (disch := omega) only [nI_add, nI_clamp, vp_in_nI, true_and]
    rintro _ rfl _ rfl _ rfl _ rfl _ rfl _ rfl
    obtain ⟨r1, q1⟩ := h.n.new (s := s) (n := n) (j := 0) (x := v2) hs (by omega) lt (by omega)
    obtain ⟨r2, q2⟩ := r1.new (s := s) (n := n) (j := 1) (x := v3) hs (by rw [q1]; omega) lt (by omega)
    obtain ⟨r3, q3⟩ := r2.new (s := s) (n := n) (j := 2) (x := v4) hs (by rw [q2, q1]; omega) lt (by omega)
    obtain ⟨r4, q4⟩ := r3.new (s := s) (n := n) (j := 3) (x := v5) hs (by rw [q3, q2, q1]; omega) lt (by omega)
    obtain ⟨r5, q5⟩ := r4.new (s := s) (n := n) (j := 4) (x := v6) hs (by rw [q4, q3, q2, q1]; omega) lt (by omega)
    have qq := q5.trans (q4.trans (q3.trans (q2.trans q1)))
    have em : gx_up (gx_up (gx_up (gx_up (gx_up M (62 + 6 * s + n) 0 v2) (62 + 6 * s + n) 1 v3) (62 + 6 * s + n) 2 v4) (62 + 6 * s + n) 3 v5) (62 + 6 * s + n) 4 v6 (42 + s) 1 = nI n := by
      rw [gu_ne (by omega), gu_ne (by omega), gu_ne (by omega), gu_ne (by omega), gu_ne (by omega), e1, ec]
    rw [em, qq, ec, nI_add]
    have hR5 := r5.1.1
    obtain ⟨-, d2⟩ := hR5.2.2.2 s hs
    rw [qq, hn] at d2
    simp only [Nat.mul_zero, Nat.zero_add] at d2
    have ok5 := ((r5.1.2).2.2.1 s hs).2
    rw [qq, hn] at ok5
    refine ⟨?_, RRn.forget (r5.rest (i := 24 + s) (o := 42 + s) (j := 1) (by omega) (by omega) (RS_cnt hR5 r5.1.2 hs (fun k hk j hj => ?_) ?_) (okA_cnt r5.1.2 hs ⟨nI_pos' (by omega), show nI (n + 1) ≤ nI 6 from nI_le (by omega) (by omega)⟩ (fun k hk => ?_)))⟩
    · rw [gu_ne (by omega), gu_eq, ub_eq, gu_eq, ub_eq]
    · rw [nI_clamp (by omega)] at hk
      by_cases e : k = n
      · subst e
        simp only [gu_at]
        match j, hj with
        | 0, _ => simp
        | 1, _ => simp
        | 2, _ => simp
        | 3, _ => simp
        | 4, _ => simp
      · exact d2 k (by omega) j hj
    · rw [nI_clamp (by omega)]; omega
    · rw [nI_clamp (by omega)] at hk
      by_cases e : k = n
      · subst e
        simp only [gu_at]
        simp
        exact ⟨p2, p3, p4, p5, p6⟩
      · exact ok5 k (by omega)
  · have ge : ¬ n < 6 := fun q => ge (nI_lt (b := 6) q (by omega))
    obtain rfl : n = 6 := by omega
    refine go ?_
    unfold T_X11_part_70
    refine qf (by decide) ?_
    simp (disch := omega) only [lit, nI_add, nI_clamp, vp_in_nI, true_and, ec, pk_mul]
    exact qt trivial h
