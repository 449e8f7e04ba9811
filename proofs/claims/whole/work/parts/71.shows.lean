/-! glow, lit, shoot -/
theorem q_SL_bd {a : Nat → Int32} {G : List (Bool × List Int32)} : ∀ m t ready k b, b ∈ q_SL a G m t ready k → b ≤ t + m + (a 3).toNatClampNeg := by
  intro m
  induction m with
  | zero => intro t ready k b h; exact absurd h (by rw [q_SL_0]; simp)
  | succ m ih =>
    intro t ready k b h
    by_cases c : t < ready
    · rw [q_SL_lt c] at h; have := ih _ _ _ _ h; omega
    · cases ht : q_tr a G t ready k with
      | false => rw [q_SL_no c ht] at h; have := ih _ _ _ _ h; omega
      | true =>
        rw [q_SL_yes c ht, List.mem_cons] at h
        rcases h with h | h
        · omega
        · have := ih _ _ _ _ h; omega
theorem FrD.fn {N N' : gx_M} (h : FrD N N') : FN N N' := ⟨fun o _ _ _ _ _ a _ _ => h o a, fun j _ _ _ => by rw [h 0 (by decide)]⟩
theorem n_shows {N : gx_M} {G : List (Bool × List Int32)} {e : Nat} {Q : gx_M → Prop} (hok : okA (N 1)) (hp : q_rc N (N 1 1) G) (hg : q_wf G) (he : e ≤ 2000)
    (h : ∀ N' : gx_M, FN N N' → N' 1 = N 1 → (∀ d, d < 320 → N' 21 d = q_G (N 1) G e d) → Q N') : T_X11_shows N (nI e) Q := by
  unfold T_X11_shows
  refine n_swp hok hp hg he (fun N2 f1 f2 f3 f4 f5 f6 => ?_)
  have p3 := (okP hok).2.1
  refine n_draws (by rw [f2]; exact hok) he f3 f4 f5 (fun b hb => by have := q_SL_bd _ _ _ _ _ hb; omega) (fun c hc t ht => by rw [f2]; exact f6 c hc t ht) (fun N3 g1 g2 => ?_)
  rw [f2] at g2
  exact h N3 (f1.tr g1.fn) ((g1 1 (by decide)).trans f2) g2
theorem s_glowOf {M : gx_M} {g : Nat → Int32} {c r : Nat} {Q : Int32 → Prop} (hc : c < 20) (hr : r < 16) (hg : ∀ d, d < 320 → M 9 d = g d) (h : Q (g (16 * c + r))) : T_X7_glowOf M (nI c) (nI r) Q := by
  unfold T_X7_glowOf
  have w1 : (0 : Int32) ≤ nI c ∧ nI c ≤ 19 := v_n (n := 19) (by omega) (by omega)
  have w2 : (0 : Int32) ≤ nI r ∧ nI r ≤ 15 := v_n (n := 15) (by omega) (by omega)
  refine gd_within (fun q => absurd w1 q) (fun _ => gd_within (fun q => absurd w2 q) (fun _ => ?_))
  unfold T_X7_glowOf_25
  have e : nI c * 16 + nI r = nI (16 * c + r) := by
    rw [show nI c * (16 : Int32) = nI (c * 16) from pk_mul c 16, nI_add, Nat.mul_comm]
  refine qf (by decide) ?_
  rw [e]
  refine ⟨vp_in_nI (by omega) (by omega), ?_⟩
  rw [nI_clamp (by omega), hg _ (by omega)]; exact h
theorem step_glow : st_glow RR := by
  intro M N h v1 v2 v3
  unfold T_X10_glow T_X11_glow
  refine gd_isSpan (fun n1 => gn_isEnd (fun _ => ⟨rfl, h⟩) (fun q => absurd q n1)) (fun e e1 e2 ee => ?_)
  subst ee
  have p1 := v_1 e1 e2
  refine gd_within (fun n2 => gn_isEnd (fun q => absurd p1 q) (fun _ => gd_in (fun _ => ⟨rfl, h⟩) (fun q => absurd q n2))) (fun p2 => ?_)
  refine gd_within (fun n3 => gn_isEnd (fun q => absurd p1 q) (fun _ => gd_in (fun q => absurd p2 q) (fun _ => gd_in (fun _ => ⟨rfl, h⟩) (fun q => absurd q n3)))) (fun p3 => ?_)
  obtain ⟨c, hc, rfl⟩ := w_nI 19 (by omega) p2
  obtain ⟨r, hr, rfl⟩ := w_nI 15 (by omega) p3
  obtain ⟨G, hC, hrc⟩ := h.cur
  refine s_draw hC e1 e2 (fun M' f1 C1 g1 => s_glowOf (by omega) (by omega) g1 ?_)
  refine gn_isEnd (fun q => absurd p1 q) (fun _ => gd_in (fun q => absurd p2 q) (fun _ => gd_in (fun q => absurd p3 q) (fun _ => ?_)))
  refine n_shows h.1.2.1 hrc hC.2.2.2.2 e2 (fun N' k1 k2 k3 => ?_)
  have e4 : (16 : Int32) * nI c + nI r = nI (16 * c + r) := by rw [show (16 : Int32) * nI c = nI (16 * c) from pk_mul 16 c, nI_add]
  rw [e4]
  refine ⟨vp_in_nI (by omega) (by omega), ?_, h.frame f1.fc k1 C1.2.2.1⟩
  rw [nI_clamp (by omega), k3 _ (by omega)]
theorem step_lit : st_lit RR := by
  intro M N h v1 v2 v3
  have no : (¬ (1 ≤ v1 ∧ v1 ≤ 2000) ∨ ¬ (1 ≤ v2 ∧ v2 ≤ 999) ∨ ¬ (-1 ≤ v3 ∧ v3 ≤ 19)) → T_X11_lit N v1 v2 v3 (fun r2 N1 => -1 = r2 ∧ RR M N1) := fun z => by
    unfold T_X11_lit
    exact gn_isEnd (fun _ => ⟨rfl, h⟩) (fun q1 => gn_isLight (fun _ => ⟨rfl, h⟩) (fun q2 => gd_in (fun _ => ⟨rfl, h⟩) (fun q3 => absurd z (by rintro (a | a | a); exact a q1; exact a q2; exact a q3))))
  unfold T_X10_lit
  refine gd_isSpan (fun n1 => no (Or.inl n1)) (fun e e1 e2 ee => ?_)
  subst ee
  have p1 := v_1 e1 e2
  refine gd_within (fun n2 => no (Or.inr (Or.inl n2))) (fun p2 => ?_)
  refine gd_within (fun n3 => no (Or.inr (Or.inr n3))) (fun p3 => ?_)
  obtain ⟨G, hC, hrc⟩ := h.cur
  refine s_draw hC e1 e2 (fun M' f1 C1 g1 => ?_)
  have go : ∀ x : Int32, (∀ N' : gx_M, (∀ d, d < 320 → N' 21 d = q_G (N 1) G e d) → ∀ P : Int32 → Prop, P x → (if v3 = -1 then T_X11_dots N' v2 P else T_X11_rowsOf N' v3 v2 P)) → T_X11_lit N (nI e) v2 v3 (fun r2 N1 => x = r2 ∧ RR M' N1) := by
    intro x hx
    unfold T_X11_lit
    refine gn_isEnd (fun q => absurd p1 q) (fun _ => gn_isLight (fun q => absurd p2 q) (fun _ => gd_in (fun q => absurd p3 q) (fun _ => ?_)))
    refine n_shows h.1.2.1 hrc hC.2.2.2.2 e2 (fun N' k1 k2 k3 => ?_)
    exact hx N' k3 (fun r => x = r ∧ RR M' N') ⟨rfl, h.frame f1.fc k1 C1.2.2.1⟩
  refine qc (fun c => s_dots g1 (go _ (fun N' k3 P hP => qt c (n_dots k3 hP)))) (fun c => ?_)
  have p4 : 0 ≤ v3 ∧ v3 ≤ 19 := by
    refine ⟨Int32.le_iff_toInt_le.mpr ?_, p3.2⟩
    have q1 := il p3.1
    rw [show (-1 : Int32).toInt = -1 from rfl] at q1
    rw [show (0 : Int32).toInt = 0 from rfl]
    have : v3.toInt ≠ -1 := fun z => c (Int32.toInt_inj.mp z)
    omega
  obtain ⟨k, hk, rfl⟩ := w_nI 19 (by omega) p4
  exact s_bits (by omega) g1 (go _ (fun N' k3 P hP => qf c (n_rowsOf (by omega) k3 hP)))
/-- the photograph changes on both sides -/
theorem RRn.photo {M M' N N' : gx_M} {x : Nat → Int32} (h : RRn M N) (hx : ∀ c, c < 20 → 0 ≤ x c ∧ x c ≤ 65535) (hM : ∀ o, o ≠ 40 → M' o = M o) (hM4 : ∀ c, c < 20 → M' 40 c = x c) (hN : ∀ o, o ≠ 1 → N' o = N o) (hN1 : ∀ r, r < 150 → N' 1 r = N 1 r) (hN2 : ∀ c, c < 20 → N' 1 (150 + c) = x c) : RRn M' N' := by
  obtain ⟨⟨hR, hok⟩, ⟨r1, r2, r3⟩, ⟨t1, t2, t3⟩, tx⟩ := h
  have hok0 := hok
  obtain ⟨⟨h1, h2, h3⟩, h4, h5, h6⟩ := hR
  obtain ⟨o1, o2, o3, o4⟩ := hok
  refine ⟨⟨⟨⟨fun j hj => by rw [hM _ (by omega), hN1 _ (by omega)]; exact h1 j hj, by rw [hM _ (by omega), hN1 _ (by omega)]; exact h2, by rw [hM _ (by omega), hN1 _ (by omega)]; exact h3⟩, fun c hc => by rw [hN2 c hc]; exact hM4 c hc, fun c hc => ?_, fun s hs => ?_⟩, ⟨?_, fun c hc => ?_, fun s hs => ?_, fun c hc => by rw [hN2 c hc]; exact hx c hc⟩⟩, ⟨?_, ?_, ?_⟩, ⟨?_, ?_, ?_⟩, ?_⟩
  · rw [hM _ (by omega), hN1 _ (by omega), hN1 _ (by omega), hN1 _ (by omega), hN1 _ (by omega), hN1 _ (by omega), hN1 _ (by omega)]; exact h5 c hc
  · have k6 := (okN hok0 hs).1
    rw [hM _ (by omega), hN1 (24 + s) (by omega)]
    refine ⟨(h6 s hs).1, fun k hk j hj => ?_⟩
    rw [hM _ (by omega), hN1 _ (by omega)]; exact (h6 s hs).2 k hk j hj
  · rw [hN1 0 (by omega), hN1 1 (by omega), hN1 2 (by omega), hN1 3 (by omega), hN1 4 (by omega), hN1 5 (by omega), hN1 6 (by omega)]; exact o1
  · rw [hN1 _ (by omega), hN1 _ (by omega), hN1 _ (by omega), hN1 _ (by omega), hN1 _ (by omega), hN1 _ (by omega)]; exact o2 c hc
  · have k6 := (okN hok0 hs).1
    rw [hN1 (24 + s) (by omega)]
    refine ⟨(o3 s hs).1, fun k hk => ?_⟩
    rw [hN1 _ (by omega), hN1 _ (by omega), hN1 _ (by omega), hN1 _ (by omega), hN1 _ (by omega)]; exact (o3 s hs).2 k hk
  · rw [hN 2 (by omega)]; exact r1.kept1 r2 (fun o ho => hM o (by omega))
  · rw [hN 2 (by omega)]; exact r2
  · rw [hN 2 (by omega), hN1 0 (by omega)]; exact r3
  · exact t1.kept (by rw [hM 0 (by omega)]) (by rw [hN 0 (by omega)]) (hM 6 (by omega)) (hN 3 (by omega))
  · rw [hM 0 (by omega), hN 0 (by omega)]; exact t2
  · rw [hM 0 (by omega), hN 0 (by omega)]; exact t3
  · exact tx.kept hok0 (fun q q1 q2 => hM q (by omega)) (fun o q1 q2 => hN o (by omega)) (hN1 0 (by omega))
theorem s_copyBits {M : gx_M} {g : Nat → Int32} {n : Int32} {o : Nat} {Q : gx_M → Prop} (ho : o ≠ 9) (hg : ∀ d, d < 320 → M 9 d = g d) (h : ∀ M' : gx_M, (∀ q, q ≠ o → M' q = M q) → (∀ c, c < 20 → M' o c = nI (q_rows g n c)) → Q M') : T_X10_copyBits M o n Q := by
  have key : ∀ m c (M' : gx_M), c + m = 20 → (∀ q, q ≠ o → M' q = M q) → (∀ c', c' < c → M' o c' = nI (q_rows g n c')) → T_X10_copyBits_2 Q (m + 1) M' n o (nI c) := by
    intro m
    induction m with
    | zero =>
      intro c M' hc hf h1
      obtain rfl : c = 20 := by omega
      unfold T_X10_copyBits_2
      exact qt (show nI 20 ≤ nI 20 from nI_le (by omega) (by omega)) (h M' hf h1)
    | succ m ih =>
      intro c M' hc hf h1
      unfold T_X10_copyBits_2
      refine qf (show ¬ nI 20 ≤ nI c from nI_ge (by omega) (by omega)) (s_bits (g := g) (by omega) (fun d hd => by rw [hf 9 (Ne.symm ho)]; exact hg d hd) ⟨vp_in_nI (by omega) (by omega), ?_⟩)
      rintro _ rfl _ rfl
      rw [nI_1, nI_clamp (by omega)]
      refine ih (c + 1) _ (by omega) (fun q hq => by rw [gu_ne hq]; exact hf q hq) (fun c' hc' => ?_)
      rw [gu_eq]
      by_cases e : c' = c
      · subst e; rw [ub_eq]
      · rw [ub_ne e]; exact h1 c' (by omega)
  exact ⟨21, key 20 0 M (by omega) (fun _ _ => rfl) (fun c' hc' => absurd hc' (Nat.not_lt_zero _))⟩
theorem step_shoot : st_shoot RR := by
  intro M N h v1 v2
  unfold T_X10_shoot T_X11_shoot
  refine gd_isSpan (fun n1 => gn_isEnd (fun _ => ⟨rfl, h⟩) (fun q => absurd q n1)) (fun e e1 e2 ee => ?_)
  subst ee
  have p1 := v_1 e1 e2
  refine gd_within (fun n2 => gn_isEnd (fun q => absurd p1 q) (fun _ => gn_isLight (fun _ => ⟨rfl, h⟩) (fun q => absurd q n2))) (fun p2 => ?_)
  obtain ⟨G, hC, hrc⟩ := h.cur
  refine s_draw hC e1 e2 (fun M' f1 C1 g1 => s_copyBits (by decide) g1 (fun M2 f2 g2 => s_dots (g := q_G (N 1) G e) (fun d hd => by rw [f2 9 (by decide)]; exact g1 d hd) ?_))
  refine gn_isEnd (fun q => absurd p1 q) (fun _ => gn_isLight (fun q => absurd p2 q) (fun _ => ?_))
  refine n_shows h.1.2.1 hrc hC.2.2.2.2 e2 (fun N' k1 k2 k3 => ?_)
  have key : ∀ m c (N2 : gx_M), c + m = 20 → (∀ o, o ≠ 1 → N2 o = N' o) → (∀ r, r < 150 → N2 1 r = N 1 r) → (∀ c', c' < c → N2 1 (150 + c') = nI (q_rows (q_G (N 1) G e) v2 c')) → T_X11_shoot_23 (fun r2 N1 => nI (q_cnt (q_on (q_G (N 1) G e) v2) 320) = r2 ∧ RR M2 N1) (fun M12 v2_11 => T_X11_dots M12 v2_11 (fun r13 => nI (q_cnt (q_on (q_G (N 1) G e) v2) 320) = r13 ∧ RR M2 M12)) (m + 1) N2 v2 (nI c) := by
    intro m
    induction m with
    | zero =>
      intro c N2 hc hf h1 h2
      obtain rfl : c = 20 := by omega
      unfold T_X11_shoot_23
      refine qt (show nI 20 ≤ nI 20 from nI_le (by omega) (by omega)) (n_dots (g := q_G (N 1) G e) (fun d hd => by rw [hf 21 (by decide)]; exact k3 d hd) ⟨rfl, ?_⟩)
      have hn := (h.n.frame f1.fc k1)
      refine (hn.photo (x := fun c => nI (q_rows (q_G (N 1) G e) v2 c)) (fun c hc => ?_) f2 g2 hf (fun r hr => by rw [k2]; exact h1 r hr) h2).c ?_
      · have := q_rows_lt (q_G (N 1) G e) v2 c
        exact v_n (n := 65535) (by omega) (by omega)
      · refine ((C1.2.2.1.cong h.1.2.1 (a' := N2 1) (fun r hr => h1 r (by omega))).kept ?_ ?_ ?_)
        · rw [f2 1 (by decide)]
        · exact f2 13 (by decide)
        · exact f2 14 (by decide)
    | succ m ih =>
      intro c N2 hc hf h1 h2
      unfold T_X11_shoot_23
      refine qf (show ¬ nI 20 ≤ nI c from nI_ge (by omega) (by omega)) (n_rowsOf (g := q_G (N 1) G e) (by omega) (fun d hd => by rw [hf 21 (by decide)]; exact k3 d hd) ?_)
      rw [show (150 : Int32) + nI c = nI (150 + c) from nI_add 150 c]
      refine ⟨vp_in_nI (by omega) (by omega), ?_⟩
      rintro _ rfl _ rfl
      rw [nI_1, nI_clamp (by omega)]
      refine ih (c + 1) _ (by omega) (fun o ho => by rw [gu_ne ho]; exact hf o ho) (fun r hr => by rw [gu_eq, ub_ne (by omega)]; exact h1 r hr) (fun c' hc' => ?_)
      rw [gu_eq]
      by_cases z : c' = c
      · subst z; rw [ub_eq]
      · rw [ub_ne (by omega)]; exact h2 c' (by omega)
  exact ⟨21, key 20 0 N' (by omega) (fun _ _ => rfl) (fun r hr => by rw [k2]) (fun c' hc' => absurd hc' (Nat.not_lt_zero _))⟩
