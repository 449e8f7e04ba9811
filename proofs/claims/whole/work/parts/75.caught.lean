/-! caught -/
theorem RS_from {a : Nat → Int32} {M : gx_M} {sig n : Nat} {x : Int32} (h : RS 0 a M) (hok : okA a) (hs : sig < 4) (hn : n < (a (24 + sig)).toNatClampNeg) : RS 0 (upd a (30 + 30 * sig + 5 * n + 4) x) (gx_up M (62 + 6 * sig + n) 4 x) := by
  have c6 := (okN hok hs).1
  obtain ⟨⟨h1, h2, h3⟩, h4, h5, h6⟩ := h
  have H : ∀ (q k r : Nat), M q k = a r → ((q = 62 + 6 * sig + n ∧ k = 4) ↔ r = 30 + 30 * sig + 5 * n + 4) → gx_up M (62 + 6 * sig + n) 4 x q k = upd a (30 + 30 * sig + 5 * n + 4) x r := fun q k r e f => up2 e f
  refine ⟨⟨fun k hk => H _ _ _ (h1 k hk) (by omega), H _ _ _ h2 (by omega), H _ _ _ h3 (by omega)⟩, fun c hc => H _ _ _ (h4 c hc) (by omega), fun c hc => ?_, fun s' hs' => ?_⟩
  · obtain ⟨g0, g1, g2, g3, g4, g5⟩ := h5 c hc
    exact ⟨H _ _ _ g0 (by omega), H _ _ _ g1 (by omega), H _ _ _ g2 (by omega), H _ _ _ g3 (by omega), H _ _ _ g4 (by omega), H _ _ _ g5 (by omega)⟩
  · obtain ⟨g1, g2⟩ := h6 s' hs'
    have k6 := (okN hok hs').1
    have es : upd a (30 + 30 * sig + 5 * n + 4) x (24 + s') = a (24 + s') := ub_ne (by omega)
    refine ⟨H _ _ _ g1 (by omega), fun k hk j' hj' => ?_⟩
    rw [es] at hk
    exact H _ _ _ (g2 k hk j' hj') (by omega)
theorem okA_from {a : Nat → Int32} {sig n : Nat} {x : Int32} (h : okA a) (hs : sig < 4) (hn : n < 6) (hx : 0 ≤ x ∧ x ≤ 1999) : okA (upd a (30 + 30 * sig + 5 * n + 4) x) := by
  have H : ∀ r : Nat, r ≠ 30 + 30 * sig + 5 * n + 4 → upd a (30 + 30 * sig + 5 * n + 4) x r = a r := fun r g => ub_ne g
  have hok := h
  obtain ⟨⟨h0, h1, h2, h3, h4, h5, h6'⟩, hc, hss, hp⟩ := h
  refine ⟨by rw [H 0 (by omega), H 1 (by omega), H 2 (by omega), H 3 (by omega), H 4 (by omega), H 5 (by omega), H 6 (by omega)]; exact ⟨h0, h1, h2, h3, h4, h5, h6'⟩, fun c c2 => by rw [H (10 + c) (by omega), H (12 + c) (by omega), H (14 + c) (by omega), H (16 + c) (by omega), H (18 + c) (by omega), H (20 + c) (by omega)]; exact hc c c2, fun s' hs' => ?_, fun c c2 => by rw [H (150 + c) (by omega)]; exact hp c c2⟩
  obtain ⟨a1, a2⟩ := hss s' hs'
  rw [H (24 + s') (by omega)]
  refine ⟨a1, fun k hk => ?_⟩
  have k6 := (okN hok hs').1
  obtain ⟨b1, b2, b3, b4, b5⟩ := a2 k hk
  rw [H (30 + 30 * s' + 5 * k) (by omega), H (30 + 30 * s' + 5 * k + 1) (by omega), H (30 + 30 * s' + 5 * k + 2) (by omega), H (30 + 30 * s' + 5 * k + 3) (by omega)]
  exact ⟨b1, b2, b3, b4, up1 (P := fun z => 0 ≤ z ∧ z ≤ 1999) b5 (fun _ => hx)⟩
def q_cg (a : Nat → Int32) (G : List (Bool × List Int32)) (sig : Int32) (at_ e : Nat) : Nat → Nat → Int32 → Int32
  | 0, _, n => n
  | m + 1, f, n => q_cg a G sig at_ e m (f + 1) (if q_cat (upd a (at_ + 4) (nI f)) G sig at_ e = true then n + 1 else n)
theorem s_caughtL {M : gx_M} {a : Nat → Int32} {G : List (Bool × List Int32)} {sig n e p : Nat} {Q : Int32 → gx_M → Prop} (hC : q_core a G M) (hsig : sig < 4) (hn : n < (a (24 + sig)).toNatClampNeg) (he : e ≤ 2000) (hp5 : p ≤ 500) (hp : a (30 + 30 * sig + 5 * n + 2) = nI p)
    (h : ∀ M' : gx_M, FC M M' → q_cache a M' → Q (q_cg a G (nI sig) (30 + 30 * sig + 5 * n) e p 0 0) M') : ∃ k20, T_X10_caught_92 Q (fun M24 o4_21 v5_22 v6_23 => ∀ M25, M25 = gx_up M24 o4_21 4 v5_22 → T_X1_forget M25 (fun M26 => Q v6_23 M26)) k20 M (nI sig) (nI e) (62 + 6 * sig + n) (a (30 + 30 * sig + 5 * n + 4)) 0 0 := by
  have hok := hC.2.1
  obtain ⟨c6, ec⟩ := okN hok hsig
  have P : ∀ j, j < 5 → M (62 + 6 * sig + n) j = a (30 + 30 * sig + 5 * n + j) := fun j hj => by
    have := (hC.1.2.2.2 sig hsig).2 n hn j hj
    simp only [Nat.mul_zero, Nat.zero_add] at this
    exact this
  have key : ∀ m f (cnt : Int32) (M' : gx_M), f + m = p → (∀ q, q ≠ 1 → q ≠ 2 → q ≠ 3 → q ≠ 13 → q ≠ 14 → q ≠ 62 + 6 * sig + n → M' q = M q) → (∀ j, j ≠ 4 → M' (62 + 6 * sig + n) j = M (62 + 6 * sig + n) j) → q_cg a G (nI sig) (30 + 30 * sig + 5 * n) e p 0 0 = q_cg a G (nI sig) (30 + 30 * sig + 5 * n) e m f cnt → T_X10_caught_92 Q (fun M24 o4_21 v5_22 v6_23 => ∀ M25, M25 = gx_up M24 o4_21 4 v5_22 → T_X1_forget M25 (fun M26 => Q v6_23 M26)) (m + 1) M' (nI sig) (nI e) (62 + 6 * sig + n) (a (30 + 30 * sig + 5 * n + 4)) cnt (nI f) := by
    intro m
    induction m with
    | zero =>
      intro f cnt M' hf hF1 hF2 hq
      unfold T_X10_caught_92 T_X1_forget
      rw [hF2 2 (by decide), P 2 (by omega), hp]
      refine qt (nI_le (by omega) (by omega)) ?_
      rintro _ rfl _ rfl
      have eq0 : q_cg a G (nI sig) (30 + 30 * sig + 5 * n) e 0 f cnt = cnt := rfl
      rw [eq0] at hq
      rw [← hq]
      refine h _ (fun o a1 a2 a3 _ _ _ a7 a8 _ => ?_) (q_cacheL.none (by rw [gu_eq, ub_eq]))
      rw [gu_ne a1]
      by_cases z : o = 62 + 6 * sig + n
      · subst z
        rw [gu_eq]
        funext j
        by_cases y : j = 4
        · subst y; rw [ub_eq, P 4 (by omega)]
        · rw [ub_ne y]; exact hF2 j y
      · rw [gu_ne z]; exact hF1 o a1 a2 a3 a7 a8 z
    | succ m ih =>
      intro f cnt M' hf hF1 hF2 hq
      have hx : (0 : Int32) ≤ nI f ∧ nI f ≤ 1999 := v_n (n := 1999) (by omega) (by omega)
      have okf := okA_from hok hsig (n := n) (by omega) hx
      unfold T_X10_caught_92 T_X1_forget
      rw [hF2 2 (by decide), P 2 (by omega), hp]
      refine qf (nI_ge (by omega) (by omega)) ?_
      rintro _ rfl _ rfl
      have RSf : RS 0 (upd a (30 + 30 * sig + 5 * n + 4) (nI f)) (gx_up (gx_up M' (62 + 6 * sig + n) 4 (nI f)) 1 5 0) := by
        refine (RS_from hC.1 hok hsig hn (x := nI f)).kept0 okf (fun o ho => ?_)
        rw [gu_ne (by omega)]
        by_cases z : o = 62 + 6 * sig + n
        · subst z
          rw [gu_eq, gu_eq]
          funext j
          by_cases y : j = 4
          · subst y; rw [ub_eq, ub_eq]
          · rw [ub_ne y, ub_ne y]; exact hF2 j y
        · rw [gu_ne z, gu_ne z]; exact hF1 o (by omega) (by omega) (by omega) (by omega) (by omega) z
      have Cf : q_core (upd a (30 + 30 * sig + 5 * n + 4) (nI f)) G (gx_up (gx_up M' (62 + 6 * sig + n) 4 (nI f)) 1 5 0) := by
        refine ⟨RSf, okf, q_cacheL.none (by rw [gu_eq, ub_eq]), ?_, hC.2.2.2.2⟩
        rw [ub_ne (show 1 ≠ 30 + 30 * sig + 5 * n + 4 by omega)]
        exact hC.2.2.2.1.kept (fun q h1 h2 => by rw [gu_ne (by omega), gu_ne (by omega)]; exact hF1 q (by omega) (by omega) (by omega) (by omega) (by omega) (by omega))
      refine s_catches Cf hsig (by rw [ub_ne (show 24 + sig ≠ 30 + 30 * sig + 5 * n + 4 by omega)]; exact hn) he (fun M16 f16 C16 => ?_)
      have eq1 : q_cg a G (nI sig) (30 + 30 * sig + 5 * n) e (m + 1) f cnt = q_cg a G (nI sig) (30 + 30 * sig + 5 * n) e m (f + 1) (if q_cat (upd a (30 + 30 * sig + 5 * n + 4) (nI f)) G (nI sig) (30 + 30 * sig + 5 * n) e = true then cnt + 1 else cnt) := rfl
      rw [eq1] at hq
      have g1 : ∀ q, q ≠ 1 → q ≠ 2 → q ≠ 3 → q ≠ 13 → q ≠ 14 → q ≠ 62 + 6 * sig + n → M16 q = M q := fun q b1 b2 b3 b4 b5 b6 => by
        rw [f16 q b1 b2 b3 b4 b5, gu_ne b1, gu_ne b6]; exact hF1 q b1 b2 b3 b4 b5 b6
      have g2 : ∀ j, j ≠ 4 → M16 (62 + 6 * sig + n) j = M (62 + 6 * sig + n) j := fun j hj => by
        rw [f16 (62 + 6 * sig + n) (by omega) (by omega) (by omega) (by omega) (by omega), gu_ne (by omega), gu_eq, ub_ne hj]; exact hF2 j hj
      unfold T_X10_caught_133
      cases hb : q_cat (upd a (30 + 30 * sig + 5 * n + 4) (nI f)) G (nI sig) (30 + 30 * sig + 5 * n) e with
      | false =>
        rw [hb, if_neg (by decide)] at hq
        refine qt rfl ?_
        rintro _ rfl
        rw [nI_1]
        exact ih (f + 1) cnt M16 (by omega) g1 g2 hq
      | true =>
        rw [hb, if_pos rfl] at hq
        refine qf (by decide) ?_
        rintro _ rfl _ rfl
        rw [nI_1]
        exact ih (f + 1) (cnt + 1) M16 (by omega) g1 g2 hq
  exact ⟨p + 1, key p 0 0 M (by omega) (fun _ _ _ _ _ _ _ => rfl) (fun _ _ => rfl) rfl⟩
theorem n_caughtL {N : gx_M} {G : List (Bool × List Int32)} {sig n e p : Nat} {Q : Int32 → gx_M → Prop} (hok : okA (N 1)) (hrc : q_rc N (N 1 1) G) (hg : q_wf G) (hsig : sig < 4) (hn : n < (N 1 (24 + sig)).toNatClampNeg) (he : e ≤ 2000) (hp5 : p ≤ 500) (hp : N 1 (30 + 30 * sig + 5 * n + 2) = nI p)
    (h : ∀ N' : gx_M, FN N N' → Q (q_cg (N 1) G (nI sig) (30 + 30 * sig + 5 * n) e p 0 0) N') : ∃ k, T_X11_caught_80 Q k N (nI sig) (nI e) (nI (30 + 30 * sig + 5 * n)) (N 1 (30 + 30 * sig + 5 * n + 4)) 0 0 := by
  obtain ⟨c6, ec⟩ := okN hok hsig
  have e2 : nI (30 + 30 * sig + 5 * n) + 2 = nI (30 + 30 * sig + 5 * n + 2) := nI_add _ 2
  have e4 : nI (30 + 30 * sig + 5 * n) + 4 = nI (30 + 30 * sig + 5 * n + 4) := nI_add _ 4
  have key : ∀ m f (cnt : Int32) (N' : gx_M), f + m = p → (∀ o, o ≠ 0 → o ≠ 1 → o ≠ 9 → o ≠ 18 → o ≠ 19 → o ≠ 20 → o ≠ 21 → o ≠ 22 → o ≠ 23 → N' o = N o) → (∀ j, j ≠ 35 → j ≠ 39 → j ≠ 40 → N' 0 j = N 0 j) → (∀ j, j ≠ 30 + 30 * sig + 5 * n + 4 → N' 1 j = N 1 j) → q_cg (N 1) G (nI sig) (30 + 30 * sig + 5 * n) e p 0 0 = q_cg (N 1) G (nI sig) (30 + 30 * sig + 5 * n) e m f cnt → T_X11_caught_80 Q (m + 1) N' (nI sig) (nI e) (nI (30 + 30 * sig + 5 * n)) (N 1 (30 + 30 * sig + 5 * n + 4)) cnt (nI f) := by
    intro m
    induction m with
    | zero =>
      intro f cnt N' hf hF1 hF0 hF2 hq
      unfold T_X11_caught_80
      rw [e2, e4]
      refine ⟨vp_in_nI (by omega) (by omega), ?_⟩
      rw [nI_clamp (show 30 + 30 * sig + 5 * n + 2 < 2 ^ 31 by omega), nI_clamp (show 30 + 30 * sig + 5 * n + 4 < 2 ^ 31 by omega), hF2 (30 + 30 * sig + 5 * n + 2) (by omega), hp]
      refine qt (nI_le (by omega) (by omega)) ⟨vp_in_nI (by omega) (by omega), ?_⟩
      rintro _ rfl
      have eq0 : q_cg (N 1) G (nI sig) (30 + 30 * sig + 5 * n) e 0 f cnt = cnt := rfl
      rw [eq0] at hq
      rw [← hq]
      refine h _ ⟨fun o a0 a9 a18 a19 a20 a21 a22 a23 => ?_, fun j b1 b2 b3 => by rw [gu_ne (by decide)]; exact hF0 j b1 b2 b3⟩
      by_cases z : o = 1
      · subst z
        rw [gu_eq]
        funext j
        by_cases y : j = 30 + 30 * sig + 5 * n + 4
        · subst y; rw [ub_eq]
        · rw [ub_ne y]; exact hF2 j y
      · rw [gu_ne z]; exact hF1 o a0 z a9 a18 a19 a20 a21 a22 a23
    | succ m ih =>
      intro f cnt N' hf hF1 hF0 hF2 hq
      have hx : (0 : Int32) ≤ nI f ∧ nI f ≤ 1999 := v_n (n := 1999) (by omega) (by omega)
      have okf := okA_from hok hsig (n := n) (by omega) hx
      unfold T_X11_caught_80
      rw [e2, e4]
      refine ⟨vp_in_nI (by omega) (by omega), ?_⟩
      rw [nI_clamp (show 30 + 30 * sig + 5 * n + 2 < 2 ^ 31 by omega), nI_clamp (show 30 + 30 * sig + 5 * n + 4 < 2 ^ 31 by omega), hF2 (30 + 30 * sig + 5 * n + 2) (by omega), hp]
      refine qf (nI_ge (by omega) (by omega)) ⟨vp_in_nI (by omega) (by omega), ?_⟩
      rintro _ rfl
      have e8 : gx_up N' 1 (30 + 30 * sig + 5 * n + 4) (nI f) 1 = upd (N 1) (30 + 30 * sig + 5 * n + 4) (nI f) := by
        rw [gu_eq]
        funext j
        by_cases y : j = 30 + 30 * sig + 5 * n + 4
        · subst y; rw [ub_eq, ub_eq]
        · rw [ub_ne y, ub_ne y]; exact hF2 j y
      have rcf : q_rc (gx_up N' 1 (30 + 30 * sig + 5 * n + 4) (nI f)) (gx_up N' 1 (30 + 30 * sig + 5 * n + 4) (nI f) 1 1) G := by
        rw [e8, ub_ne (show 1 ≠ 30 + 30 * sig + 5 * n + 4 by omega)]
        exact hrc.kept (fun o q1 q2 => by rw [gu_ne (by omega)]; exact hF1 o (by omega) (by omega) (by omega) (by omega) (by omega) (by omega) (by omega) (by omega) (by omega))
      refine n_swp (by rw [e8]; exact okf) rcf hg he (fun N2 f1 f2 f3 f4 f5 f6 => ?_)
      rw [e8] at f2 f3 f4 f5
      have p3 := (okP okf).2.1
      refine n_catches (L := q_SL (upd (N 1) (30 + 30 * sig + 5 * n + 4) (nI f)) G e 0 0 0) (by rw [f2]; exact okf) hsig (by rw [f2, ub_ne (show 24 + sig ≠ 30 + 30 * sig + 5 * n + 4 by omega)]; exact hn) he f3 f4 f5 (fun b hb => by have := q_SL_bd _ _ _ _ _ hb; omega) ?_
      rw [f2]
      have eq1 : q_cg (N 1) G (nI sig) (30 + 30 * sig + 5 * n) e (m + 1) f cnt = q_cg (N 1) G (nI sig) (30 + 30 * sig + 5 * n) e m (f + 1) (if q_cat (upd (N 1) (30 + 30 * sig + 5 * n + 4) (nI f)) G (nI sig) (30 + 30 * sig + 5 * n) e = true then cnt + 1 else cnt) := rfl
      rw [eq1] at hq
      have g1 : ∀ o, o ≠ 0 → o ≠ 1 → o ≠ 9 → o ≠ 18 → o ≠ 19 → o ≠ 20 → o ≠ 21 → o ≠ 22 → o ≠ 23 → N2 o = N o := fun o b0 b1 b9 b18 b19 b20 b21 b22 b23 => by
        rw [f1.1 o b0 b9 b18 b19 b20 b21 b22 b23, gu_ne b1]; exact hF1 o b0 b1 b9 b18 b19 b20 b21 b22 b23
      have g0 : ∀ j, j ≠ 35 → j ≠ 39 → j ≠ 40 → N2 0 j = N 0 j := fun j b1 b2 b3 => by
        rw [f1.2 j b1 b2 b3, gu_ne (by decide)]; exact hF0 j b1 b2 b3
      have g2 : ∀ j, j ≠ 30 + 30 * sig + 5 * n + 4 → N2 1 j = N 1 j := fun j hj => by rw [f2, ub_ne hj]
      show if b2i (q_cat (upd (N 1) (30 + 30 * sig + 5 * n + 4) (nI f)) G (nI sig) (30 + 30 * sig + 5 * n) e) = 0 then _ else _
      unfold T_X11_caught_129
      cases hb : q_cat (upd (N 1) (30 + 30 * sig + 5 * n + 4) (nI f)) G (nI sig) (30 + 30 * sig + 5 * n) e with
      | false =>
        rw [hb, if_neg (by decide)] at hq
        refine qt rfl ?_
        rintro _ rfl _ rfl
        rw [nI_1, Int32.add_zero]
        exact ih (f + 1) cnt N2 (by omega) g1 g0 g2 hq
      | true =>
        rw [hb, if_pos rfl] at hq
        refine qf (by decide) ?_
        rintro _ rfl _ rfl
        rw [nI_1]
        exact ih (f + 1) (cnt + 1) N2 (by omega) g1 g0 g2 hq
  exact ⟨p + 1, key p 0 0 N (by omega) (fun _ _ _ _ _ _ _ _ _ _ => rfl) (fun _ _ _ _ => rfl) (fun _ _ => rfl) rfl⟩
theorem step_caught : st_caught RR := by
  intro M N h v1 v2
  unfold T_X10_caught
  refine gd_isSignal (fun n1 => ?_) (fun s hs es => ?_)
  · unfold T_X11_caught
    exact gn_isSignal (fun _ => ⟨rfl, h⟩) (fun q => absurd q n1)
  have p1 : 0 ≤ v1 ∧ v1 ≤ 3 := by rw [es]; exact v_n (n := 3) (by omega) (by omega)
  refine gd_isSpan (fun n2 => ?_) (fun e e1 e2 ee => ?_)
  · unfold T_X11_caught
    exact gn_isSignal (fun q => absurd p1 q) (fun _ => gn_isEnd (fun _ => ⟨rfl, h⟩) (fun q => absurd q n2))
  have p2 : 1 ≤ v2 ∧ v2 ≤ 2000 := by rw [ee]; exact v_1 e1 e2
  subst es
  subst ee
  have hok := h.1.2.1
  obtain ⟨c6, ec⟩ := okN hok hs
  obtain ⟨m1, m2⟩ := h.1.1.2.2.2 s hs
  simp only [Nat.mul_zero, Nat.zero_add, Nat.add_zero] at m1 m2
  have e24 : (24 : Int32) + nI s = nI (24 + s) := nI_add 24 s
  refine ⟨vp_in_nI hs (by omega), ?_⟩
  rintro _ rfl
  rw [nI_clamp (show s < 2 ^ 31 by omega), m1, ec]
  generalize hcn : (N 1 (24 + s)).toNatClampNeg = cn at c6 ec m2
  match cn, c6, ec, m2, hcn with
  | 0, _, ec, _, _ =>
    refine gd_within (fun _ => ?_) (fun q => absurd q.1 (by decide))
    unfold T_X11_caught
    refine gn_isSignal (fun q => absurd p1 q) (fun _ => gn_isEnd (fun q => absurd p2 q) (fun _ => ?_))
    rw [e24]
    refine ⟨vp_in_nI (by omega) (by omega), ?_⟩
    rw [nI_clamp (by omega), ec]
    exact qt rfl ⟨rfl, h⟩
  | n + 1, c6, ec, m2, hcn =>
    have hn : n < (N 1 (24 + s)).toNatClampNeg := by omega
    have P := m2 n (by omega)
    rw [nI_pred]
    have ei : 62 + (nI n).toNatClampNeg + 6 * s = 62 + 6 * s + n := by rw [nI_clamp (by omega)]; omega
    have e5 : ((30 : Int32) + 30 * nI s) + 5 * nI (n + 1) - 5 = nI (30 + 30 * s + 5 * n) := by
      rw [show (30 : Int32) * nI s = nI (30 * s) from pk_mul 30 s, show (5 : Int32) * nI (n + 1) = nI (5 * (n + 1)) from pk_mul 5 _, show (30 : Int32) + nI (30 * s) = nI (30 + 30 * s) from nI_add 30 _, nI_add, show nI (30 + 30 * s + 5 * (n + 1)) - 5 = nI (30 + 30 * s + 5 * (n + 1) - 5) from pk_sub (b := 5) (by omega), show 30 + 30 * s + 5 * (n + 1) - 5 = 30 + 30 * s + 5 * n by omega]
    have e50 : nI (30 + 30 * s + 5 * n) + 0 = nI (30 + 30 * s + 5 * n) := nI_add _ 0
    have e54 : nI (30 + 30 * s + 5 * n) + 4 = nI (30 + 30 * s + 5 * n + 4) := nI_add _ 4
    obtain ⟨k0, k1, k2, k3, k4⟩ := (hok.2.2.1 s hs).2 n hn
    have hw : (0 : Int32) ≤ nI n ∧ nI n ≤ 5 := v_n (n := 5) (by omega) (by omega)
    -- the reference, a square being the last part or not
    have ref : ∀ (P : Int32 → gx_M → Prop), (if N 1 (30 + 30 * s + 5 * n) = 1 then ∃ k15, T_X11_caught_80 P k15 N (nI s) (nI e) (nI (30 + 30 * s + 5 * n)) (N 1 (30 + 30 * s + 5 * n + 4)) 0 0 else P (-1) N) → T_X11_caught N (nI s) (nI e) P := by
      intro P hP
      unfold T_X11_caught
      refine gn_isSignal (fun q => absurd p1 q) (fun _ => gn_isEnd (fun q => absurd p2 q) (fun _ => ?_))
      rw [e24]
      refine ⟨vp_in_nI (by omega) (by omega), ?_⟩
      rw [nI_clamp (show 24 + s < 2 ^ 31 by omega), ec]
      refine qf (nI_ne0 (by omega) (by omega)) ⟨vp_in_nI (by omega) (by omega), ?_⟩
      rintro _ rfl
      rw [e5, e50, e54]
      refine ⟨vp_in_nI (by omega) (by omega), ?_⟩
      rw [nI_clamp (show 30 + 30 * s + 5 * n < 2 ^ 31 by omega), nI_clamp (show 30 + 30 * s + 5 * n + 4 < 2 ^ 31 by omega)]
      refine qc (fun z => ?_) (fun z => ?_)
      · rw [if_pos z] at hP
        refine ⟨vp_in_nI (by omega) (by omega), ?_⟩
        rintro _ rfl
        exact hP
      · rw [if_neg z] at hP; exact hP
    refine gd_within (fun q => absurd hw q) (fun _ => ⟨vp_in_nI hs (by omega), vp_in_nI (by omega) (by omega), ?_⟩)
    rw [ei]
    have P0 : M (62 + 6 * s + n) 0 = N 1 (30 + 30 * s + 5 * n) := P 0 (by omega)
    rw [P0]
    refine qc (fun z => ⟨vp_in_nI hs (by omega), vp_in_nI (by omega) (by omega), ?_⟩) (fun z => ref _ (by rw [if_neg z]; exact ⟨rfl, h⟩))
    rintro _ rfl
    rw [P 4 (by omega)]
    obtain ⟨G, hC, hrc⟩ := h.cur
    obtain ⟨p, hp5, hp⟩ := toNex 500 (by omega) (Int32.le_trans (by decide) k2.1) k2.2
    refine s_caughtL hC hs hn e2 hp5 hp (fun M' fM cM => ref _ ?_)
    rw [if_pos z]
    exact n_caughtL hok hrc hC.2.2.2.2 hs hn e2 hp5 hp (fun N' fN => ⟨rfl, h.frame fM fN cM⟩)
