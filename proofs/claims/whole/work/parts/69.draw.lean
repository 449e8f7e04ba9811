/-! the class draws -/
def FrW (M M' : gx_M) : Prop := ∀ o, o ≠ 1 → o ≠ 2 → o ≠ 3 → o ≠ 9 → o ≠ 13 → o ≠ 14 → M' o = M o
theorem FrW.tr {A B C : gx_M} (h : FrW A B) (k : FrW B C) : FrW A C := fun o a b c d e f => (k o a b c d e f).trans (h o a b c d e f)
theorem FrW.fc {M M' : gx_M} (h : FrW M M') : FC M M' := fun o a b c d _ _ e f _ => h o a b c d e f
theorem FrN.fw {M M' : gx_M} (h : FrN M M') : FrW M M' := fun o a b c _ e f => h o a b c e f
theorem f9 {M M' : gx_M} (h : ∀ o, o ≠ 9 → M' o = M o) : FrW M M' := fun o _ _ _ d _ _ => h o d
theorem s_dotsFrom {M : gx_M} {o : Nat} {m x : Int32} {Q : Int32 → Prop} (hg : 1 ≤ (M o 4).toInt) (h : Q (q_fl x (M o 4) + m + M o 5)) : T_X2_dotsFrom M o m x Q := by
  unfold T_X2_dotsFrom
  refine qt (Int32.le_iff_toInt_le.mpr hg) (s_floorDiv hg h)
theorem s_brighten {M : gx_M} {x y : Int32} {Q : gx_M → Prop} (h0 : ¬ ((0 ≤ x ∧ x ≤ 19) ∧ (0 ≤ y ∧ y ≤ 15)) → Q M) (h1 : ∀ d, (0 ≤ x ∧ x ≤ 19) → (0 ≤ y ∧ y ≤ 15) → d = 16 * x.toNatClampNeg + y.toNatClampNeg → d < 320 → Q (gx_up M 9 d (if M 9 d + 16 ≤ 999 then M 9 d + 16 else 999))) : T_X7_brighten M x y Q := by
  unfold T_X7_brighten
  refine gd_within (fun q => h0 (fun z => q z.1)) (fun p1 => gd_within (fun q => h0 (fun z => q z.2)) (fun p2 => ?_))
  obtain ⟨kx, hkx, rfl⟩ := w_nI 19 (by omega) p1
  obtain ⟨ky, hky, rfl⟩ := w_nI 15 (by omega) p2
  have e : nI kx * 16 + nI ky = nI (16 * kx + ky) := by
    rw [show nI kx * (16 : Int32) = nI (kx * 16) from pk_mul kx 16, nI_add, Nat.mul_comm]
  rw [e]
  refine nm_e ?_
  refine ⟨vp_in_nI (by omega) (by omega), vp_in_nI (by omega) (by omega), ?_⟩
  rintro _ rfl
  have hh := h1 (16 * kx + ky) p1 p2 (by rw [nI_clamp (by omega), nI_clamp (by omega)]) (by omega)
  rw [nI_clamp (by omega)]
  generalize M 9 (16 * kx + ky) = g at hh ⊢
  by_cases c : g + 16 ≤ 999
  · rw [if_pos c] at hh; rw [if_neg (Int32.not_lt.mpr c)]; exact hh
  · rw [if_neg c] at hh; rw [if_pos (Int32.not_le.mp c)]; exact hh
theorem s_turnAt {M : gx_M} {a : Nat → Int32} {s t : Nat} {Q : Int32 → Prop} (hR : RS 0 a M) (hok : okA a) (h7 : M 1 7 = nI (s + 1)) (hs : s < 200) (ht : t < 2000) (h : Q (nI (q_turn a s t))) : T_X1_turnAt M (nI t) Q := by
  obtain ⟨k50, k1, ek⟩ := okC hok
  have e6 : M 34 6 = a 5 := hR.1.1 3 (by omega)
  have e7 : M 34 7 = a 6 := hR.1.1 4 (by omega)
  unfold T_X1_turnAt
  rw [e6, e7, h7]
  unfold q_turn at h
  refine qc (fun c => ?_) (fun c => qc (fun c2 => ?_) (fun c2 => ?_))
  · rw [if_pos c] at h
    rw [par2 _ (by omega)]
    refine qc (fun q => ?_) (fun q => ?_)
    · have q : (s + 1) % 2 = 0 := (nI_eq (b := 0) (by omega) (by omega)).mp q
      rw [show s % 2 = 1 by omega] at h; exact h
    · have q : ¬ (s + 1) % 2 = 0 := fun z => q (by rw [z]; rfl)
      rw [show s % 2 = 0 by omega] at h; exact h
  · rw [if_neg c, if_pos c2] at h
    have hdiv : t / (a 6).toNatClampNeg < 2 ^ 31 := Nat.lt_of_le_of_lt (Nat.div_le_self _ _) (by omega)
    rw [ek]
    refine qf (nI_nle (by omega) (by omega)) ⟨nI_ne0 (by omega) (by omega), ?_⟩
    rw [pk_div (by omega) (by omega) (by omega), par2 _ hdiv]
    refine qc (fun q => ?_) (fun q => ?_)
    · have q : t / (a 6).toNatClampNeg % 2 = 0 := (nI_eq (b := 0) (by omega) (by omega)).mp q
      rw [q] at h; exact h
    · have q : ¬ t / (a 6).toNatClampNeg % 2 = 0 := fun z => q (by rw [z]; rfl)
      rw [show t / (a 6).toNatClampNeg % 2 = 1 by omega] at h; exact h
  · rw [if_neg c, if_neg c2] at h; exact h
theorem s_drawDot {M : gx_M} {a : Nat → Int32} {e s c t : Nat} {g : Nat → Int32} {Q : gx_M → Prop} (hR : RS 0 a M) (hok : okA a) (h7 : M 1 7 = nI (s + 1)) (hs : s < 200) (hc : c < 20) (ht : t < 2000) (hO : ∀ c, c < 2 → M (13 + c) t = q_O a c t) (hg : ∀ d, d < 320 → M 9 d = g d)
    (h : ∀ M' : gx_M, (∀ o, o ≠ 9 → M' o = M o) → (∀ d, d < 320 → M' 9 d = (match q_dot a s c t with | none => g | some d => q_br g d) d) → Q M') : T_X1_drawDot M (nI c) (nI t) Q := by
  have e6 : M 34 6 = a 5 := hR.1.1 3 (by omega)
  have ch := hR.2.2.1
  simp only [Nat.mul_zero, Nat.add_zero] at ch
  have lit0 : q_dot a s c t = none → Q M := fun hd => h M (fun _ _ => rfl) (fun d hd' => by rw [hd]; exact hg d hd')
  have lit1 : ∀ d, d < 320 → q_dot a s c t = some d → Q (gx_up M 9 d (if M 9 d + 16 ≤ 999 then M 9 d + 16 else 999)) := fun d hd3 hd => h _ (fun o ho => gu_ne ho) (fun d' hd' => by
    rw [hd, gu_eq, hg d hd3]
    show _ = q_br g d d'
    unfold q_br
    by_cases z : d' = d
    · subst z; rw [ub_eq, ub_eq]
    · rw [ub_ne z, ub_ne z]; exact hg d' hd')
  unfold T_X1_drawDot
  rw [e6]
  have o0 : M 13 t = q_O a 0 t := hO 0 (by omega)
  have o1 : M 14 t = q_O a 1 t := hO 1 (by omega)
  refine qc (fun c3 => ⟨vp_in_nI ht (by omega), ?_⟩) (fun c3 => ?_)
  · rw [nI_clamp (by omega), o0, o1]
    obtain ⟨-, -, -, -, a4, a5⟩ := ch 0 (by omega)
    obtain ⟨-, -, -, -, b4, b5⟩ := ch 1 (by omega)
    refine s_dotsFrom (by rw [a4]; exact (okV hok (c := 0) (by omega)).1.1) ⟨vp_in_nI ht (by omega), s_dotsFrom (by rw [b4]; exact (okV hok (c := 1) (by omega)).1.1) ?_⟩
    rw [a4, a5, b4, b5]
    refine s_brighten (fun q => lit0 ?_) (fun d p1 p2 hd hd3 => lit1 d hd3 ?_)
    · unfold q_dot
      rw [if_pos c3]; exact if_neg q
    · unfold q_dot
      rw [if_pos c3, hd]; exact if_pos ⟨p1, p2⟩
  · refine s_turnAt hR hok h7 hs ht ?_
    have hu := q_turn_lt a s t
    refine ⟨vp_in_nI hu (by omega), vp_in_nI hu (by omega), vp_in_nI ht (by omega), ?_⟩
    rw [nI_clamp (by omega), nI_clamp (by omega), hO _ hu]
    obtain ⟨-, -, -, -, a4, a5⟩ := ch (q_turn a s t) hu
    refine s_dotsFrom (by rw [a4]; exact (okV hok hu).1.1) ?_
    rw [a4, a5]
    have hcc : (0 : Int32) ≤ nI c ∧ nI c ≤ 19 := v_n (n := 19) (by omega) (by omega)
    refine s_brighten (fun q => lit0 ?_) (fun d p1 p2 hd hd3 => lit1 d hd3 ?_)
    · unfold q_dot
      rw [if_neg c3]; exact if_neg (fun z => q ⟨hcc, z⟩)
    · unfold q_dot
      rw [if_neg c3, hd, nI_clamp (by omega)]; exact if_pos p2
theorem s_drawSweep {M : gx_M} {a : Nat → Int32} {e s b : Nat} {g : Nat → Int32} {Q : gx_M → Prop} (hR : RS 0 a M) (hok : okA a) (he : e ≤ 2000) (h7 : M 1 7 = nI (s + 1)) (h8 : M 1 8 = nI b) (hs : s < 200) (hb : b ≤ 3000) (hO : ∀ c, c < 2 → ∀ t, t < e → M (13 + c) t = q_O a c t) (hg : ∀ d, d < 320 → M 9 d = g d)
    (h : ∀ M' : gx_M, (∀ o, o ≠ 9 → M' o = M o) → (∀ d, d < 320 → M' 9 d = q_cols a e s b 20 0 g d) → Q M') : T_X1_drawSweep M (nI e) Q := by
  obtain ⟨⟨p1, p50, ep⟩, -⟩ := okP hok
  have key : ∀ m c (g : Nat → Int32) (M' : gx_M), c + m = 20 → (∀ o, o ≠ 9 → M' o = M o) → (∀ d, d < 320 → M' 9 d = g d) → (∀ M2 : gx_M, (∀ o, o ≠ 9 → M2 o = M o) → (∀ d, d < 320 → M2 9 d = q_cols a e s b m c g d) → Q M2) → T_X1_drawSweep_2 Q (m + 1) M' (nI e) (nI c) := by
    intro m
    induction m with
    | zero =>
      intro c g M' hc hf hg hk
      obtain rfl : c = 20 := by omega
      unfold T_X1_drawSweep_2
      exact qt (show nI 20 ≤ nI 20 from nI_le (by omega) (by omega)) (hk M' hf hg)
    | succ m ih =>
      intro c g M' hc hf hg hk
      have e3 : M' 34 3 = a 2 := by rw [hf 34 (by decide)]; exact hR.1.1 0 (by omega)
      have hp : c * (a 2).toNatClampNeg ≤ 19 * 50 := Nat.mul_le_mul (by omega) p50
      have hx : nI b + nI c * a 2 = nI (b + c * (a 2).toNatClampNeg) := by
        rw [show nI c * a 2 = nI (c * (a 2).toNatClampNeg) by rw [← pk_mul, ← ep], nI_add]
      unfold T_X1_drawSweep_2
      refine qf (show ¬ nI 20 ≤ nI c from nI_ge (by omega) (by omega)) ?_
      rw [hf 1 (by decide), h8, e3, hx]
      refine nm_e ?_
      have step : ∀ (g2 : Nat → Int32) (M2 : gx_M), q_put a e s b c g = g2 → (∀ o, o ≠ 9 → M2 o = M o) → (∀ d, d < 320 → M2 9 d = g2 d) → T_X1_drawSweep_50 Q (T_X1_drawSweep_2 Q (m + 1)) M2 (nI e) (nI c) := by
        intro g2 M2 eg f2 hg2
        unfold T_X1_drawSweep_50
        rintro _ rfl
        rw [nI_1]
        refine ih (c + 1) g2 M2 (by omega) f2 hg2 (fun M3 f3 g3 => hk M3 f3 (fun d hd => ?_))
        show M3 9 d = q_cols a e s b m (c + 1) (q_put a e s b c g) d
        rw [eg]; exact g3 d hd
      generalize ht : b + c * (a 2).toNatClampNeg = t at hx ⊢
      refine qc (fun q => ?_) (fun q => ?_)
      · have q : e ≤ t := (nI_leI (by omega) (by omega)).mp q
        exact step g M' (if_neg (by omega)) hf hg
      · have q : t < e := by
          rcases Nat.lt_or_ge t e with z | z
          · exact z
          · exact absurd (nI_le z (by omega)) q
        have hw : (0 : Int32) ≤ nI t ∧ nI t ≤ 1999 := v_n (n := 1999) (by omega) (by omega)
        refine gd_within (fun z => absurd hw z) (fun _ => ?_)
        refine s_drawDot (e := e) (hR.kept0 hok (fun o ho => hf o (by omega))) hok (by rw [hf 1 (by decide)]; exact h7) hs (by omega) (by omega) (fun c' hc' => by rw [hf _ (by omega)]; exact hO c' hc' t q) hg (fun M2 f2 g2 => ?_)
        refine step _ M2 ?_ (fun o ho => (f2 o ho).trans (hf o ho)) g2
        unfold q_put
        rw [ht, if_pos q]
        all_goals (cases q_dot a s c t <;> rfl)
  exact ⟨21, key 20 0 g M (by omega) (fun _ _ => rfl) hg h⟩
theorem s_dim {M : gx_M} {f : Int32} {g : Nat → Int32} {Q : gx_M → Prop} (hg : ∀ d, d < 320 → M 9 d = g d) (h : ∀ M' : gx_M, (∀ o, o ≠ 9 → M' o = M o) → (∀ d, d < 320 → M' 9 d = q_dm g f d) → Q M') : T_X7_dim M f Q := by
  have key : ∀ m d (M' : gx_M), d + m = 320 → (∀ o, o ≠ 9 → M' o = M o) → (∀ d', d' < d → M' 9 d' = q_dm g f d') → (∀ d', d' < 320 → d ≤ d' → M' 9 d' = g d') → T_X7_dim_2 Q (m + 1) M' f (nI d) := by
    intro m
    induction m with
    | zero =>
      intro d M' hd hf h1 h2
      obtain rfl : d = 320 := by omega
      unfold T_X7_dim_2
      exact qt (show nI 320 ≤ nI 320 from nI_le (by omega) (by omega)) (h M' hf h1)
    | succ m ih =>
      intro d M' hd hf h1 h2
      unfold T_X7_dim_2
      refine qf (show ¬ nI 320 ≤ nI d from nI_ge (by omega) (by omega)) ⟨vp_in_nI (by omega) (by omega), vp_in_nI (by omega) (by omega), ?_⟩
      rintro _ rfl _ rfl
      rw [nI_1, nI_clamp (by omega)]
      refine ih (d + 1) _ (by omega) (fun o ho => by rw [gu_ne ho]; exact hf o ho) (fun d' hd' => ?_) (fun d' hd' z => ?_)
      · rw [gu_eq]
        by_cases y : d' = d
        · subst y; rw [ub_eq, h2 d' (by omega) (Nat.le_refl _)]; rfl
        · rw [ub_ne y]; exact h1 d' (by omega)
      · rw [gu_eq, ub_ne (by omega)]; exact h2 d' hd' (by omega)
  exact ⟨321, key 320 0 M (by omega) (fun _ _ => rfl) (fun d' hd' => absurd hd' (Nat.not_lt_zero _)) (fun d' hd' _ => hg d' hd')⟩
theorem s_darken {M : gx_M} {Q : gx_M → Prop} (h : ∀ M' : gx_M, (∀ o, o ≠ 9 → M' o = M o) → (∀ d, d < 320 → M' 9 d = 0) → Q M') : T_X7_darken M Q := by
  have key : ∀ m d (M' : gx_M), d + m = 320 → (∀ o, o ≠ 9 → M' o = M o) → (∀ d', d' < d → M' 9 d' = 0) → T_X7_darken_2 Q (m + 1) M' (nI d) := by
    intro m
    induction m with
    | zero =>
      intro d M' hd hf h1
      obtain rfl : d = 320 := by omega
      unfold T_X7_darken_2
      exact qt (show nI 320 ≤ nI 320 from nI_le (by omega) (by omega)) (h M' hf h1)
    | succ m ih =>
      intro d M' hd hf h1
      unfold T_X7_darken_2
      refine qf (show ¬ nI 320 ≤ nI d from nI_ge (by omega) (by omega)) ⟨vp_in_nI (by omega) (by omega), ?_⟩
      rintro _ rfl _ rfl
      rw [nI_1, nI_clamp (by omega)]
      refine ih (d + 1) _ (by omega) (fun o ho => by rw [gu_ne ho]; exact hf o ho) (fun d' hd' => ?_)
      rw [gu_eq]
      by_cases y : d' = d
      · subst y; rw [ub_eq]
      · rw [ub_ne y]; exact h1 d' (by omega)
  exact ⟨321, key 320 0 M (by omega) (fun _ _ => rfl) (fun d' hd' => absurd hd' (Nat.not_lt_zero _))⟩
theorem q_coreL.weak {a : Nat → Int32} {G : List (Bool × List Int32)} {lo : Nat} {M : gx_M} (h : q_coreL a G lo M) : q_core a G M := by
  obtain ⟨h1, h2, ⟨tr, t0, t1, t2, t3⟩, h4, h5⟩ := h
  exact ⟨h1, h2, ⟨tr, Nat.zero_le _, t1, t2, t3⟩, h4, h5⟩
theorem s_draw {M : gx_M} {a : Nat → Int32} {G : List (Bool × List Int32)} {e : Nat} {Q : gx_M → Prop} (hC : q_core a G M) (he1 : 1 ≤ e) (he : e ≤ 2000)
    (h : ∀ M' : gx_M, FrW M M' → q_core a G M' → (∀ d, d < 320 → M' 9 d = q_G a G e d) → Q M') : T_X1_draw M (nI e) Q := by
  have hok := hC.2.1
  unfold T_X1_draw
  refine s_darken (fun M1 f1 g1 => ?_)
  have C1 : q_core a G M1 := hC.kept (fun q h1 h2 => f1 q (by omega)) (hC.2.2.1.kept (by rw [f1 1 (by decide)]) (f1 13 (by decide)) (f1 14 (by decide)))
  rw [show nI e - 1 = nI (e - 1) from pk_sub (b := 1) he1]
  refine s_traceTo2 C1.1 hok C1.2.2.1 (by omega) (fun M2 t1 t2 t3 t4 t5 => ?_)
  rw [show e - 1 + 1 = e by omega] at t5
  have C2 : q_coreL a G e M2 := ⟨t2, hok, t5, C1.2.2.2.1.kept (fun q h1 h2 => t1.1 q (by omega) (by omega) (by omega)), C1.2.2.2.2⟩
  unfold T_X1_restart
  rintro _ rfl _ rfl _ rfl
  obtain ⟨u6, u7, u5⟩ := up6 M2
  have key : ∀ m k ready (g : Nat → Int32) (M' : gx_M), k + m = e → FrW M M' → q_coreL a G e M' → M' 1 6 = nI ready → M' 1 7 = nI k → 20 * k ≤ ready → ready ≤ 20000 → (∀ d, d < 320 → M' 9 d = g d) → q_gl a e (q_SL a G (e - ready) ready ready k) k g = q_G a G e → T_X1_draw_17 Q (fun M10 => Q M10) (m + 1) M' (nI e) (nI k) := by
    intro m
    induction m with
    | zero =>
      intro k ready g M' hk hF hC' h6 h7 h20 hr hg hq
      unfold T_X1_draw_17
      refine qt (nI_le (by omega) (by omega)) (h M' hF hC'.weak (fun d hd => ?_))
      rw [show e - ready = 0 by omega] at hq
      rw [← hq, hg d hd]; rfl
    | succ m ih =>
      intro k ready g M' hk hF hC' h6 h7 h20 hr hg hq
      unfold T_X1_draw_17
      refine qf (nI_ge (by omega) (by omega)) ?_
      refine s_next hC' h6 h7 he h20 hr (fun h0 M3 f3 C3 h73 => ?_) (fun b ready' M3 hl f3 C3 h8 h63 h73 h20' hr' hb hk100 => ?_)
      · refine qt rfl (h M3 (hF.tr f3.fw) C3.weak (fun d hd => ?_))
        rw [h0] at hq
        rw [← hq, f3 9 (by decide) (by decide) (by decide) (by decide) (by decide), hg d hd]; rfl
      · rw [hl] at hq
        have g3 : ∀ d, d < 320 → M3 9 d = g d := fun d hd => by rw [f3 9 (by decide) (by decide) (by decide) (by decide) (by decide)]; exact hg d hd
        have step : ∀ (g2 : Nat → Int32) (M4 : gx_M), (∀ o, o ≠ 9 → M4 o = M3 o) → (∀ d, d < 320 → M4 9 d = g2 d) → q_cols a e k b 20 0 (if b < e then q_dm g (a 4) else g) = g2 → T_X1_draw_55 Q (T_X1_draw_17 Q (fun M10 => Q M10) (m + 1)) M4 (nI e) (nI k) := by
          intro g2 M4 f4 hg2 eg
          unfold T_X1_draw_55
          rintro _ rfl
          rw [nI_1]
          refine ih (k + 1) ready' g2 M4 (by omega) ((hF.tr f3.fw).tr (f9 f4)) (C3.kept (fun q h1 h2 => f4 q (by omega)) (C3.2.2.1.kept (by rw [f4 1 (by decide)]) (f4 13 (by decide)) (f4 14 (by decide)))) (by rw [f4 1 (by decide)]; exact h63) (by rw [f4 1 (by decide)]; exact h73) h20' hr' hg2 ?_
          rw [← hq, ← eg]; rfl
        refine qf (by decide) ?_
        rw [h8]
        refine qc (fun q => ?_) (fun q => ?_)
        · have q : e ≤ b := (nI_leI (by omega) (by omega)).mp q
          refine step g M3 (fun _ _ => rfl) g3 ?_
          rw [if_neg (by omega)]; exact q_cols_far q 20 0 g
        · have q : b < e := by
            rcases Nat.lt_or_ge b e with z | z
            · exact z
            · exact absurd (nI_le z (by omega)) q
          have e5 : M3 34 5 = a 4 := C3.1.1.1 2 (by omega)
          rw [e5]
          obtain ⟨tr, l0, l1, l2, l3⟩ := C3.2.2.1
          refine s_dim g3 (fun M4 f4 g4 => ?_)
          refine s_drawSweep (s := k) (b := b) (C3.1.kept0 hok (fun o ho => f4 o (by omega))) hok he (by rw [f4 1 (by decide)]; exact h73) (by rw [f4 1 (by decide)]; exact h8) (by omega) hb (fun c hc t ht => by rw [f4 _ (by omega)]; exact l3 c hc t (by omega)) g4 (fun M5 f5 g5 => ?_)
          refine step _ M5 (fun o ho => (f5 o ho).trans (f4 o ho)) g5 ?_
          rw [if_pos q]
  refine ⟨e + 1, key e 0 0 (fun _ => 0) _ (by omega) (((f9 f1).tr (fun o a b c d e f => t1.1 o a e f)).tr (FrN.restart M2).fw) C2.restart u6 u7 (by omega) (by omega) (fun d hd => ?_) rfl⟩
  rw [gu_ne (by decide), gu_ne (by decide), gu_ne (by decide), t1.1 9 (by decide) (by decide) (by decide)]; exact g1 d hd
