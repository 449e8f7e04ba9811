/-! parting -/
theorem nar0 : vp_nar .boolean 0 = b2i false := by decide +kernel
theorem nar1 : vp_nar .boolean 1 = b2i true := by decide +kernel
def q_B2 (a : Nat → Int32) (x y : Int32) : Nat → Int32 := upd (upd a 2 x) 10 y
theorem q_B2_ok {a : Nat → Int32} {x y : Int32} (hok : okA a) (hx : 1 ≤ x ∧ x ≤ 50) (hy : 0 ≤ y ∧ y ≤ 3) : okA (q_B2 a x y) :=
  okA_up (okA_up hok (i := 2) (by omega) ⟨fun _ => hx, by omega, by omega, by omega, by omega, by omega, by omega, by omega, by omega, by omega, by omega, by omega⟩) (i := 10) (by omega) ⟨by omega, by omega, by omega, by omega, by omega, fun _ _ _ => hy, by omega, by omega, by omega, by omega, by omega, by omega⟩
theorem q_B2_RS {a : Nat → Int32} {M : gx_M} {x y : Int32} (h : RS 0 a M) (hok : okA a) (hx : 1 ≤ x ∧ x ≤ 50) : RS 0 (q_B2 a x y) (gx_up (gx_up M 34 3 x) 58 0 y) :=
  RS_up (RS_up h hok (Or.inl ⟨0, by omega⟩)) (okA_up hok (i := 2) (by omega) ⟨fun _ => hx, by omega, by omega, by omega, by omega, by omega, by omega, by omega, by omega, by omega, by omega, by omega⟩) (Or.inr (Or.inr (Or.inr (Or.inr ⟨0, by omega⟩))))
theorem q_B2_B (a : Nat → Int32) (x y x' y' : Int32) : upd (upd (q_B2 a x y) 2 x') 10 y' = q_B2 a x' y' := by
  unfold q_B2
  funext j
  by_cases e : j = 10
  · subst e; rw [ub_eq, ub_eq]
  · rw [ub_ne e, ub_ne e]
    by_cases f : j = 2
    · subst f; rw [ub_eq, ub_eq]
    · rw [ub_ne f, ub_ne e, ub_ne f, ub_ne f]
theorem q_B2_10 (a : Nat → Int32) (x y y' : Int32) : upd (q_B2 a x y) 10 y' = q_B2 a x y' := by
  unfold q_B2
  funext j
  by_cases e : j = 10
  · subst e; rw [ub_eq, ub_eq]
  · rw [ub_ne e, ub_ne e, ub_ne e]
theorem q_B2_id (a : Nat → Int32) : q_B2 a (a 2) (a 10) = a := by
  unfold q_B2
  funext j
  by_cases e : j = 10
  · subst e; rw [ub_eq]
  · rw [ub_ne e]
    by_cases f : j = 2
    · subst f; rw [ub_eq]
    · rw [ub_ne f]
theorem q_B2_1 (a : Nat → Int32) (x y : Int32) : q_B2 a x y 1 = a 1 := by
  unfold q_B2
  rw [ub_ne (by decide), ub_ne (by decide)]
def q_df (a : Nat → Int32) (G : List (Bool × List Int32)) (e : Nat) (y z : Int32) (p : Nat) : Nat := q_cnt (fun d => q_on (q_G (q_B2 a (nI p) y) G e) 1 d ^^ q_on (q_G (q_B2 a (nI p) z) G e) 1 d) 320
def q_p20 (cnt : Nat → Nat) : Nat → Nat → Int32 × Int32 → Int32 × Int32
  | 0, _, s => s
  | m + 1, p, s => q_p20 cnt m (p + 1) (if nI (cnt p) ≤ s.2 then s else (nI p, nI (cnt p)))
theorem q_un_rows (g1 g2 : Nat → Int32) (n : Int32) : q_un (q_rows g1 n) (q_rows g2 n) 20 = q_cnt (fun d => q_on g1 n d ^^ q_on g2 n d) 320 := by
  have key : ∀ c, q_un (q_rows g1 n) (q_rows g2 n) c = q_cnt (fun d => q_on g1 n d ^^ q_on g2 n d) (16 * c) := by
    intro c
    induction c with
    | zero => rfl
    | succ c ih =>
      rw [q_un, ih, show 16 * (c + 1) = 16 * c + 16 by omega, q_cnt_add]
      congr 1
      refine q_pop_cnt (fun i hi => ?_)
      unfold q_rows
      rw [Nat.testBit_xor, q_fb_bit, q_fb_bit, decide_eq_true hi, Bool.true_and, Bool.true_and]; rfl
  exact key 20
/-- what the class has changed while it tries -/
def FrV (M M' : gx_M) : Prop := (∀ q, q ≠ 1 → q ≠ 2 → q ≠ 3 → q ≠ 9 → q ≠ 11 → q ≠ 13 → q ≠ 14 → q ≠ 34 → q ≠ 58 → M' q = M q) ∧ (∀ j, j ≠ 3 → M' 34 j = M 34 j) ∧ ∀ j, j ≠ 0 → M' 58 j = M 58 j
theorem FrV.up {M M' : gx_M} (h : FrV M M') (x y : Int32) : FrV M (gx_up (gx_up (gx_up M' 34 3 x) 58 0 y) 1 5 0) := by
  obtain ⟨h1, h2, h3⟩ := h
  refine ⟨fun q a1 a2 a3 a4 a5 a6 a7 a8 a9 => by rw [gu_ne a1, gu_ne a9, gu_ne a8]; exact h1 q a1 a2 a3 a4 a5 a6 a7 a8 a9, fun j hj => by rw [gu_ne (by decide), gu_ne (by decide), gu_eq, ub_ne hj]; exact h2 j hj, fun j hj => by rw [gu_ne (by decide), gu_eq, ub_ne hj, gu_ne (by decide)]; exact h3 j hj⟩
theorem FrV.w {M M1 M' : gx_M} (h : FrV M M1) (k : FrW M1 M') : FrV M M' := by
  obtain ⟨h1, h2, h3⟩ := h
  refine ⟨fun q a1 a2 a3 a4 a5 a6 a7 a8 a9 => (k q a1 a2 a3 a4 a6 a7).trans (h1 q a1 a2 a3 a4 a5 a6 a7 a8 a9), fun j hj => by rw [k 34 (by decide) (by decide) (by decide) (by decide) (by decide) (by decide)]; exact h2 j hj, fun j hj => by rw [k 58 (by decide) (by decide) (by decide) (by decide) (by decide) (by decide)]; exact h3 j hj⟩
theorem FrV.k {M M1 M' : gx_M} (h : FrV M M1) (k : ∀ q, q ≠ 11 → M' q = M1 q) : FrV M M' := by
  obtain ⟨h1, h2, h3⟩ := h
  refine ⟨fun q a1 a2 a3 a4 a5 a6 a7 a8 a9 => (k q a5).trans (h1 q a1 a2 a3 a4 a5 a6 a7 a8 a9), fun j hj => by rw [k 34 (by decide)]; exact h2 j hj, fun j hj => by rw [k 58 (by decide)]; exact h3 j hj⟩
theorem q_B2_core {M M' : gx_M} {a : Nat → Int32} {G : List (Bool × List Int32)} {x y : Int32} (hC : q_core a G M) (hF : FrV M M') (hx : 1 ≤ x ∧ x ≤ 50) (hy : 0 ≤ y ∧ y ≤ 3) : q_core (q_B2 a x y) G (gx_up (gx_up (gx_up M' 34 3 x) 58 0 y) 1 5 0) := by
  obtain ⟨h1, h2, h3⟩ := hF
  have hok := hC.2.1
  have okq := q_B2_ok hok hx hy
  refine ⟨(q_B2_RS hC.1 hok hx).kept0 okq (fun q hq => ?_), okq, q_cacheL.none (by rw [gu_eq, ub_eq]), ?_, hC.2.2.2.2⟩
  · rw [gu_ne (by omega)]
    by_cases e : q = 58
    · subst e
      rw [gu_eq, gu_eq, gu_ne (by decide), gu_ne (by decide)]
      funext j
      by_cases f : j = 0
      · subst f; rw [ub_eq, ub_eq]
      · rw [ub_ne f, ub_ne f]; exact h3 j f
    · rw [gu_ne e, gu_ne e]
      by_cases f : q = 34
      · subst f
        rw [gu_eq, gu_eq]
        funext j
        by_cases g : j = 3
        · subst g; rw [ub_eq, ub_eq]
        · rw [ub_ne g, ub_ne g]; exact h2 j g
      · rw [gu_ne f, gu_ne f]; exact h1 q (by omega) (by omega) (by omega) (by omega) (by omega) (by omega) (by omega) f e
  · rw [q_B2_1]
    exact hC.2.2.2.1.kept (fun q q1 q2 => by rw [gu_ne (by omega), gu_ne (by omega), gu_ne (by omega)]; exact h1 q (by omega) (by omega) (by omega) (by omega) (by omega) (by omega) (by omega) (by omega) (by omega))
theorem s_part20 {M : gx_M} {a : Nat → Int32} {G : List (Bool × List Int32)} {e : Nat} {y z v4 v5 v6 : Int32} {Q : Int32 → gx_M → Prop} {K : gx_M → Int32 → Int32 → Int32 → Int32 → Int32 → Prop} (hC : q_core a G M) (e1 : 1 ≤ e) (e2 : e ≤ 2000) (hy : 0 ≤ y ∧ y ≤ 3) (hz : 0 ≤ z ∧ z ≤ 3) (h : ∀ M3 : gx_M, FrV M M3 → K M3 v4 v5 v6 (q_p20 (q_df a G e y z) 20 1 (-1, -1)).1 (q_p20 (q_df a G e y z) 20 1 (-1, -1)).2) : ∃ k, T_X10_parting_65 Q K k M y z (nI e) v4 v5 v6 (-1) (-1) 1 := by
  have key : ∀ m p (s : Int32 × Int32) (M' : gx_M), p + m = 21 → 1 ≤ p → FrV M M' → q_p20 (q_df a G e y z) 20 1 (-1, -1) = q_p20 (q_df a G e y z) m p s → T_X10_parting_65 Q K (m + 1) M' y z (nI e) v4 v5 v6 s.1 s.2 (nI p) := by
    intro m
    induction m with
    | zero =>
      intro p s M' hp hp1 hF hq
      obtain rfl : p = 21 := by omega
      unfold T_X10_parting_65
      refine qt (show nI 20 < nI 21 from nI_lt (by omega) (by omega)) ?_
      have := h M' hF
      rw [hq] at this
      exact this
    | succ m ih =>
      intro p s M' hp hp1 hF hq
      have hx : 1 ≤ nI p ∧ nI p ≤ 50 := ⟨show nI 1 ≤ nI p from nI_le hp1 (by omega), show nI p ≤ nI 50 from nI_le (by omega) (by omega)⟩
      have st : q_p20 (q_df a G e y z) (m + 1) p s = q_p20 (q_df a G e y z) m (p + 1) (if nI (q_df a G e y z p) ≤ s.2 then s else (nI p, nI (q_df a G e y z p))) := rfl
      rw [st] at hq
      unfold T_X10_parting_65 T_X1_forget
      refine qf (show ¬ nI 20 < nI p from nI_nlt (by omega) (by omega)) ?_
      rintro _ rfl _ rfl _ rfl
      refine s_draw (q_B2_core hC hF hx hy) e1 e2 (fun M4 f4 C4 g4 => s_copyBits (by decide) g4 (fun M5 f5 g5 => ?_))
      rintro _ rfl _ rfl
      have F5 : FrV M M5 := ((hF.up _ _).w f4).k f5
      have up34 : gx_up M5 34 3 (nI p) = M5 := by
        funext q j
        rw [gu_at]
        by_cases w : q = 34 ∧ j = 3
        · rw [if_pos w, w.1, w.2, f5 34 (by decide), f4 34 (by decide) (by decide) (by decide) (by decide) (by decide) (by decide), gu_ne (by decide), gu_ne (by decide), gu_eq, ub_eq]
        · rw [if_neg w]
      have C6 := q_B2_core hC F5 hx hz
      have F6 := F5.up (nI p) z
      rw [up34] at C6 F6
      refine s_draw C6 e1 e2 (fun M7 f7 C7 g7 => s_unlike (x := q_rows (q_G (q_B2 a (nI p) y) G e) 1) (fun c hc => ⟨?_, q_rows_lt _ _ _⟩) g7 ?_)
      · rw [f7 11 (by decide) (by decide) (by decide) (by decide) (by decide) (by decide), gu_ne (by decide), gu_ne (by decide)]; exact g5 c hc
      · rw [q_un_rows]
        show if nI (q_df a G e y z p) ≤ s.2 then _ else _
        unfold T_X10_parting_180
        refine qc (fun w => ?_) (fun w => ?_)
        · rintro _ rfl
          rw [if_pos w] at hq
          rw [nI_1]
          exact ih (p + 1) s M7 (by omega) (by omega) (F6.w f7) hq
        · rintro _ rfl
          rw [if_neg w] at hq
          rw [nI_1]
          exact ih (p + 1) (nI p, nI (q_df a G e y z p)) M7 (by omega) (by omega) (F6.w f7) hq
  exact ⟨21, key 20 1 (-1, -1) M (by omega) (by omega) ⟨fun _ _ _ _ _ _ _ _ _ _ => rfl, fun _ _ => rfl, fun _ _ => rfl⟩ rfl⟩
theorem pos_on {x : Int32} : x ≤ 0 ↔ ¬ 1 ≤ x := by
  rw [Int32.le_iff_toInt_le, Int32.le_iff_toInt_le, show (0 : Int32).toInt = 0 from rfl, show (1 : Int32).toInt = 1 from rfl]
  omega
theorem n_part90 {N : gx_M} {g : Nat → Int32} {v1 v2 v3 v4 v5 v6 v7 v8 v9 : Int32} {Q : Int32 → gx_M → Prop} {K : gx_M → Int32 → Int32 → Int32 → Int32 → Int32 → Int32 → Int32 → Int32 → Int32 → Prop} (hg : ∀ d, d < 320 → N 21 d = g d) (h : ∀ N' : gx_M, (∀ o, o ≠ 23 → N' o = N o) → (∀ d, d < 320 → N' 23 d = b2i (q_on g 1 d)) → K N' v1 v2 v3 v4 v5 v6 v7 v8 v9) : ∃ k, T_X11_parting_90 Q K k N v1 v2 v3 v4 v5 v6 v7 v8 v9 0 := by
  have key : ∀ m d (N' : gx_M), d + m = 320 → (∀ o, o ≠ 23 → N' o = N o) → (∀ d', d' < d → N' 23 d' = b2i (q_on g 1 d')) → T_X11_parting_90 Q K (m + 1) N' v1 v2 v3 v4 v5 v6 v7 v8 v9 (nI d) := by
    intro m
    induction m with
    | zero =>
      intro d N' hd hf h1
      obtain rfl : d = 320 := by omega
      unfold T_X11_parting_90
      exact qt (show nI 320 ≤ nI 320 from nI_le (by omega) (by omega)) (h N' hf h1)
    | succ m ih =>
      intro d N' hd hf h1
      unfold T_X11_parting_90 T_X11_parting_119
      refine qf (show ¬ nI 320 ≤ nI d from nI_ge (by omega) (by omega)) ⟨vp_in_nI (by omega) (by omega), ?_⟩
      rw [nI_clamp (by omega), hf 21 (by decide), hg d (by omega), nar0, nar1]
      have go : ∀ x : Int32, x = b2i (q_on g 1 d) → T_X11_parting_90 Q K (m + 1) (gx_up N' 23 d x) v1 v2 v3 v4 v5 v6 v7 v8 v9 (nI d + 1) := by
        rintro _ rfl
        rw [nI_1]
        refine ih (d + 1) _ (by omega) (fun o ho => by rw [gu_ne ho]; exact hf o ho) (fun d' hd' => ?_)
        rw [gu_eq]
        by_cases z : d' = d
        · subst z; rw [ub_eq]
        · rw [ub_ne z]; exact h1 d' (by omega)
      refine qc (fun z => ⟨vp_in_nI (by omega) (by omega), ?_⟩) (fun z => ⟨vp_in_nI (by omega) (by omega), ?_⟩)
      · rintro _ rfl _ rfl
        refine go _ ?_
        unfold q_on
        rw [decide_eq_false (pos_on.mp z)]
      · rintro _ rfl _ rfl
        refine go _ ?_
        unfold q_on
        rw [decide_eq_true (Decidable.not_not.mp (fun y => z (pos_on.mpr y)))]
  exact ⟨321, key 320 0 N (by omega) (fun _ _ => rfl) (fun d' hd' => absurd hd' (Nat.not_lt_zero _))⟩
theorem n_part145 {N : gx_M} {f1 : Nat → Bool} {g : Nat → Int32} {v1 v2 v3 v4 v5 v6 v7 v8 v9 : Int32} {Q : Int32 → gx_M → Prop} {K : gx_M → Int32 → Int32 → Int32 → Int32 → Int32 → Int32 → Int32 → Int32 → Int32 → Int32 → Prop} (h23 : ∀ d, d < 320 → N 23 d = b2i (f1 d)) (hg : ∀ d, d < 320 → N 21 d = g d) (h : K N v1 v2 v3 v4 v5 v6 v7 v8 v9 (nI (q_cnt (fun d => f1 d ^^ q_on g 1 d) 320))) : ∃ k, T_X11_parting_145 Q K k N v1 v2 v3 v4 v5 v6 v7 v8 v9 0 0 := by
  have key : ∀ m d, d + m = 320 → T_X11_parting_145 Q K (m + 1) N v1 v2 v3 v4 v5 v6 v7 v8 v9 (nI (q_cnt (fun d => f1 d ^^ q_on g 1 d) d)) (nI d) := by
    intro m
    induction m with
    | zero =>
      intro d hd
      obtain rfl : d = 320 := by omega
      unfold T_X11_parting_145
      exact qt (show nI 320 ≤ nI 320 from nI_le (by omega) (by omega)) h
    | succ m ih =>
      intro d hd
      unfold T_X11_parting_145 T_X11_parting_177 T_X11_parting_185
      refine qf (show ¬ nI 320 ≤ nI d from nI_ge (by omega) (by omega)) ⟨vp_in_nI (by omega) (by omega), vp_in_nI (by omega) (by omega), ?_⟩
      rw [nI_clamp (by omega), hg d (by omega), h23 d (by omega)]
      have go : ∀ k : Nat, k = (f1 d ^^ q_on g 1 d).toNat → T_X11_parting_145 Q K (m + 1) N v1 v2 v3 v4 v5 v6 v7 v8 v9 (nI (q_cnt (fun d => f1 d ^^ q_on g 1 d) d + k)) (nI d + 1) := by
        rintro _ rfl
        rw [nI_1]
        exact ih (d + 1) (by omega)
      have e0 : nI (q_cnt (fun d => f1 d ^^ q_on g 1 d) d) + 0 = nI (q_cnt (fun d => f1 d ^^ q_on g 1 d) d + 0) := nI_add _ 0
      have e1 : nI (q_cnt (fun d => f1 d ^^ q_on g 1 d) d) + 1 = nI (q_cnt (fun d => f1 d ^^ q_on g 1 d) d + 1) := nI_add _ 1
      rw [e0, e1]
      refine qc (fun z => ?_) (fun z => ?_)
      · have hon : q_on g 1 d = false := by unfold q_on; exact decide_eq_false (pos_on.mp z)
        rw [hon] at go
        cases hf : f1 d with
        | false =>
          rw [hf] at go
          refine qt rfl ?_
          rintro _ rfl _ rfl
          exact go 0 rfl
        | true =>
          rw [hf] at go
          refine qf (by decide) ?_
          rintro _ rfl _ rfl
          exact go 1 rfl
      · have hon : q_on g 1 d = true := by unfold q_on; exact decide_eq_true (Decidable.not_not.mp (fun y => z (pos_on.mpr y)))
        rw [hon] at go
        cases hf : f1 d with
        | false =>
          rw [hf] at go
          refine qf (by decide) ?_
          rintro _ rfl _ rfl
          exact go 1 rfl
        | true =>
          rw [hf] at go
          refine qt rfl ?_
          rintro _ rfl _ rfl
          exact go 0 rfl
  exact ⟨321, key 320 0 (by omega)⟩
/-- what showing changes in the reference -/
def FrH (N N' : gx_M) : Prop := (∀ o, o ≠ 0 → o ≠ 9 → o ≠ 18 → o ≠ 19 → o ≠ 20 → o ≠ 21 → N' o = N o) ∧ ∀ j, j ≠ 35 → N' 0 j = N 0 j
theorem FrH.fn {N N' : gx_M} (h : FrH N N') : FN N N' := ⟨fun o a b c d e f _ _ => h.1 o a b c d e f, fun j a _ _ => h.2 j a⟩
theorem n_shows2 {N : gx_M} {G : List (Bool × List Int32)} {e : Nat} {Q : gx_M → Prop} (hok : okA (N 1)) (hp : q_rc N (N 1 1) G) (hg : q_wf G) (he : e ≤ 2000)
    (h : ∀ N' : gx_M, FrH N N' → N' 1 = N 1 → (∀ d, d < 320 → N' 21 d = q_G (N 1) G e d) → Q N') : T_X11_shows N (nI e) Q := by
  unfold T_X11_shows
  refine n_laysBoth hok (fun N1 g1 g2 => ?_)
  have e1 : N1 1 = N 1 := g1 1 (by decide)
  refine n_sweeps (G := G) (by rw [e1]; exact hok) (by rw [e1]; exact hp.kept (fun o q1 q2 => g1 o (by omega))) hg (by rw [e1]; exact g2) he (fun N2 k1 k2 k3 k4 => ?_)
  rw [e1] at k2 k3 k4
  have n21 : N2 1 = N 1 := (k1.1 1 (by decide) (by decide) (by decide) (by decide)).trans e1
  have p3 := (okP hok).2.1
  refine n_draws (by rw [n21]; exact hok) he k2 k3 k4 (fun b hb => by have := q_SL_bd _ _ _ _ _ hb; omega) (fun c hc t ht => by rw [n21, k1.1 9 (by decide) (by decide) (by decide) (by decide)]; exact g2 c hc t ht) (fun N3 f3 f4 => ?_)
  rw [n21] at f4
  refine h N3 ⟨fun o a b c d x y => (f3 o y).trans ((k1.1 o a c d x).trans (g1 o b)), fun j hj => by rw [f3 0 (by decide), k1.2 j hj, g1 0 (by decide)]⟩ ((f3 1 (by decide)).trans n21) f4
theorem n_part20 {N : gx_M} {G : List (Bool × List Int32)} {e : Nat} {y z v4 v5 v6 : Int32} {Q : Int32 → gx_M → Prop} {K : gx_M → Int32 → Int32 → Int32 → Int32 → Int32 → Prop} (hok : okA (N 1)) (hrc : q_rc N (N 1 1) G) (hg : q_wf G) (e2 : e ≤ 2000) (hy : 0 ≤ y ∧ y ≤ 3) (hz : 0 ≤ z ∧ z ≤ 3) (h : ∀ (x3 y3 : Int32) (N3 : gx_M), FrR N N3 → N3 1 = q_B2 (N 1) x3 y3 → K N3 v4 v5 v6 (q_p20 (q_df (N 1) G e y z) 20 1 (-1, -1)).1 (q_p20 (q_df (N 1) G e y z) 20 1 (-1, -1)).2) : ∃ k, T_X11_parting_59 Q K k N y z (nI e) v4 v5 v6 (-1) (-1) 1 := by
  have c2 : (2 : Int32).toNatClampNeg = 2 := rfl
  have c10 : (10 : Int32).toNatClampNeg = 10 := rfl
  have key : ∀ m p (s : Int32 × Int32) (x0 y0 : Int32) (N' : gx_M), p + m = 21 → 1 ≤ p → FrR N N' → N' 1 = q_B2 (N 1) x0 y0 → q_p20 (q_df (N 1) G e y z) 20 1 (-1, -1) = q_p20 (q_df (N 1) G e y z) m p s → T_X11_parting_59 Q K (m + 1) N' y z (nI e) v4 v5 v6 s.1 s.2 (nI p) := by
    intro m
    induction m with
    | zero =>
      intro p s x0 y0 N' hp hp1 hF h1 hq
      obtain rfl : p = 21 := by omega
      unfold T_X11_parting_59
      refine qt (show nI 21 ≤ nI 21 from nI_le (by omega) (by omega)) ?_
      have := h x0 y0 N' hF h1
      rw [hq] at this
      exact this
    | succ m ih =>
      intro p s x0 y0 N' hp hp1 hF h1 hq
      have hx : 1 ≤ nI p ∧ nI p ≤ 50 := ⟨show nI 1 ≤ nI p from nI_le hp1 (by omega), show nI p ≤ nI 50 from nI_le (by omega) (by omega)⟩
      have st : q_p20 (q_df (N 1) G e y z) (m + 1) p s = q_p20 (q_df (N 1) G e y z) m (p + 1) (if nI (q_df (N 1) G e y z p) ≤ s.2 then s else (nI p, nI (q_df (N 1) G e y z p))) := rfl
      rw [st] at hq
      unfold T_X11_parting_59
      refine qf (show ¬ nI 21 ≤ nI p from nI_ge (by omega) (by omega)) ⟨by unfold vp_in; decide, ?_⟩
      rintro _ rfl
      refine ⟨by unfold vp_in; decide, ?_⟩
      rintro _ rfl
      rw [c2, c10]
      have e8 : gx_up (gx_up N' 1 2 (nI p)) 1 10 y 1 = q_B2 (N 1) (nI p) y := by rw [gu_eq, gu_eq, h1, q_B2_B]
      have F8 : FrR N (gx_up (gx_up N' 1 2 (nI p)) 1 10 y) := (hF.up 2 _).up 10 _
      have rc : ∀ N2 : gx_M, FrR N N2 → ∀ x' y' : Int32, N2 1 = q_B2 (N 1) x' y' → q_rc N2 (N2 1 1) G := fun N2 F2 x' y' h2 => by
        rw [h2, q_B2_1]
        exact hrc.kept (fun o q1 q2 => F2.1 o (by omega) (by omega) (by omega) (by omega) (by omega) (by omega) (by omega) (by omega) (by omega))
      refine n_shows2 (by rw [e8]; exact q_B2_ok hok hx hy) (rc _ F8 _ _ e8) hg e2 (fun N2 f2 n2 g2 => ?_)
      rw [e8] at n2 g2
      have F2 : FrR N N2 := F8.n f2.fn
      refine n_part90 g2 (fun N3 f3 g3 => ⟨by unfold vp_in; decide, ?_⟩)
      rintro _ rfl
      have F4 : FrR N (gx_up N3 1 10 z) := by
        refine FrR.up ?_ 10 z
        exact ⟨fun o a0 a1 a2 a3 a4 a5 a6 a7 a8 => (f3 o a8).trans (F2.1 o a0 a1 a2 a3 a4 a5 a6 a7 a8), fun j b1 b2 b3 => by rw [f3 0 (by decide)]; exact F2.2 j b1 b2 b3⟩
      have e9 : gx_up N3 1 10 z 1 = q_B2 (N 1) (nI p) z := by rw [gu_eq, f3 1 (by decide), n2, q_B2_10]
      refine n_shows2 (by rw [e9]; exact q_B2_ok hok hx hz) (rc _ F4 _ _ e9) hg e2 (fun N5 f5 n5 g5 => ?_)
      rw [e9] at n5 g5
      have F5 : FrR N N5 := F4.n f5.fn
      refine n_part145 (f1 := fun d => q_on (q_G (q_B2 (N 1) (nI p) y) G e) 1 d) (fun d hd => by rw [f5.1 23 (by decide) (by decide) (by decide) (by decide) (by decide) (by decide), gu_ne (by decide)]; exact g3 d hd) g5 ?_
      show if nI (q_df (N 1) G e y z p) ≤ s.2 then _ else _
      unfold T_X11_parting_209
      refine qc (fun w => ?_) (fun w => ?_)
      · rintro _ rfl
        rw [if_pos w] at hq
        rw [nI_1]
        exact ih (p + 1) s (nI p) z N5 (by omega) (by omega) F5 n5 hq
      · rintro _ rfl
        rw [if_neg w] at hq
        rw [nI_1]
        exact ih (p + 1) (nI p, nI (q_df (N 1) G e y z p)) (nI p) z N5 (by omega) (by omega) F5 n5 hq
  exact ⟨21, key 20 1 (-1, -1) (N 1 2) (N 1 10) N (by omega) (by omega) FrR.rf (q_B2_id _).symm rfl⟩
theorem step_parting : st_parting RR := by
  intro M N h v1 v2 v3 v4
  have c2 : (2 : Int32).toNatClampNeg = 2 := rfl
  have c10 : (10 : Int32).toNatClampNeg = 10 := rfl
  have no : (¬ (0 ≤ v1 ∧ v1 ≤ 3) ∨ ¬ (0 ≤ v2 ∧ v2 ≤ 3) ∨ ¬ (1 ≤ v3 ∧ v3 ≤ 2000) ∨ ¬ (0 ≤ v4 ∧ v4 ≤ 1)) → T_X11_parting N v1 v2 v3 v4 (fun r2 N1 => -1 = r2 ∧ RR M N1) := fun z => by
    unfold T_X11_parting
    exact gn_isSignal (fun _ => ⟨rfl, h⟩) (fun q1 => gn_isSignal (fun _ => ⟨rfl, h⟩) (fun q2 => gn_isEnd (fun _ => ⟨rfl, h⟩) (fun q3 => gd_in (fun _ => ⟨rfl, h⟩) (fun q4 => absurd z (by rintro (a | a | a | a); exact a q1; exact a q2; exact a q3; exact a q4)))))
  unfold T_X10_parting
  refine gd_isSignal (fun n1 => no (Or.inl n1)) (fun s1 hs1 es1 => ?_)
  refine gd_isSignal (fun n2 => no (Or.inr (Or.inl n2))) (fun s2 hs2 es2 => ?_)
  have p1 : 0 ≤ v1 ∧ v1 ≤ 3 := by rw [es1]; exact v_n (n := 3) (by omega) (by omega)
  have p2 : 0 ≤ v2 ∧ v2 ≤ 3 := by rw [es2]; exact v_n (n := 3) (by omega) (by omega)
  refine gd_isSpan (fun n3 => no (Or.inr (Or.inr (Or.inl n3)))) (fun e e1 e2 ee => ?_)
  subst ee
  have p3 := v_1 e1 e2
  refine gd_within (fun n4 => no (Or.inr (Or.inr (Or.inr n4)))) (fun p4 => ?_)
  obtain ⟨G, hC, hrc⟩ := h.cur
  have hok := h.1.2.1
  have m3 : M 34 3 = N 1 2 := h.1.1.1.1 0 (by omega)
  have m4 : M 58 0 = N 1 10 := (h.1.1.2.2.1 0 (by omega)).1
  rintro _ rfl _ rfl
  refine s_part20 hC e1 e2 p1 p2 (fun M3 F3 => ?_)
  unfold T_X1_forget
  rintro _ rfl _ rfl _ rfl
  have fin : ∀ x : Int32, x = (if v4 = 0 then (q_p20 (q_df (N 1) G e v1 v2) 20 1 (-1, -1)).1 else (q_p20 (q_df (N 1) G e v1 v2) 20 1 (-1, -1)).2) → T_X11_parting N v1 v2 (nI e) v4 (fun r2 N1 => x = r2 ∧ RR (gx_up (gx_up (gx_up M3 34 3 (M 34 3)) 58 0 (M 58 0)) 1 5 0) N1) := by
    rintro _ rfl
    unfold T_X11_parting
    refine gn_isSignal (fun q => absurd p1 q) (fun _ => gn_isSignal (fun q => absurd p2 q) (fun _ => gn_isEnd (fun q => absurd p3 q) (fun _ => gd_in (fun q => absurd p4 q) (fun _ => ⟨by unfold vp_in; decide, ?_⟩))))
    rintro _ rfl
    refine ⟨by unfold vp_in; decide, ?_⟩
    rintro _ rfl
    refine n_part20 hok hrc hC.2.2.2.2 e2 p1 p2 (fun x3 y3 N3 F4 h3 => ⟨by unfold vp_in; decide, ?_⟩)
    rintro _ rfl
    refine ⟨by unfold vp_in; decide, ?_⟩
    rintro _ rfl
    rw [c2, c10]
    have last : gx_up (gx_up N3 1 2 (N 1 2)) 1 10 (N 1 10) 1 = N 1 := by rw [gu_eq, gu_eq, h3, q_B2_B, q_B2_id]
    have F5 : FN N (gx_up (gx_up N3 1 2 (N 1 2)) 1 10 (N 1 10)) := ((F4.up 2 _).up 10 _).fn last
    have F6 : FC M (gx_up (gx_up (gx_up M3 34 3 (M 34 3)) 58 0 (M 58 0)) 1 5 0) := fun o a1 a2 a3 a9 _ a11 a13 a14 _ => by
      rw [gu_ne a1]
      by_cases z : o = 58
      · subst z
        rw [gu_eq, gu_ne (by decide)]
        funext j
        by_cases y : j = 0
        · subst y; rw [ub_eq]
        · rw [ub_ne y]; exact F3.2.2 j y
      · rw [gu_ne z]
        by_cases w : o = 34
        · subst w
          rw [gu_eq]
          funext j
          by_cases y : j = 3
          · subst y; rw [ub_eq]
          · rw [ub_ne y]; exact F3.2.1 j y
        · rw [gu_ne w]; exact F3.1 o a1 a2 a3 a9 a11 a13 a14 w z
    have hRR := h.frame F6 F5 (q_cacheL.none (by rw [gu_eq, ub_eq]))
    exact qc (fun z => ⟨by rw [if_pos z], hRR⟩) (fun z => ⟨by rw [if_neg z], hRR⟩)
  exact qc (fun z => fin _ (by rw [if_pos z])) (fun z => fin _ (by rw [if_neg z]))
