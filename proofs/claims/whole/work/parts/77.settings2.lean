/-! settings: the walks -/
theorem s_set8 {M : gx_M} {a : Nat → Int32} {G : List (Bool × List Int32)} {e p : Nat} {n i v4 v5 : Int32} {Q : Int32 → gx_M → Prop} {K : gx_M → Int32 → Int32 → Int32 → Int32 → Int32 → Int32 → Int32 → Int32 → Prop} (hC : q_core a G M) (e1 : 1 ≤ e) (e2 : e ≤ 2000) (hp1 : 1 ≤ p) (hp : p ≤ 20) : ∀ m k (s : Int32 × Int32) (M' : gx_M), k + m = 8 → FrS M M' → q_cache a M' → (∀ M3 : gx_M, FrS M M3 → q_cache a M3 → K M3 (nI e) n i v4 v5 (q_s8 (q_fits a G e n) i p m k s).1 (q_s8 (q_fits a G e n) i p m k s).2 (nI p)) → T_X10_settings_67 Q K (m + 1) M' (nI e) n i v4 v5 s.1 s.2 (nI p) (nI k) := by
  have hok := hC.2.1
  intro m
  induction m with
  | zero =>
    intro k s M' hk hF hc hK
    obtain rfl : k = 8 := by omega
    unfold T_X10_settings_67
    exact qt (show nI 8 ≤ nI 8 from nI_le (by omega) (by omega)) (hK M' hF hc)
  | succ m ih =>
    intro k s M' hk hF hc hK
    have hx : 1 ≤ nI p ∧ nI p ≤ 50 := ⟨show nI 1 ≤ nI p from nI_le hp1 (by omega), show nI p ≤ nI 50 from nI_le (by omega) (by omega)⟩
    have okq := q_A_ok hok hx (gains_ok k (by omega))
    have C8 : q_core (q_A a (nI p) (gx_gains k)) G (gx_up (gx_up M' 34 3 (nI p)) 58 4 (gx_gains k)) := by
      refine ⟨(q_A_RS hC.1 hok hx).kept0 okq (fun o ho => hF.eq _ _ o (by omega)), okq, (hc.cong hok (q_A_sim a _ _)).kept (by rw [gu_ne (by decide), gu_ne (by decide)]) (by rw [gu_ne (by decide), gu_ne (by decide)]) (by rw [gu_ne (by decide), gu_ne (by decide)]), ?_, hC.2.2.2.2⟩
      have q1 : q_A a (nI p) (gx_gains k) 1 = a 1 := by unfold q_A; rw [ub_ne (by decide), ub_ne (by decide)]
      rw [q1]
      exact hC.2.2.2.1.kept (fun q h1 h2 => by rw [gu_ne (by omega), gu_ne (by omega)]; exact hF.1 q (by omega) (by omega) (by omega) (by omega) (by omega) (by omega) (by omega) (by omega))
    have st : q_s8 (q_fits a G e n) i p (m + 1) k s = q_s8 (q_fits a G e n) i p m (k + 1) (if q_fits a G e n p k = true then (s.1 + 1, if s.1 = i then 1000 * nI p + gx_gains k else s.2) else s) := rfl
    rw [st] at hK
    unfold T_X10_settings_67
    refine qf (show ¬ nI 8 ≤ nI k from nI_ge (by omega) (by omega)) ?_
    rintro _ rfl
    refine ⟨vp_in_nI (by omega) (by omega), ?_⟩
    rintro _ rfl
    rw [nI_clamp (show k < 2 ^ 31 by omega)]
    refine s_draw C8 e1 e2 (fun M9 f9 C9 g9 => s_unlike (x := fun c => (a (150 + c)).toNatClampNeg) (fun c hc2 => ⟨?_, (okF hok hc2).2⟩) g9 ?_)
    · rw [f9 40 (by decide) (by decide) (by decide) (by decide) (by decide) (by decide), gu_ne (by decide), gu_ne (by decide), hF.1 40 (by decide) (by decide) (by decide) (by decide) (by decide) (by decide) (by decide) (by decide)]
      exact (show M 40 c = a (150 + c) from hC.1.2.1 c hc2).trans (okF hok hc2).1
    · have F9 : FrS M M9 := (hF.up _ _).w f9
      have c9 : q_cache a M9 := C9.2.2.1.cong okq (fun r hr => (q_A_sim a _ _ r hr).symm)
      unfold T_X10_settings_151 T_X10_settings_154
      refine qc (fun z => ?_) (fun z => ?_)
      · have hfit : q_fits a G e n p k = true := (q_un_isp hok).mp z
        rw [if_pos hfit] at hK
        refine qc (fun zi => ⟨vp_in_nI (by omega) (by omega), ?_⟩) (fun zi => ?_)
        · rintro _ rfl _ rfl _ rfl
          rw [if_pos zi] at hK
          rw [nI_1]
          exact ih (k + 1) (s.1 + 1, 1000 * nI p + gx_gains k) M9 (by omega) F9 c9 hK
        · rintro _ rfl _ rfl
          rw [if_neg zi] at hK
          rw [nI_1]
          exact ih (k + 1) (s.1 + 1, s.2) M9 (by omega) F9 c9 hK
      · have hfit : ¬ q_fits a G e n p k = true := fun q => z ((q_un_isp hok).mpr q)
        rw [if_neg hfit] at hK
        rintro _ rfl
        rw [nI_1]
        exact ih (k + 1) s M9 (by omega) F9 c9 hK
theorem s_set20 {M : gx_M} {a : Nat → Int32} {G : List (Bool × List Int32)} {e : Nat} {n i v4 v5 : Int32} {Q : Int32 → gx_M → Prop} {K : gx_M → Int32 → Int32 → Int32 → Int32 → Int32 → Prop} (hC : q_core a G M) (e1 : 1 ≤ e) (e2 : e ≤ 2000) : ∀ m p (s : Int32 × Int32) (M' : gx_M), p + m = 21 → 1 ≤ p → FrS M M' → q_cache a M' → (∀ M3 : gx_M, FrS M M3 → q_cache a M3 → K M3 i v4 v5 (q_s20 (q_fits a G e n) i m p s).1 (q_s20 (q_fits a G e n) i m p s).2) → T_X10_settings_57 Q K (m + 1) M' (nI e) n i v4 v5 s.1 s.2 (nI p) := by
  intro m
  induction m with
  | zero =>
    intro p s M' hp hp1 hF hc hK
    obtain rfl : p = 21 := by omega
    unfold T_X10_settings_57
    exact qt (show nI 20 < nI 21 from nI_lt (by omega) (by omega)) (hK M' hF hc)
  | succ m ih =>
    intro p s M' hp hp1 hF hc hK
    unfold T_X10_settings_57
    refine qf (show ¬ nI 20 < nI p from nI_nlt (by omega) (by omega)) ⟨9, s_set8 hC e1 e2 hp1 (by omega) 8 0 s M' (by omega) hF hc (fun M3 F3 c3 => ?_)⟩
    rintro _ rfl
    rw [nI_1]
    exact ih (p + 1) (q_s8 (q_fits a G e n) i p 8 0 s) M3 (by omega) (by omega) F3 c3 hK
/-- what the reference has changed while it tries -/
def FrR (N N' : gx_M) : Prop := (∀ o, o ≠ 0 → o ≠ 1 → o ≠ 9 → o ≠ 18 → o ≠ 19 → o ≠ 20 → o ≠ 21 → o ≠ 22 → o ≠ 23 → N' o = N o) ∧ ∀ j, j ≠ 35 → j ≠ 39 → j ≠ 40 → N' 0 j = N 0 j
theorem FrR.rf {N : gx_M} : FrR N N := ⟨fun _ _ _ _ _ _ _ _ _ _ => rfl, fun _ _ _ _ => rfl⟩
theorem FrR.up {N N' : gx_M} (h : FrR N N') (j : Nat) (x : Int32) : FrR N (gx_up N' 1 j x) := ⟨fun o a0 a1 a2 a3 a4 a5 a6 a7 a8 => by rw [gu_ne a1]; exact h.1 o a0 a1 a2 a3 a4 a5 a6 a7 a8, fun k b1 b2 b3 => by rw [gu_ne (by decide)]; exact h.2 k b1 b2 b3⟩
theorem FrR.n {N N1 N' : gx_M} (h : FrR N N1) (k : FN N1 N') : FrR N N' := ⟨fun o a0 a1 a2 a3 a4 a5 a6 a7 a8 => (k.1 o a0 a2 a3 a4 a5 a6 a7 a8).trans (h.1 o a0 a1 a2 a3 a4 a5 a6 a7 a8), fun j b1 b2 b3 => (k.2 j b1 b2 b3).trans (h.2 j b1 b2 b3)⟩
theorem FrR.fn {N N' : gx_M} (h : FrR N N') (e : N' 1 = N 1) : FN N N' := by
  refine ⟨fun o a0 a2 a3 a4 a5 a6 a7 a8 => ?_, h.2⟩
  by_cases z : o = 1
  · subst z; exact e
  · exact h.1 o a0 z a2 a3 a4 a5 a6 a7 a8
theorem q_A_vals (a : Nat → Int32) (x y : Int32) : q_A a x y 1 = a 1 ∧ q_A a x y 2 = x ∧ q_A a x y 3 = a 3 ∧ ∀ c, 150 ≤ c → q_A a x y c = a c := by
  unfold q_A
  exact ⟨by rw [ub_ne (by decide), ub_ne (by decide)], by rw [ub_ne (by decide), ub_eq], by rw [ub_ne (by decide), ub_ne (by decide)], fun c hc => by rw [ub_ne (by omega), ub_ne (by omega)]⟩
theorem q_A_SL {a : Nat → Int32} {G : List (Bool × List Int32)} {x y y' : Int32} (hok : okA (q_A a x y)) : q_SL (q_A a x y') G = q_SL (q_A a x y) G :=
  q_SL_cong (fun r hr => (q_A_sim a x y' r hr).trans (q_A_sim a x y r hr).symm) hok ((q_A_vals a x y').2.1.trans (q_A_vals a x y).2.1.symm) ((q_A_vals a x y').2.2.1.trans (q_A_vals a x y).2.2.1.symm)
theorem n_set8 {N : gx_M} {a : Nat → Int32} {G : List (Bool × List Int32)} {e p : Nat} {n i v4 v5 : Int32} {Q : Int32 → gx_M → Prop} {K : gx_M → Int32 → Int32 → Int32 → Int32 → Int32 → Int32 → Int32 → Int32 → Prop} (hok : okA a) (e2 : e ≤ 2000) (hp1 : 1 ≤ p) (hp : p ≤ 20) {L : List Nat} (hL : ∀ y, 1 ≤ y ∧ y ≤ 999 → q_SL (q_A a (nI p) y) G e 0 0 0 = L) (hl : L.length ≤ 100) : ∀ m k (s : Int32 × Int32) (y : Int32) (N' : gx_M), k + m = 8 → FrR N N' → N' 1 = q_A a (nI p) y → (1 ≤ y ∧ y ≤ 999) → (∀ c, c < 2 → ∀ t, t < 2000 → N' 9 (2000 * c + t) = q_O a c t) → N' 0 35 = nI L.length → q_lst (N' 20) L → (∀ (y3 : Int32) (N3 : gx_M), FrR N N3 → N3 1 = q_A a (nI p) y3 → (1 ≤ y3 ∧ y3 ≤ 999) → (∀ c, c < 2 → ∀ t, t < 2000 → N3 9 (2000 * c + t) = q_O a c t) → K N3 (nI e) n i v4 v5 (q_s8 (q_fits a G e n) i p m k s).1 (q_s8 (q_fits a G e n) i p m k s).2 (nI p)) → T_X11_settings_74 Q K (m + 1) N' (nI e) n i v4 v5 s.1 s.2 (nI p) (nI k) := by
  have c12 : (12 : Int32).toNatClampNeg = 12 := rfl
  have hx : 1 ≤ nI p ∧ nI p ≤ 50 := ⟨show nI 1 ≤ nI p from nI_le hp1 (by omega), show nI p ≤ nI 50 from nI_le (by omega) (by omega)⟩
  intro m
  induction m with
  | zero =>
    intro k s y N' hk hF h1 hy ho h35 h20 hK
    obtain rfl : k = 8 := by omega
    unfold T_X11_settings_74
    exact qt (show nI 8 ≤ nI 8 from nI_le (by omega) (by omega)) (hK y N' hF h1 hy ho)
  | succ m ih =>
    intro k s y N' hk hF h1 hy ho h35 h20 hK
    have okq := q_A_ok hok hx (gains_ok k (by omega))
    have st : q_s8 (q_fits a G e n) i p (m + 1) k s = q_s8 (q_fits a G e n) i p m (k + 1) (if q_fits a G e n p k = true then (s.1 + 1, if s.1 = i then 1000 * nI p + gx_gains k else s.2) else s) := rfl
    rw [st] at hK
    unfold T_X11_settings_74
    refine qf (show ¬ nI 8 ≤ nI k from nI_ge (by omega) (by omega)) (n_gainOf (by omega) ⟨by unfold vp_in; decide, ?_⟩)
    rintro _ rfl
    rw [c12]
    have e8 : gx_up N' 1 12 (gx_gains k) 1 = q_A a (nI p) (gx_gains k) := by rw [gu_eq, h1, q_A_12]
    have p3 := (okP okq).2.1
    refine n_draws (L := L) (by rw [e8]; exact okq) e2 hl (by rw [gu_ne (by decide)]; exact h35) (by rw [gu_ne (by decide)]; exact h20) (fun b hb => by rw [← hL _ (gains_ok k (by omega))] at hb; have := q_SL_bd _ _ _ _ _ hb; omega) (fun c hc t ht => by rw [e8, gu_ne (by decide), ho c hc t ht, q_O_cong (q_A_sim a _ _) hok hc]) (fun N2 f2 g2 => ?_)
    rw [e8] at g2
    have g3 : ∀ d, d < 320 → N2 21 d = q_G (q_A a (nI p) (gx_gains k)) G e d := fun d hd => by
      rw [g2 d hd]
      unfold q_G
      rw [hL _ (gains_ok k (by omega))]
    have n1 : N2 1 = q_A a (nI p) (gx_gains k) := (f2 1 (by decide)).trans e8
    have F2 : FrR N N2 := (hF.up 12 _).n f2.fn
    have o2 : ∀ c, c < 2 → ∀ t, t < 2000 → N2 9 (2000 * c + t) = q_O a c t := fun c hc t ht => by rw [f2 9 (by decide), gu_ne (by decide)]; exact ho c hc t ht
    have h352 : N2 0 35 = nI L.length := by rw [f2 0 (by decide), gu_ne (by decide)]; exact h35
    have h202 : q_lst (N2 20) L := by rw [f2 20 (by decide), gu_ne (by decide)]; exact h20
    refine n_isPhoto (a := a) g3 (fun c hc => by rw [n1]; exact (q_A_vals a _ _).2.2.2 _ (by omega)) ?_
    show if b2i (q_fits a G e n p k) = 0 then _ else _
    unfold T_X11_settings_129 T_X11_settings_134
    cases hfit : q_fits a G e n p k with
    | false =>
      rw [hfit, if_neg (by decide)] at hK
      refine qt rfl ?_
      rintro _ rfl
      rw [nI_1]
      exact ih (k + 1) s (gx_gains k) N2 (by omega) F2 n1 (gains_ok k (by omega)) o2 h352 h202 hK
    | true =>
      rw [hfit, if_pos rfl] at hK
      refine qf (by decide) (qc (fun zi => n_gainOf (by omega) ?_) (fun zi => ?_))
      · rintro _ rfl _ rfl
        rw [if_pos zi] at hK
        rw [nI_1]
        exact ih (k + 1) (s.1 + 1, 1000 * nI p + gx_gains k) (gx_gains k) N2 (by omega) F2 n1 (gains_ok k (by omega)) o2 h352 h202 hK
      · rintro _ rfl _ rfl
        rw [if_neg zi] at hK
        rw [nI_1]
        exact ih (k + 1) (s.1 + 1, s.2) (gx_gains k) N2 (by omega) F2 n1 (gains_ok k (by omega)) o2 h352 h202 hK
theorem n_set20 {N : gx_M} {G : List (Bool × List Int32)} {e : Nat} {n i v4 v5 : Int32} {Q : Int32 → gx_M → Prop} {K : gx_M → Int32 → Int32 → Int32 → Int32 → Int32 → Prop} (hok : okA (N 1)) (hrc : q_rc N (N 1 1) G) (hg : q_wf G) (e2 : e ≤ 2000) : ∀ m p (s : Int32 × Int32) (x y : Int32) (N' : gx_M), p + m = 21 → 1 ≤ p → FrR N N' → N' 1 = q_A (N 1) x y → (1 ≤ y ∧ y ≤ 999) → (∀ c, c < 2 → ∀ t, t < 2000 → N' 9 (2000 * c + t) = q_O (N 1) c t) → (∀ (x3 y3 : Int32) (N3 : gx_M), FrR N N3 → N3 1 = q_A (N 1) x3 y3 → K N3 i v4 v5 (q_s20 (q_fits (N 1) G e n) i m p s).1 (q_s20 (q_fits (N 1) G e n) i m p s).2) → T_X11_settings_51 Q K (m + 1) N' (nI e) n i v4 v5 s.1 s.2 (nI p) := by
  have c2 : (2 : Int32).toNatClampNeg = 2 := rfl
  intro m
  induction m with
  | zero =>
    intro p s x y N' hp hp1 hF h1 hy ho hK
    obtain rfl : p = 21 := by omega
    unfold T_X11_settings_51
    exact qt (show nI 21 ≤ nI 21 from nI_le (by omega) (by omega)) (hK x y N' hF h1)
  | succ m ih =>
    intro p s x y N' hp hp1 hF h1 hy ho hK
    have hx : 1 ≤ nI p ∧ nI p ≤ 50 := ⟨show nI 1 ≤ nI p from nI_le hp1 (by omega), show nI p ≤ nI 50 from nI_le (by omega) (by omega)⟩
    have okq := q_A_ok hok hx hy
    unfold T_X11_settings_51
    refine qf (show ¬ nI 21 ≤ nI p from nI_ge (by omega) (by omega)) ⟨by unfold vp_in; decide, ?_⟩
    rintro _ rfl
    rw [c2]
    have e8 : gx_up N' 1 2 (nI p) 1 = q_A (N 1) (nI p) y := by rw [gu_eq, h1, q_A_2]
    refine n_sweeps (G := G) (by rw [e8]; exact okq) ?_ hg (fun c hc t ht => by rw [e8, gu_ne (by decide), ho c hc t ht, q_O_cong (q_A_sim (N 1) _ _) hok hc]) e2 (fun N2 k1 k2 k3 k4 => ?_)
    · rw [e8, (q_A_vals (N 1) (nI p) y).1]
      exact hrc.kept (fun o q1 q2 => by rw [gu_ne (by omega)]; exact hF.1 o (by omega) (by omega) (by omega) (by omega) (by omega) (by omega) (by omega) (by omega) (by omega))
    rw [e8] at k2 k3 k4
    have n1 : N2 1 = q_A (N 1) (nI p) y := (k1.1 1 (by decide) (by decide) (by decide) (by decide)).trans e8
    refine ⟨9, n_set8 hok e2 hp1 (by omega) (L := q_SL (q_A (N 1) (nI p) y) G e 0 0 0) (fun y' hy' => by rw [q_A_SL okq]) k2 8 0 s y N2 (by omega) ((hF.up 2 _).n k1.fn) n1 hy (fun c hc t ht => by rw [k1.1 9 (by decide) (by decide) (by decide) (by decide), gu_ne (by decide)]; exact ho c hc t ht) k3 k4 (fun y3 N3 F3 h3 hy3 o3 => ?_)⟩
    rintro _ rfl
    rw [nI_1]
    exact ih (p + 1) (q_s8 (q_fits (N 1) G e n) i p 8 0 s) (nI p) y3 N3 (by omega) (by omega) F3 h3 hy3 o3 hK
theorem step_settings : st_settings RR := by
  intro M N h v1 v2 v3
  have c2 : (2 : Int32).toNatClampNeg = 2 := rfl
  have c12 : (12 : Int32).toNatClampNeg = 12 := rfl
  have no : (¬ (1 ≤ v1 ∧ v1 ≤ 2000) ∨ ¬ (1 ≤ v2 ∧ v2 ≤ 999) ∨ ¬ (-1 ≤ v3)) → T_X11_settings N v1 v2 v3 (fun r2 N1 => -1 = r2 ∧ RR M N1) := fun z => by
    unfold T_X11_settings
    exact gn_isEnd (fun _ => ⟨rfl, h⟩) (fun q1 => gn_isLight (fun _ => ⟨rfl, h⟩) (fun q2 => qc (fun q3 => absurd z (by rintro (a | a | a); exact a q1; exact a q2; exact a q3)) (fun _ => ⟨rfl, h⟩)))
  unfold T_X10_settings
  refine gd_isSpan (fun n1 => no (Or.inl n1)) (fun e e1 e2 ee => ?_)
  subst ee
  have p1 := v_1 e1 e2
  refine gd_within (fun n2 => no (Or.inr (Or.inl n2))) (fun p2 => qc (fun p3 => ?_) (fun n3 => no (Or.inr (Or.inr n3))))
  obtain ⟨G, hC, hrc⟩ := h.cur
  have hok := h.1.2.1
  have m3 : M 34 3 = N 1 2 := h.1.1.1.1 0 (by omega)
  have m4 : M 58 4 = N 1 12 := (h.1.1.2.2.1 0 (by omega)).2.2.2.2.1
  have hy : 1 ≤ N 1 12 ∧ N 1 12 ≤ 999 := (hok.2.1 0 (by omega)).2.1
  rintro _ rfl _ rfl
  refine ⟨21, s_set20 hC e1 e2 20 1 (0, -1) M (by omega) (by omega) ⟨fun _ _ _ _ _ _ _ _ _ => rfl, fun _ _ => rfl, fun _ _ => rfl⟩ h.1.2.2 (fun M3 F3 c3 => ?_)⟩
  rintro _ rfl _ rfl
  have fin : ∀ x : Int32, x = (if v3 = -1 then (q_s20 (q_fits (N 1) G e v2) v3 20 1 (0, -1)).1 else (q_s20 (q_fits (N 1) G e v2) v3 20 1 (0, -1)).2) → T_X11_settings N (nI e) v2 v3 (fun r2 N1 => x = r2 ∧ RR (gx_up (gx_up M3 34 3 (M 34 3)) 58 4 (M 58 4)) N1) := by
    rintro _ rfl
    unfold T_X11_settings
    refine gn_isEnd (fun q => absurd p1 q) (fun _ => gn_isLight (fun q => absurd p2 q) (fun _ => qt p3 ⟨by unfold vp_in; decide, ?_⟩))
    rintro _ rfl
    refine ⟨by unfold vp_in; decide, ?_⟩
    rintro _ rfl
    refine n_laysBoth hok (fun N1 g1 g2 => ?_)
    have n1 : N1 1 = N 1 := g1 1 (by decide)
    have F1 : FrR N N1 := FrR.rf.n (fn_lay g1)
    refine ⟨21, n_set20 hok hrc hC.2.2.2.2 e2 20 1 (0, -1) (N 1 2) (N 1 12) N1 (by omega) (by omega) F1 (by rw [n1, q_A_id]) hy g2 (fun x3 y3 N3 F4 h3 => ⟨by unfold vp_in; decide, ?_⟩)⟩
    rintro _ rfl
    refine ⟨by unfold vp_in; decide, ?_⟩
    rintro _ rfl
    rw [c2, c12]
    have last : gx_up (gx_up N3 1 2 (N 1 2)) 1 12 (N 1 12) 1 = N 1 := by rw [gu_eq, gu_eq, h3, q_A_A, q_A_id]
    have F5 : FN N (gx_up (gx_up N3 1 2 (N 1 2)) 1 12 (N 1 12)) := ((F4.up 2 _).up 12 _).fn last
    have F6 : FC M (gx_up (gx_up M3 34 3 (M 34 3)) 58 4 (M 58 4)) := fun o a1 a2 a3 a9 _ _ a13 a14 _ => by
      by_cases z : o = 58
      · subst z
        rw [gu_eq, gu_ne (by decide)]
        funext j
        by_cases y : j = 4
        · subst y; rw [ub_eq]
        · rw [ub_ne y]; exact F3.2.2 j y
      · rw [gu_ne z]
        by_cases w : o = 34
        · subst w
          rw [gu_eq]
          funext j
          by_cases y : j = 3
          · subst y; rw [ub_eq]
          · rw [ub_ne y]; exact F3.2.1 j y
        · rw [gu_ne w]; exact F3.1 o a1 a2 a3 a9 a13 a14 w z
    have hRR := h.frame F6 F5 (c3.kept (by rw [gu_ne (by decide), gu_ne (by decide)]) (by rw [gu_ne (by decide), gu_ne (by decide)]) (by rw [gu_ne (by decide), gu_ne (by decide)]))
    exact qc (fun z => ⟨by rw [if_pos z], hRR⟩) (fun z => ⟨by rw [if_neg z], hRR⟩)
  exact qc (fun z => fin _ (by rw [if_pos z])) (fun z => fin _ (by rw [if_neg z]))
