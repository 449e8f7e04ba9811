/-! the image, and back -/
theorem RS.cong {b : Nat} {a a' : Nat → Int32} {M : gx_M} (h : RS b a M) (hok : okA a) (e : ∀ r, r < 170 → a' r = a r) : RS b a' M := by
  obtain ⟨⟨h1, h2, h3⟩, h4, h5, h6⟩ := h
  refine ⟨⟨fun j hj => by rw [e _ (by omega)]; exact h1 j hj, by rw [e _ (by omega)]; exact h2, by rw [e _ (by omega)]; exact h3⟩, fun c hc => by rw [e _ (by omega)]; exact h4 c hc, fun c hc => by rw [e _ (by omega), e _ (by omega), e _ (by omega), e _ (by omega), e _ (by omega), e _ (by omega)]; exact h5 c hc, fun s hs => ?_⟩
  have k6 := (okN hok hs).1
  rw [e _ (by omega)]
  exact ⟨(h6 s hs).1, fun k hk j hj => by rw [e _ (by omega)]; exact (h6 s hs).2 k hk j hj⟩
theorem okA.cong {a a' : Nat → Int32} (hok : okA a) (e : ∀ r, r < 170 → a' r = a r) : okA a' := by
  have h := hok
  obtain ⟨h1, hc, hss, hp⟩ := h
  refine ⟨by rw [e 0 (by omega), e 1 (by omega), e 2 (by omega), e 3 (by omega), e 4 (by omega), e 5 (by omega), e 6 (by omega)]; exact h1, fun c c2 => by rw [e _ (by omega), e _ (by omega), e _ (by omega), e _ (by omega), e _ (by omega), e _ (by omega)]; exact hc c c2, fun s hs => ?_, fun c c2 => by rw [e _ (by omega)]; exact hp c c2⟩
  have k6 := (okN hok hs).1
  rw [e _ (by omega)]
  refine ⟨(hss s hs).1, fun k hk => ?_⟩
  rw [e _ (by omega), e _ (by omega), e _ (by omega), e _ (by omega), e _ (by omega)]
  exact (hss s hs).2 k hk
theorem s_sigcopy {M : gx_M} {s0 s1 n : Nat} {Q : gx_M → Prop} (h0 : s0 < 8) (h1 : s1 < 8) (hne : s0 ≠ s1) (hn : M (42 + s1) 1 = nI n) (h6 : n ≤ 6)
    (h : ∀ M' : gx_M, (∀ o, o ≠ 42 + s0 → ¬ (62 + 6 * s0 ≤ o ∧ o < 62 + 6 * s0 + 6) → M' o = M o) → M' (42 + s0) 1 = nI n → (∀ k, k < n → ∀ j, j < 5 → M' (62 + 6 * s0 + k) j = M (62 + 6 * s1 + k) j) → Q M') : T_X9_copyFrom M (42 + s0) (42 + s1) Q := by
  unfold T_X9_copyFrom
  rintro _ rfl
  have key : ∀ m k (M' : gx_M), k + m = n → (∀ o, o ≠ 42 + s0 → ¬ (62 + 6 * s0 ≤ o ∧ o < 62 + 6 * s0 + 6) → M' o = M o) → M' (42 + s0) 1 = nI k → (∀ k', k' < k → ∀ j, j < 5 → M' (62 + 6 * s0 + k') j = M (62 + 6 * s1 + k') j) → T_X9_copyFrom_7 Q (fun M6 => Q M6) (m + 1) M' (42 + s0) (42 + s1) (nI k) := by
    intro m
    induction m with
    | zero =>
      intro k M' hk hf hc hp
      obtain rfl : k = n := by omega
      unfold T_X9_copyFrom_7
      rw [hf (42 + s1) (by omega) (by omega), hn]
      exact qt (nI_le (Nat.le_refl _) (by omega)) (h M' hf hc hp)
    | succ m ih =>
      intro k M' hk hf hc hp
      unfold T_X9_copyFrom_7
      rw [hf (42 + s1) (by omega) (by omega), hn]
      refine qf (nI_ge (by omega) (by omega)) (qf (show ¬ nI 6 ≤ nI k from nI_ge (by omega) (by omega)) ⟨vp_in_nI (by omega) (by omega), ?_⟩)
      unfold T_X9_add
      rw [hc]
      have hw : (0 : Int32) ≤ nI k ∧ nI k ≤ 6 - 1 := ⟨nI_pos' (by omega), show nI k ≤ nI 5 from nI_le (by omega) (by omega)⟩
      refine gd_within (fun q => absurd hw q) (fun _ => ⟨vp_in_nI (by omega) (by omega), ?_⟩)
      rw [nI_clamp (by omega), show k + 6 * (42 + s0) - 190 = 62 + 6 * s0 + k by omega, show k + 6 * (42 + s1) - 190 = 62 + 6 * s1 + k by omega]
      unfold T_X3_set
      rintro _ rfl _ rfl _ rfl _ rfl _ rfl _ rfl _ rfl
      rw [nI_1]
      refine ih (k + 1) _ (by omega) (fun o q1 q2 => ?_) ?_ (fun k' hk' j hj => ?_)
      · rw [gu_ne q1, gu_ne (by omega), gu_ne (by omega), gu_ne (by omega), gu_ne (by omega), gu_ne (by omega)]; exact hf o q1 q2
      · rw [gu_eq, ub_eq, gu_ne (by omega), gu_ne (by omega), gu_ne (by omega), gu_ne (by omega), gu_ne (by omega), hc, nI_1]
      · by_cases e : k' = k
        · subst e
          have f : M' (62 + 6 * s1 + k') = M (62 + 6 * s1 + k') := hf _ (by omega) (by omega)
          rw [gu_ne (by omega)]
          simp only [gu_at, f]
          match j, hj with
          | 0, _ => simp
          | 1, _ => simp
          | 2, _ => simp
          | 3, _ => simp
          | 4, _ => simp
        · rw [gu_ne (by omega), gu_ne (by omega), gu_ne (by omega), gu_ne (by omega), gu_ne (by omega), gu_ne (by omega)]; exact hp k' (by omega) j hj
  refine ⟨n + 1, key n 0 _ (by omega) (fun o q1 q2 => gu_ne q1) (by rw [gu_eq, ub_eq]; rfl) (fun k' hk' => absurd hk' (Nat.not_lt_zero _))⟩
/-- the cells of the setup of number b -/
def q_own (b o : Nat) : Prop := o = 34 + b ∨ o = 40 + b ∨ (42 + 4 * b ≤ o ∧ o < 46 + 4 * b) ∨ (58 + 2 * b ≤ o ∧ o < 60 + 2 * b) ∨ (62 + 24 * b ≤ o ∧ o < 86 + 24 * b)
theorem s_copy {M : gx_M} {a : Nat → Int32} {b0 b1 : Nat} {Q : gx_M → Prop} (hb0 : b0 < 2) (hb1 : b1 < 2) (hne : b0 ≠ b1) (hR : RS b1 a M) (hok : okA a)
    (h : ∀ M' : gx_M, (∀ o, ¬ q_own b0 o → M' o = M o) → RS b0 a M' → Q M') : T_X8_copyFrom M (34 + b0) (34 + b1) Q := by
  obtain ⟨⟨h1, h2, h3⟩, h4, h5, h6⟩ := hR
  have k4 : ∀ M' : gx_M, (∀ o, ¬ q_own b0 o → M' o = M o) → (∀ s, s < 4 → M' (42 + 4 * b0 + s) 1 = a (24 + s) ∧ ∀ k, k < (a (24 + s)).toNatClampNeg → ∀ j, j < 5 → M' (62 + 6 * (4 * b0 + s) + k) j = a (30 + 30 * s + 5 * k + j)) → (∀ c, c < 2 → M' (58 + 2 * b0 + c) 0 = a (10 + c) ∧ M' (58 + 2 * b0 + c) 1 = a (16 + c) ∧ M' (58 + 2 * b0 + c) 2 = a (18 + c) ∧ M' (58 + 2 * b0 + c) 3 = a (20 + c) ∧ M' (58 + 2 * b0 + c) 4 = a (12 + c) ∧ M' (58 + 2 * b0 + c) 5 = a (14 + c)) → (∀ c, c < 20 → M' (40 + b0) c = a (150 + c)) → T_X8_copyFrom_120 Q M' (34 + b0) (34 + b1) := by
    intro M' hf hs hc hp
    unfold T_X8_copyFrom_120
    rintro _ rfl _ rfl _ rfl _ rfl _ rfl _ rfl _ rfl
    have f : M' (34 + b1) = M (34 + b1) := hf _ (by unfold q_own; omega)
    have n1 : 34 + b1 ≠ 34 + b0 := by omega
    refine h _ (fun o ho => ?_) ⟨⟨fun j hj => ?_, ?_, ?_⟩, fun c hc' => ?_, fun c hc' => ?_, fun s hs' => ?_⟩
    · have : o ≠ 34 + b0 := fun e => ho (Or.inl e)
      rw [gu_ne this, gu_ne this, gu_ne this, gu_ne this, gu_ne this, gu_ne this, gu_ne this]; exact hf o ho
    · simp only [gu_at, n1, f, false_and, if_false]
      match j, hj with
      | 0, _ => simp; exact h1 0 (by omega)
      | 1, _ => simp; exact h1 1 (by omega)
      | 2, _ => simp; exact h1 2 (by omega)
      | 3, _ => simp; exact h1 3 (by omega)
      | 4, _ => simp; exact h1 4 (by omega)
    · simp only [gu_at, n1, f, false_and, if_false]; simp; exact h2
    · simp only [gu_at, n1, f, false_and, if_false]; simp; exact h3
    · have : 40 + b0 ≠ 34 + b0 := by omega
      rw [gu_ne this, gu_ne this, gu_ne this, gu_ne this, gu_ne this, gu_ne this, gu_ne this]; exact hp c hc'
    · have : 58 + 2 * b0 + c ≠ 34 + b0 := by omega
      rw [gu_ne this, gu_ne this, gu_ne this, gu_ne this, gu_ne this, gu_ne this, gu_ne this]; exact hc c hc'
    · have : 42 + 4 * b0 + s ≠ 34 + b0 := by omega
      refine ⟨by rw [gu_ne this, gu_ne this, gu_ne this, gu_ne this, gu_ne this, gu_ne this, gu_ne this]; exact (hs s hs').1, fun k hk j hj => ?_⟩
      have : 62 + 6 * (4 * b0 + s) + k ≠ 34 + b0 := by omega
      rw [gu_ne this, gu_ne this, gu_ne this, gu_ne this, gu_ne this, gu_ne this, gu_ne this]; exact (hs s hs').2 k hk j hj
  have k3 : ∀ M' : gx_M, (∀ o, ¬ q_own b0 o → M' o = M o) → (∀ s, s < 4 → M' (42 + 4 * b0 + s) 1 = a (24 + s) ∧ ∀ k, k < (a (24 + s)).toNatClampNeg → ∀ j, j < 5 → M' (62 + 6 * (4 * b0 + s) + k) j = a (30 + 30 * s + 5 * k + j)) → (∀ c, c < 2 → M' (58 + 2 * b0 + c) 0 = a (10 + c) ∧ M' (58 + 2 * b0 + c) 1 = a (16 + c) ∧ M' (58 + 2 * b0 + c) 2 = a (18 + c) ∧ M' (58 + 2 * b0 + c) 3 = a (20 + c) ∧ M' (58 + 2 * b0 + c) 4 = a (12 + c) ∧ M' (58 + 2 * b0 + c) 5 = a (14 + c)) → T_X8_copyFrom_82 Q M' (34 + b0) (34 + b1) := by
    intro M' hf hs hc
    unfold T_X8_copyFrom_82
    have key : ∀ m c (M2 : gx_M), c + m = 20 → (∀ o, o ≠ 40 + b0 → M2 o = M' o) → (∀ c', c' < c → M2 (40 + b0) c' = a (150 + c')) → T_X8_copyFrom_84 Q (fun M26 o0_24 o1_25 => T_X8_copyFrom_120 Q M26 o0_24 o1_25) (m + 1) M2 (34 + b0) (34 + b1) (nI c) := by
      intro m
      induction m with
      | zero =>
        intro c M2 hcm h2f h2p
        obtain rfl : c = 20 := by omega
        unfold T_X8_copyFrom_84
        refine qt (show nI 20 ≤ nI 20 from nI_le (by omega) (by omega)) (k4 M2 (fun o ho => (h2f o (fun e => ho (Or.inr (Or.inl e)))).trans (hf o ho)) (fun s hs' => ?_) (fun c hc' => ?_) h2p)
        · rw [h2f _ (by omega)]
          refine ⟨(hs s hs').1, fun k hk j hj => ?_⟩
          rw [h2f _ (by omega)]; exact (hs s hs').2 k hk j hj
        · rw [h2f _ (by omega)]; exact hc c hc'
      | succ m ih =>
        intro c M2 hcm h2f h2p
        unfold T_X8_copyFrom_84
        refine qf (show ¬ nI 20 ≤ nI c from nI_ge (by omega) (by omega)) (qf (show ¬ nI 20 ≤ nI c from nI_ge (by omega) (by omega)) ⟨vp_in_nI (by omega) (by omega), vp_in_nI (by omega) (by omega), ?_⟩)
        rintro _ rfl _ rfl
        rw [nI_1, nI_clamp (by omega), show 6 + (34 + b0) = 40 + b0 by omega, show 6 + (34 + b1) = 40 + b1 by omega]
        refine ih (c + 1) _ (by omega) (fun o ho => by rw [gu_ne ho]; exact h2f o ho) (fun c' hc' => ?_)
        rw [gu_eq]
        by_cases e : c' = c
        · subst e
          rw [ub_eq, h2f _ (by omega), hf _ (by unfold q_own; omega)]; exact h4 c' (by omega)
        · rw [ub_ne e]; exact h2p c' (by omega)
    exact ⟨21, key 20 0 M' (by omega) (fun _ _ => rfl) (fun c' hc' => absurd hc' (Nat.not_lt_zero _))⟩
  have k2 : ∀ M' : gx_M, (∀ o, ¬ q_own b0 o → M' o = M o) → (∀ s, s < 4 → M' (42 + 4 * b0 + s) 1 = a (24 + s) ∧ ∀ k, k < (a (24 + s)).toNatClampNeg → ∀ j, j < 5 → M' (62 + 6 * (4 * b0 + s) + k) j = a (30 + 30 * s + 5 * k + j)) → T_X8_copyFrom_41 Q M' (34 + b0) (34 + b1) := by
    intro M' hf hs
    unfold T_X8_copyFrom_41
    have key : ∀ m c (M2 : gx_M), c + m = 2 → (∀ o, ¬ (58 + 2 * b0 ≤ o ∧ o < 60 + 2 * b0) → M2 o = M' o) → (∀ c, c < 2 - m → M2 (58 + 2 * b0 + c) 0 = a (10 + c) ∧ M2 (58 + 2 * b0 + c) 1 = a (16 + c) ∧ M2 (58 + 2 * b0 + c) 2 = a (18 + c) ∧ M2 (58 + 2 * b0 + c) 3 = a (20 + c) ∧ M2 (58 + 2 * b0 + c) 4 = a (12 + c) ∧ M2 (58 + 2 * b0 + c) 5 = a (14 + c)) → T_X8_copyFrom_43 Q (fun M16 o0_14 o1_15 => T_X8_copyFrom_82 Q M16 o0_14 o1_15) (m + 1) M2 (34 + b0) (34 + b1) (nI c) := by
      intro m
      induction m with
      | zero =>
        intro c M2 hcm h2f h2p
        obtain rfl : c = 2 := by omega
        unfold T_X8_copyFrom_43
        refine qt (show nI 2 ≤ nI 2 from nI_le (by omega) (by omega)) (k3 M2 (fun o ho => (h2f o (fun e => ho (Or.inr (Or.inr (Or.inr (Or.inl e)))))).trans (hf o ho)) (fun s hs' => ?_) h2p)
        rw [h2f _ (by omega)]
        refine ⟨(hs s hs').1, fun k hk j hj => ?_⟩
        rw [h2f _ (by omega)]; exact (hs s hs').2 k hk j hj
      | succ m ih =>
        intro c M2 hcm h2f h2p
        unfold T_X8_copyFrom_43
        refine qf (show ¬ nI 2 ≤ nI c from nI_ge (by omega) (by omega)) (qf (show ¬ nI 2 ≤ nI c from nI_ge (by omega) (by omega)) ⟨vp_in_nI (by omega) (by omega), vp_in_nI (by omega) (by omega), ?_⟩)
        rw [nI_clamp (by omega), show c + 2 * (34 + b0) - 10 = 58 + 2 * b0 + c by omega, show c + 2 * (34 + b1) - 10 = 58 + 2 * b1 + c by omega]
        unfold T_X2_copyFrom T_X2_setProbe T_X2_setView
        rintro _ rfl _ rfl _ rfl _ rfl _ rfl _ rfl _ rfl
        rw [nI_1]
        have n1 : 58 + 2 * b1 + c ≠ 58 + 2 * b0 + c := by omega
        have f : M2 (58 + 2 * b1 + c) = M (58 + 2 * b1 + c) := (h2f _ (by omega)).trans (hf _ (by unfold q_own; omega))
        obtain ⟨g0, g1, g2, g3, g4, g5⟩ := h5 c (by omega)
        refine ih (c + 1) _ (by omega) (fun o ho => ?_) (fun c' hc' => ?_)
        · have : o ≠ 58 + 2 * b0 + c := by omega
          rw [gu_ne this, gu_ne this, gu_ne this, gu_ne this, gu_ne this, gu_ne this]; exact h2f o ho
        · by_cases e : c' = c
          · subst e
            simp only [gu_at, n1, f, false_and, if_false]
            simp
            exact ⟨g0, g1, g2, g3, g4, g5⟩
          · have : 58 + 2 * b0 + c' ≠ 58 + 2 * b0 + c := by omega
            rw [gu_ne this, gu_ne this, gu_ne this, gu_ne this, gu_ne this, gu_ne this]
            exact h2p c' (by omega)
    exact ⟨3, key 2 0 M' (by omega) (fun _ _ => rfl) (fun c' hc' => absurd hc' (by omega))⟩
  unfold T_X8_copyFrom
  have key : ∀ m s (M2 : gx_M), s + m = 4 → (∀ o, ¬ ((42 + 4 * b0 ≤ o ∧ o < 46 + 4 * b0) ∨ (62 + 24 * b0 ≤ o ∧ o < 86 + 24 * b0)) → M2 o = M o) → (∀ s', s' < s → M2 (42 + 4 * b0 + s') 1 = a (24 + s') ∧ ∀ k, k < (a (24 + s')).toNatClampNeg → ∀ j, j < 5 → M2 (62 + 6 * (4 * b0 + s') + k) j = a (30 + 30 * s' + 5 * k + j)) → T_X8_copyFrom_2 Q (fun M8 o0_6 o1_7 => T_X8_copyFrom_41 Q M8 o0_6 o1_7) (m + 1) M2 (34 + b0) (34 + b1) (nI s) := by
    intro m
    induction m with
    | zero =>
      intro s M2 hsm h2f h2p
      obtain rfl : s = 4 := by omega
      unfold T_X8_copyFrom_2
      exact qt (show nI 4 ≤ nI 4 from nI_le (by omega) (by omega)) (k2 M2 (fun o ho => h2f o (fun e => ho (by unfold q_own; omega))) h2p)
    | succ m ih =>
      intro s M2 hsm h2f h2p
      unfold T_X8_copyFrom_2
      refine qf (show ¬ nI 4 ≤ nI s from nI_ge (by omega) (by omega)) (qf (show ¬ nI 4 ≤ nI s from nI_ge (by omega) (by omega)) ⟨vp_in_nI (by omega) (by omega), vp_in_nI (by omega) (by omega), ?_⟩)
      rw [nI_clamp (by omega), show s + 4 * (34 + b0) - 94 = 42 + (4 * b0 + s) by omega, show s + 4 * (34 + b1) - 94 = 42 + (4 * b1 + s) by omega]
      obtain ⟨c6, ec⟩ := okN hok (s := s) (by omega)
      obtain ⟨g1, g2⟩ := h6 s (by omega)
      refine s_sigcopy (n := (a (24 + s)).toNatClampNeg) (by omega) (by omega) (by omega) ?_ c6 (fun M3 f3 c3 p3 => ?_)
      · rw [h2f _ (by omega), show 42 + (4 * b1 + s) = 42 + 4 * b1 + s by omega, g1]; exact ec
      · rintro _ rfl
        rw [nI_1]
        refine ih (s + 1) M3 (by omega) (fun o ho => (f3 o (by omega) (by omega)).trans (h2f o ho)) (fun s' hs' => ?_)
        by_cases e : s' = s
        · subst e
          refine ⟨by rw [show 42 + 4 * b0 + s' = 42 + (4 * b0 + s') by omega, c3]; exact ec.symm, fun k hk j hj => ?_⟩
          rw [p3 k hk j hj, h2f _ (by omega)]; exact g2 k hk j hj
        · have k6 := (okN hok (s := s') (by omega)).1
          refine ⟨by rw [f3 _ (by omega) (by omega)]; exact (h2p s' (by omega)).1, fun k hk j hj => ?_⟩
          rw [f3 _ (by omega) (by omega)]; exact (h2p s' (by omega)).2 k hk j hj
  exact ⟨5, key 4 0 M (by omega) (fun _ _ => rfl) (fun s' hs' => absurd hs' (Nat.not_lt_zero _))⟩
theorem n_copyOut {N : gx_M} {Q : gx_M → Prop} (h : ∀ N' : gx_M, (∀ o, o ≠ 2 → N' o = N o) → (∀ r, r < 170 → N' 2 r = N 1 r) → Q N') : T_X11_copies N 1 Q := by
  have key : ∀ m k (N' : gx_M), k + m = 170 → (∀ o, o ≠ 2 → N' o = N o) → (∀ r, r < k → N' 2 r = N 1 r) → T_X11_copies_2 Q (m + 1) N' 1 (nI k) := by
    intro m
    induction m with
    | zero =>
      intro k N' hk hf hc
      obtain rfl : k = 170 := by omega
      unfold T_X11_copies_2
      exact qt (show nI 170 ≤ nI 170 from nI_le (by omega) (by omega)) (h N' hf hc)
    | succ m ih =>
      intro k N' hk hf hc
      unfold T_X11_copies_2 T_X11_copies_40
      refine qf (show ¬ nI 170 ≤ nI k from nI_ge (by omega) (by omega)) (qf (by decide) ⟨vp_in_nI (by omega) (by omega), vp_in_nI (by omega) (by omega), ?_⟩)
      rintro _ rfl _ rfl
      rw [nI_1, nI_clamp (by omega)]
      refine ih (k + 1) _ (by omega) (fun o ho => by rw [gu_ne ho]; exact hf o ho) (fun r hr => ?_)
      rw [gu_eq]
      by_cases e : r = k
      · subst e; rw [ub_eq, hf 1 (by decide)]
      · rw [ub_ne e]; exact hc r (by omega)
  exact ⟨171, key 170 0 N (by omega) (fun _ _ => rfl) (fun r hr => absurd hr (Nat.not_lt_zero _))⟩
theorem n_copyIn {N : gx_M} {Q : gx_M → Prop} (h : ∀ N' : gx_M, (∀ o, o ≠ 1 → N' o = N o) → (∀ r, r < 170 → N' 1 r = N 2 r) → Q N') : T_X11_copies N 0 Q := by
  have key : ∀ m k (N' : gx_M), k + m = 170 → (∀ o, o ≠ 1 → N' o = N o) → (∀ r, r < k → N' 1 r = N 2 r) → T_X11_copies_2 Q (m + 1) N' 0 (nI k) := by
    intro m
    induction m with
    | zero =>
      intro k N' hk hf hc
      obtain rfl : k = 170 := by omega
      unfold T_X11_copies_2
      exact qt (show nI 170 ≤ nI 170 from nI_le (by omega) (by omega)) (h N' hf hc)
    | succ m ih =>
      intro k N' hk hf hc
      unfold T_X11_copies_2 T_X11_copies_40
      refine qf (show ¬ nI 170 ≤ nI k from nI_ge (by omega) (by omega)) (qt rfl ⟨vp_in_nI (by omega) (by omega), vp_in_nI (by omega) (by omega), ?_⟩)
      rintro _ rfl _ rfl
      rw [nI_1, nI_clamp (by omega)]
      refine ih (k + 1) _ (by omega) (fun o ho => by rw [gu_ne ho]; exact hf o ho) (fun r hr => ?_)
      rw [gu_eq]
      by_cases e : r = k
      · subst e; rw [ub_eq, hf 2 (by decide)]
      · rw [ub_ne e]; exact hc r (by omega)
  exact ⟨171, key 170 0 N (by omega) (fun _ _ => rfl) (fun r hr => absurd hr (Nat.not_lt_zero _))⟩
theorem step_image : st_image RR := by
  intro M N h
  unfold T_X10_image T_X11_image
  refine s_copy (b0 := 1) (b1 := 0) (by omega) (by omega) (by omega) h.1.1 h.1.2.1 (fun M' hf hR => ?_)
  refine n_copyOut (fun N' g1 g2 => ⟨by unfold vp_in; decide, ?_, ?_⟩)
  · rw [hf 34 (by unfold q_own; omega), g1 1 (by decide)]; exact h.1.1.1.2.1
  · have n1 : N' 1 = N 1 := g1 1 (by decide)
    have hok := h.1.2.1
    refine ⟨⟨?_, ?_, ?_⟩, ⟨?_, ?_, ?_⟩, ⟨?_, ?_, ?_⟩, ?_⟩
    · rw [n1]; exact h.1.1.kept0 hok (fun o ho => hf o (by unfold q_own; omega))
    · rw [n1]; exact hok
    · rw [n1]; exact h.1.2.2.kept (by rw [hf 1 (by unfold q_own; omega)]) (hf 13 (by unfold q_own; omega)) (hf 14 (by unfold q_own; omega))
    · exact hR.cong hok g2
    · exact hok.cong g2
    · rw [n1, g2 0 (by omega)]; exact Int32.le_refl _
    · exact h.2.2.1.1.kept (by rw [hf 0 (by unfold q_own; omega)]) (by rw [g1 0 (by decide)]) (hf 6 (by unfold q_own; omega)) (g1 3 (by decide))
    · rw [hf 0 (by unfold q_own; omega), g1 0 (by decide)]; exact h.2.2.1.2.1
    · rw [hf 0 (by unfold q_own; omega), g1 0 (by decide)]; exact h.2.2.1.2.2
    · exact h.2.2.2.kept hok (fun q q1 q2 => hf q (by unfold q_own; omega)) (fun o q1 q2 => g1 o (by omega)) (by rw [n1])
theorem step_back : st_back RR := by
  intro M N h
  unfold T_X10_back T_X11_back T_X1_forget
  have hok2 := h.2.1.2.1
  refine s_copy (b0 := 0) (b1 := 1) (by omega) (by omega) (by omega) h.2.1.1 hok2 (fun M' hf hR => ?_)
  rintro _ rfl
  refine n_copyIn (fun N' g1 g2 => ⟨by unfold vp_in; decide, ?_, ?_⟩)
  · rw [gu_ne (by decide), hR.1.2.1]; exact (g2 0 (by omega)).symm
  · have n2 : N' 2 = N 2 := g1 2 (by decide)
    have hok := h.1.2.1
    refine RRn.forget ⟨⟨hR.cong hok2 g2, hok2.cong g2⟩, ⟨?_, ?_, ?_⟩, ⟨?_, ?_, ?_⟩, ?_⟩
    · rw [n2]; exact h.2.1.1.kept1 hok2 (fun o ho => hf o (by unfold q_own; omega))
    · rw [n2]; exact hok2
    · rw [n2, g2 0 (by omega)]; exact Int32.le_refl _
    · exact h.2.2.1.1.kept (by rw [hf 0 (by unfold q_own; omega)]) (by rw [g1 0 (by decide)]) (hf 6 (by unfold q_own; omega)) (g1 3 (by decide))
    · rw [hf 0 (by unfold q_own; omega), g1 0 (by decide)]; exact h.2.2.1.2.1
    · rw [hf 0 (by unfold q_own; omega), g1 0 (by decide)]; exact h.2.2.1.2.2
    · have h0 := h.2.1.2.2
      obtain ⟨n, hn, en⟩ := toNex 4 (by omega) hok.1.1.1 hok.1.1.2
      obtain ⟨n', hn', en'⟩ := toNex 4 (by omega) hok2.1.1.1 hok2.1.1.2
      rw [en, en'] at h0
      have hle := (nI_leI (by omega) (by omega)).mp h0
      refine ⟨h.2.2.2.1.kept (by unfold pk_Pr; omega) (fun q q1 q2 => hf q (by unfold q_own; omega)), fun t ht => ?_⟩
      rw [g2 0 (by omega), en', nI_clamp (by omega)] at ht
      obtain ⟨G, a1, a2, a3, a4, a5, a6⟩ := h.2.2.2.2 t (by rw [en, nI_clamp (by omega)]; omega)
      exact ⟨G, a1, a2.kept (by unfold pk_Pr; omega) (fun q q1 q2 => hf q (by unfold q_own; omega)), by rw [g1 4 (by decide)]; exact a3, a4, a5, q_ref_cong a6 (fun k _ => by rw [g1 5 (by decide)]) (fun k _ => by rw [g1 6 (by decide)]) (fun k _ _ => by rw [g1 7 (by decide), g1 8 (by decide)]; exact ⟨rfl, rfl⟩)⟩
