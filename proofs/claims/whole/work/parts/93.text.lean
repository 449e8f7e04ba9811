/-! text -/
theorem ex_pos {b : Nat → Nat} {n : Nat} {f pl : Int32} {G' : q_Gs} : ∀ (m ph : Nat) (bg : Bool) (S : List q_F) (E : List Int32) (G : q_Gs) (p : Nat), q_ex b n m ph bg S E G p f pl G' → f = 0 ∨ ¬ f ≤ 0 := by
  intro m
  induction m with
  | zero => intro ph bg S E G p h; exact h.elim
  | succ m ih =>
    intro ph bg S E G p h
    rcases h with ⟨h, -⟩ | ⟨-, -, h, -⟩ | ⟨ph1, bg1, S1, E1, G1, -, h⟩
    · refine Or.inr ?_
      rcases h with ⟨-, ⟨-, -, -, e⟩ | ⟨-, -, e⟩ | ⟨-, -, e⟩⟩ | ⟨-, -, -, e⟩ | ⟨-, -, ⟨-, -, e⟩ | ⟨-, -, e⟩ | ⟨-, -, -, -, e⟩⟩ | ⟨-, e, -⟩
      all_goals (rw [e]; decide)
    · exact Or.inl h
    · exact ih ph1 bg1 S1 E1 G1 _ h
theorem nrow_orow {N N' : gx_M} {base B : Nat} {l : List Int32} (h : q_nrow N base l) (e : ∀ k, base ≤ k → k < base + l.length → N' 7 (B + k) = N 16 k ∧ N' 8 (B + k) = N 17 k) : q_orow N' (B + base) l := by
  induction l with
  | nil => trivial
  | cons c l ih =>
    obtain ⟨a1, a2, a3⟩ := h
    obtain ⟨e1, e2⟩ := e (base + l.length) (by omega) (by simp)
    refine ⟨?_, ?_, ih a3 (fun k h1 h2 => e k h1 (by simp; omega))⟩
    · rw [show B + base + l.length = B + (base + l.length) by omega]; exact e1.trans a1
    · rw [show B + base + l.length = B + (base + l.length) by omega]; exact e2.trans a2
theorem nref_ref {N N' : gx_M} {t : Nat} {G : q_Gs} (h : q_nref N G) (h5 : ∀ k, k < G.length → N' 5 (10 * t + k) = N 14 k ∧ N' 6 (10 * t + k) = nI (400 * t) + N 15 k) (h7 : ∀ k, k < q_len G → N' 7 (400 * t + k) = N 16 k ∧ N' 8 (400 * t + k) = N 17 k) : q_ref N' t G := by
  induction G with
  | nil => trivial
  | cons g G ih =>
    obtain ⟨b, l⟩ := g
    obtain ⟨a1, a2, a3, a4, a5⟩ := h
    have gl : q_len ((b, l) :: G) = q_len G + l.length + 1 := rfl
    rw [gl] at h7
    obtain ⟨e1, e2⟩ := h5 G.length (by simp)
    have a3 : q_nrow N (q_len G) l := a3
    have a4 : N 16 (q_len G + l.length) = 408 := a4
    refine ⟨e1.trans a1, ?_, nrow_orow a3 (fun k h1 h2 => h7 k (by omega)), ?_, ih a5 (fun k hk => h5 k (by simp; omega)) (fun k hk => h7 k (by omega))⟩
    · rw [e2, a2, nI_add]
    · rw [show 400 * t + q_len G + l.length = 400 * t + (q_len G + l.length) by omega]
      exact ((h7 (q_len G + l.length) (by omega)).1).trans a4
/-- the clauses that were read are kept -/
theorem r_keeps {N : gx_M} {t : Nat} {G : q_Gs} {Q : gx_M → Prop} (ht : t < 4) (h27 : N 0 27 = nI G.length) (h30 : N 0 30 = nI (q_len G)) (hG : G.length ≤ 10) (hL : q_len G ≤ 400) (href : q_nref N G)
    (h : ∀ N' : gx_M, (∀ o, o ≠ 4 → o ≠ 5 → o ≠ 6 → o ≠ 7 → o ≠ 8 → N' o = N o) → q_rp N' t G → (∀ t', t' < 4 → t' ≠ t → ∀ G2, q_rp N t' G2 → q_rp N' t' G2) → Q N') : T_X11_keepsText N (nI t) Q := by
  unfold T_X11_keepsText
  refine ⟨vp_in_nI ht (by omega), ?_⟩
  rintro _ rfl
  rw [nI_clamp (by omega), h27]
  have e400 : (400 : Int32) * nI t = nI (400 * t) := pk_mul 400 t
  have e10 : (10 : Int32) * nI t = nI (10 * t) := pk_mul 10 t
  -- the orders
  have ords : ∀ (N1 : gx_M), (∀ o, o ≠ 4 → o ≠ 5 → o ≠ 6 → N1 o = N o) → N1 4 = upd (N 4) t (nI G.length) → (∀ k, k < G.length → N1 5 (10 * t + k) = N 14 k ∧ N1 6 (10 * t + k) = nI (400 * t) + N 15 k) → (∀ i, (i < 10 * t ∨ 10 * t + 10 ≤ i) → N1 5 i = N 5 i ∧ N1 6 i = N 6 i) → ∃ k11, T_X11_keepsText_68 Q k11 N1 (nI t) 0 := by
    intro N1 f1 h4 h5 h5'
    have key : ∀ m k (N2 : gx_M), k + m = q_len G → (∀ o, o ≠ 7 → o ≠ 8 → N2 o = N1 o) → (∀ i, i < k → N2 7 (400 * t + i) = N 16 i ∧ N2 8 (400 * t + i) = N 17 i) → (∀ i, (i < 400 * t ∨ 400 * t + 400 ≤ i) → N2 7 i = N 7 i ∧ N2 8 i = N 8 i) → T_X11_keepsText_68 Q (m + 1) N2 (nI t) (nI k) := by
      intro m
      induction m with
      | zero =>
        intro k N2 hk f2 h7 h7'
        obtain rfl : k = q_len G := by omega
        unfold T_X11_keepsText_68
        rw [f2 0 (by decide) (by decide), f1 0 (by decide) (by decide) (by decide), h30]
        refine qt (nI_le (Nat.le_refl _) (by omega)) (h N2 (fun o a b c d e => (f2 o d e).trans (f1 o a b c)) ⟨?_, hG, hL, nref_ref href (fun i hi => ?_) h7⟩ (fun t' ht' hne G2 hG2 => ?_))
        · rw [f2 4 (by decide) (by decide), h4, ub_eq]
        · rw [f2 5 (by decide) (by decide), f2 6 (by decide) (by decide)]; exact h5 i hi
        · obtain ⟨g1, g2, g3, g4⟩ := hG2
          refine ⟨?_, g2, g3, q_ref_cong g4 (fun i hi => ?_) (fun i hi => ?_) (fun i h1 h2 => ?_)⟩
          · rw [f2 4 (by decide) (by decide), h4, ub_ne hne]; exact g1
          · rw [f2 5 (by decide) (by decide)]; exact (h5' _ (by omega)).1
          · rw [f2 6 (by decide) (by decide)]; exact (h5' _ (by omega)).2
          · exact h7' i (by omega)
      | succ m ih =>
        intro k N2 hk f2 h7 h7'
        unfold T_X11_keepsText_68
        rw [f2 0 (by decide) (by decide), f1 0 (by decide) (by decide) (by decide), h30]
        refine qf (nI_ge (by omega) (by omega)) ⟨vp_in_nI (by omega) (by omega), ?_⟩
        rw [e400, nI_add]
        refine ⟨vp_in_nI (by omega) (by omega), ?_⟩
        rw [nI_clamp (show 400 * t + k < 2 ^ 31 by omega), nI_clamp (show k < 2 ^ 31 by omega)]
        rintro _ rfl
        refine ⟨vp_in_nI (by omega) (by omega), vp_in_nI (by omega) (by omega), ?_⟩
        rintro _ rfl _ rfl
        rw [nI_1]
        have g16 : N2 16 k = N 16 k := by rw [f2 16 (by decide) (by decide), f1 16 (by decide) (by decide) (by decide)]
        have g17 : N2 17 k = N 17 k := by rw [f2 17 (by decide) (by decide), f1 17 (by decide) (by decide) (by decide)]
        refine ih (k + 1) _ (by omega) (fun o a b => by rw [gu_ne b, gu_ne a]; exact f2 o a b) (fun i hi => ?_) (fun i hi => ?_)
        · rw [gu_ne (show 7 ≠ 8 by decide), gu_eq, gu_eq]
          by_cases z : i = k
          · subst z; rw [ub_eq, ub_eq, gu_ne (by decide)]; exact ⟨g16, g17⟩
          · rw [ub_ne (by omega), ub_ne (by omega), gu_ne (by decide)]; exact h7 i (by omega)
        · rw [gu_ne (show 7 ≠ 8 by decide), gu_eq, gu_eq, ub_ne (by omega), ub_ne (by omega), gu_ne (by decide)]
          exact h7' i hi
    exact ⟨q_len G + 1, key (q_len G) 0 N1 (by omega) (fun _ _ _ => rfl) (fun i hi => absurd hi (Nat.not_lt_zero _)) (fun i _ => by rw [f1 7 (by decide) (by decide) (by decide), f1 8 (by decide) (by decide) (by decide)]; exact ⟨rfl, rfl⟩)⟩
  have key : ∀ m k (N1 : gx_M), k + m = G.length → (∀ o, o ≠ 4 → o ≠ 5 → o ≠ 6 → N1 o = N o) → N1 4 = upd (N 4) t (nI G.length) → (∀ i, i < k → N1 5 (10 * t + i) = N 14 i ∧ N1 6 (10 * t + i) = nI (400 * t) + N 15 i) → (∀ i, (i < 10 * t ∨ 10 * t + 10 ≤ i) → N1 5 i = N 5 i ∧ N1 6 i = N 6 i) → T_X11_keepsText_12 Q (fun M7 v1_6 => (∃ k11, T_X11_keepsText_68 Q k11 M7 v1_6 0)) (m + 1) N1 (nI t) (nI k) := by
    intro m
    induction m with
    | zero =>
      intro k N1 hk f1 h4 h5 h5'
      obtain rfl : k = G.length := by omega
      unfold T_X11_keepsText_12
      rw [f1 0 (by decide) (by decide) (by decide), h27]
      exact qt (nI_le (Nat.le_refl _) (by omega)) (ords N1 f1 h4 h5 h5')
    | succ m ih =>
      intro k N1 hk f1 h4 h5 h5'
      unfold T_X11_keepsText_12
      rw [f1 0 (by decide) (by decide) (by decide), h27]
      refine qf (nI_ge (by omega) (by omega)) ⟨vp_in_nI (by omega) (by omega), ?_⟩
      rw [e10, nI_add, e400]
      refine ⟨vp_in_nI (by omega) (by omega), ?_⟩
      rw [nI_clamp (show 10 * t + k < 2 ^ 31 by omega), nI_clamp (show k < 2 ^ 31 by omega)]
      rintro _ rfl
      refine ⟨vp_in_nI (by omega) (by omega), vp_in_nI (by omega) (by omega), ?_⟩
      rintro _ rfl _ rfl
      rw [nI_1]
      have g14 : N1 14 k = N 14 k := by rw [f1 14 (by decide) (by decide) (by decide)]
      have g15 : N1 15 k = N 15 k := by rw [f1 15 (by decide) (by decide) (by decide)]
      refine ih (k + 1) _ (by omega) (fun o a b c => by rw [gu_ne c, gu_ne b]; exact f1 o a b c) (by rw [gu_ne (by decide), gu_ne (by decide)]; exact h4) (fun i hi => ?_) (fun i hi => ?_)
      · rw [gu_ne (show 5 ≠ 6 by decide), gu_eq, gu_eq]
        by_cases z : i = k
        · subst z; rw [ub_eq, ub_eq, gu_ne (by decide), g14, g15]; exact ⟨rfl, rfl⟩
        · rw [ub_ne (by omega), ub_ne (by omega), gu_ne (by decide)]; exact h5 i (by omega)
      · rw [gu_ne (show 5 ≠ 6 by decide), gu_eq, gu_eq, ub_ne (by omega), ub_ne (by omega), gu_ne (by decide)]
        exact h5' i hi
  exact ⟨G.length + 1, key G.length 0 _ (by omega) (fun o a _ _ => gu_ne a) (gu_eq _ _ _ _) (fun i hi => absurd hi (Nat.not_lt_zero _)) (fun i _ => by rw [gu_ne (by decide), gu_ne (by decide)]; exact ⟨rfl, rfl⟩)⟩
theorem okA_0 {a : Nat → Int32} {t : Nat} (h : okA a) (e : a 0 = nI t) (ht : t < 4) : okA (upd a 0 (nI (t + 1))) := by
  have H : ∀ r : Nat, r ≠ 0 → upd a 0 (nI (t + 1)) r = a r := fun r g => ub_ne g
  obtain ⟨⟨h0, h1, h2, h3, h4, h5, h6⟩, hc, hs, hp⟩ := h
  refine ⟨⟨?_, ?_, ?_⟩, fun c c2 => ?_, fun s s4 => ?_, fun c c2 => ?_⟩
  · rw [ub_eq]; exact v_n (n := 4) (by omega) (by omega)
  · rw [H 1 (by omega), ub_eq]
    refine ⟨h1.1, ?_⟩
    have := h1.2
    rw [e] at this
    exact Int32.lt_of_lt_of_le this (nI_le (by omega) (by omega))
  · rw [H 2 (by omega), H 3 (by omega), H 4 (by omega), H 5 (by omega), H 6 (by omega)]
    exact ⟨h2, h3, h4, h5, h6⟩
  · rw [H (10 + c) (by omega), H (12 + c) (by omega), H (14 + c) (by omega), H (16 + c) (by omega), H (18 + c) (by omega), H (20 + c) (by omega)]
    exact hc c c2
  · rw [H (24 + s) (by omega)]
    refine ⟨(hs s s4).1, fun k hk => ?_⟩
    rw [H (30 + 30 * s + 5 * k) (by omega), H (30 + 30 * s + 5 * k + 1) (by omega), H (30 + 30 * s + 5 * k + 2) (by omega), H (30 + 30 * s + 5 * k + 3) (by omega), H (30 + 30 * s + 5 * k + 4) (by omega)]
    exact (hs s s4).2 k hk
  · rw [H (150 + c) (by omega)]; exact hp c c2
/-- a text that was read is a program -/
theorem pc_of {M : gx_M} {o : Nat} {G : q_Gs} (h : q_em M o true [] (q_B G) (q_H G)) (hw : q_wf G) (hl : q_len G ≤ 300) : q_pc M o G := by
  obtain ⟨a1, a2, a3, a4⟩ := h
  have bh := BH_len G
  refine ⟨a1, a2, a3, a4, by omega, by omega, ?_⟩
  have hwd : q_wd (fun _ => 0) := fun i _ => show -1000000 ≤ (0 : Int32).toInt ∧ (0 : Int32).toInt ≤ 1000000 by decide
  obtain ⟨s1, s2⟩ := q_B_spec hwd hw
  cases ha : q_asks G with
  | true =>
    have := ps_bd (s1 ha).2.1
    simp at this
    omega
  | false =>
    rw [(s2 ha).1]; exact Nat.zero_le _
/-- the class's side of it -/
theorem s_text {M N : gx_M} (h : RR M N) {t n : Nat} (ht : t < 4) (et : N 1 0 = nI t) (hn : n ≤ 300) (em : M 0 9 = nI n) {b : Nat → Nat} (hb : ∀ i, i < n → M 6 i = nI (b i) ∧ b i < 256) {Q : gx_M → Prop}
    (hQ : ∀ (f pl : Int32) (G' : q_Gs) (M' : gx_M), q_ex b n (n + 1) 4 false [] [] [] 0 f pl G' → q_cF M M' (16 + t) → M' 4 14 = f → M' 4 15 = pl → (f = 0 → q_em M' (16 + t) true [] (q_B G') (q_H G')) → Q M') : T_X5_read M (16 + t) (M 0 9) Q := by
  have ho : pk_Pr (16 + t) := by unfold pk_Pr; omega
  unfold T_X5_read T_X6_restart
  rw [em]
  rintro _ rfl _ rfl _ rfl
  have e16 : (gx_up (gx_up (gx_up M 5 1 (nI n)) 5 2 0) 4 16 (nI (16 + t)) 4 16).toNatClampNeg = 16 + t := by rw [gu_eq, ub_eq, nI_clamp (by omega)]
  rw [e16]
  refine nm_e ⟨ho, ?_⟩
  unfold T_X4_empty
  rintro _ rfl _ rfl _ rfl _ rfl _ rfl _ rfl _ rfl _ rfl _ rfl
  have mm : ∃ M1 : gx_M, M1 = gx_up (gx_up (gx_up (gx_up (gx_up (gx_up (gx_up (gx_up (gx_up (gx_up (gx_up (gx_up M 5 1 (nI n)) 5 2 0) 4 16 (nI (16 + t))) (16 + t) 2 0) (16 + t) 3 0) 4 5 0) 4 6 0) 4 7 0) 4 12 0) 4 13 0) 4 14 0) 4 15 (-1) := ⟨_, rfl⟩
  obtain ⟨M1, hM1⟩ := mm
  rw [← hM1]
  have fr : ∀ q, q ≠ 4 → q ≠ 5 → q ≠ 16 + t → M1 q = M q := fun q a c d => by rw [hM1, gu_ne a, gu_ne a, gu_ne a, gu_ne a, gu_ne a, gu_ne a, gu_ne a, gu_ne d, gu_ne d, gu_ne a, gu_ne c, gu_ne c]
  have v51 : M1 5 1 = nI n := by rw [hM1]; simp [gu_at]
  have v52 : M1 5 2 = 0 := by rw [hM1]; simp [gu_at]
  have v16 : M1 4 16 = nI (16 + t) := by rw [hM1]; simp [gu_at]
  have v13 : M1 4 13 = 0 := by rw [hM1]; simp [gu_at]
  have v14 : M1 4 14 = 0 := by rw [hM1]; simp [gu_at]
  have v15 : M1 4 15 = -1 := by rw [hM1]; simp [gu_at]
  have v5 : M1 4 5 = 0 := by rw [hM1]; simp [gu_at]
  have v6 : M1 4 6 = 0 := by rw [hM1]; simp [gu_at]
  have v7 : M1 4 7 = 0 := by rw [hM1]; simp [gu_at]
  have v12 : M1 4 12 = 0 := by rw [hM1]; simp [gu_at]
  have o4 : ¬ 16 + t = 4 := by omega
  have o2 : M1 (16 + t) 2 = 0 := by
    rw [hM1, gu_ne o4, gu_ne o4, gu_ne o4, gu_ne o4, gu_ne o4, gu_ne o4, gu_ne o4, gu_eq, ub_ne (by decide), gu_eq, ub_eq]
  have o3 : M1 (16 + t) 3 = 0 := by
    rw [hM1, gu_ne o4, gu_ne o4, gu_ne o4, gu_ne o4, gu_ne o4, gu_ne o4, gu_ne o4, gu_eq, ub_eq]
  have hS : q_cS M M1 (16 + t) b n 4 false [] [] [] 0 0 [] := by
    refine ⟨⟨⟨fun q a1 a2 _ a4 _ _ => fr q a1 a2 a4, ⟨hn, v51, fun i hi => by rw [fr 6 (by decide) (by decide) (by omega)]; exact hb i hi⟩, v52⟩, ⟨v16, v13, v14, v15⟩, v5, v6, v12, v7⟩, Or.inl ⟨rfl, o2, o3, trivial, trivial⟩⟩
  have hok : q_ok 4 false [] [] [] 0 := ⟨⟨trivial, Nat.zero_le _, Nat.zero_le _, Nat.le_refl _⟩, fun _ e => absurd rfl e, Or.inl ⟨rfl, rfl, rfl⟩⟩
  exact ⟨n + 1 + 1, c_read57 ho hn (n + 1) 4 false [] [] [] 0 0 [] 0 M1 (by omega) (Nat.zero_le _) (Nat.le_refl _) hok hS hQ⟩
/-- the reference's side of it -/
theorem n_text {N : gx_M} {t n : Nat} (ht : t < 4) (et : N 1 0 = nI t) (hn : n ≤ 300) (em : N 0 3 = nI n) {b : Nat → Nat} (hb : ∀ i, i < n → N 3 i = q_sb (b i) ∧ b i < 256) {f pl : Int32} {G' : q_Gs} (hex : q_ex b n (n + 1) 4 false [] [] [] 0 f pl G') {Q : Int32 → gx_M → Prop}
    (hbad : f ≠ 0 → ∀ N' : gx_M, (∀ o, o ≠ 0 → ¬ (10 ≤ o ∧ o ≤ 17) → N' o = N o) → N' 0 3 = 0 → N' 0 4 = f → N' 0 5 = pl → Q (-1) N')
    (hgood : f = 0 → ∀ N' : gx_M, (∀ o, o ≠ 0 → o ≠ 1 → ¬ (4 ≤ o ∧ o ≤ 8) → ¬ (10 ≤ o ∧ o ≤ 17) → N' o = N o) → N' 1 = upd (N 1) 0 (nI (t + 1)) → N' 0 3 = 0 → N' 0 4 = f → N' 0 5 = pl → q_rp N' t G' → (∀ t', t' < 4 → t' ≠ t → ∀ G2, q_rp N t' G2 → q_rp N' t' G2) → Q (nI t) N') : T_X11_text N Q := by
  have c0 : (0 : Int32).toNatClampNeg = 0 := rfl
  unfold T_X11_text
  rw [c0, et, em]
  refine ⟨by unfold vp_in; decide, qf (fun e => by have := (nI_eq (b := 4) (by omega) (by omega)).mp e; omega) ?_⟩
  rintro _ rfl _ rfl _ rfl _ rfl _ rfl _ rfl _ rfl _ rfl _ rfl _ rfl _ rfl
  have mm : ∃ N0 : gx_M, N0 = gx_up (gx_up (gx_up (gx_up (gx_up (gx_up (gx_up (gx_up (gx_up (gx_up (gx_up N 0 12 (nI n)) 0 3 0) 0 13 0) 0 17 0) 0 18 (-1)) 0 19 0) 0 20 0) 0 23 0) 0 26 4) 0 27 0) 0 30 0 := ⟨_, rfl⟩
  obtain ⟨N0, hN0⟩ := mm
  rw [← hN0]
  have fr : ∀ q, q ≠ 0 → N0 q = N q := fun q a => by rw [hN0, gu_ne a, gu_ne a, gu_ne a, gu_ne a, gu_ne a, gu_ne a, gu_ne a, gu_ne a, gu_ne a, gu_ne a, gu_ne a]
  have v12 : N0 0 12 = nI n := by rw [hN0]; simp [gu_at]
  have v3 : N0 0 3 = 0 := by rw [hN0]; simp [gu_at]
  have v13 : N0 0 13 = 0 := by rw [hN0]; simp [gu_at]
  have v17 : N0 0 17 = 0 := by rw [hN0]; simp [gu_at]
  have v18 : N0 0 18 = -1 := by rw [hN0]; simp [gu_at]
  have v19 : N0 0 19 = 0 := by rw [hN0]; simp [gu_at]
  have v20 : N0 0 20 = 0 := by rw [hN0]; simp [gu_at]
  have v23 : N0 0 23 = 0 := by rw [hN0]; simp [gu_at]
  have v26 : N0 0 26 = 4 := by rw [hN0]; simp [gu_at]
  have v27 : N0 0 27 = 0 := by rw [hN0]; simp [gu_at]
  have v30 : N0 0 30 = 0 := by rw [hN0]; simp [gu_at]
  have hby : r_by N0 b n := ⟨hn, v12, fun i hi => by rw [fr 3 (by decide)]; exact hb i hi⟩
  have hZ : q_rZ N0 N0 b n false false [] [] [] := ⟨⟨⟨fun _ _ _ => rfl, fun _ _ => rfl⟩, hby, v17, v18⟩, ⟨v19, v20, v23, v27, v30⟩, ⟨trivial, trivial, trivial⟩, trivial, fun e => by cases e⟩
  have hok : q_ok 4 false [] [] [] 0 := ⟨⟨trivial, Nat.zero_le _, Nat.zero_le _, Nat.le_refl _⟩, fun _ e => absurd rfl e, Or.inl ⟨rfl, rfl, rfl⟩⟩
  refine n_tok hby (p := 0) v13 (Nat.zero_le _) (fun N1 f1 e1 e2 e3 => ⟨3 * (n + 1) + 1, ?_⟩)
  have hY : q_rY N0 N1 b n false false [] [] [] 0 := ⟨hZ.kept f1.1 (fun j h1 h2 => f1.2 j (by omega) (by omega) (by omega) (by omega)), e1, e2, e3⟩
  refine r_run hn (fun N2 hF hE => ?_) (n + 1) 4 false [] [] [] 0 _ N1 hex hok (Nat.zero_le _) (Nat.le_refl _) hY ((f1.2 26 (by decide) (by decide) (by decide) (by decide)).trans v26)
  unfold T_X11_text_167
  rintro _ rfl _ rfl
  have w : ∀ o, o ≠ 0 → ¬ (10 ≤ o ∧ o ≤ 17) → N2 o = N o := fun o h1 h2 => (hF.1 o h1 h2).trans (fr o h1)
  have w3 : N2 0 3 = 0 := (hF.2 3 (by omega)).trans v3
  have s : ∀ j, j ≠ 4 → j ≠ 5 → gx_up (gx_up N2 0 4 (N2 0 17)) 0 5 (gx_up N2 0 4 (N2 0 17) 0 18) 0 j = N2 0 j := fun j a c => by rw [gu_eq, ub_ne c, gu_eq, ub_ne a]
  have x17 := s 17 (by decide) (by decide)
  have x18 : gx_up N2 0 4 (N2 0 17) 0 18 = N2 0 18 := by rw [gu_eq, ub_ne (by decide)]
  have s4 : gx_up (gx_up N2 0 4 (N2 0 17)) 0 5 (gx_up N2 0 4 (N2 0 17) 0 18) 0 4 = N2 0 17 := by rw [gu_eq, ub_ne (by decide), gu_eq, ub_eq]
  have s5 : gx_up (gx_up N2 0 4 (N2 0 17)) 0 5 (gx_up N2 0 4 (N2 0 17) 0 18) 0 5 = N2 0 18 := by rw [gu_eq, ub_eq, x18]
  have sq : ∀ q, q ≠ 0 → gx_up (gx_up N2 0 4 (N2 0 17)) 0 5 (gx_up N2 0 4 (N2 0 17) 0 18) q = N2 q := fun q a => by rw [gu_ne a, gu_ne a]
  generalize gx_up (gx_up N2 0 4 (N2 0 17)) 0 5 (gx_up N2 0 4 (N2 0 17) 0 18) = N3 at s x17 s4 s5 sq
  rw [x17]
  rcases hE with ⟨f0, hf, hpl⟩ | ⟨f0, hpl, h17, h18, h27, h30, href⟩
  · refine qf ?_ (hbad f0 N3 (fun o h1 h2 => (sq o h1).trans (w o h1 h2)) ((s 3 (by decide) (by decide)).trans w3) (s4.trans hf) (s5.trans hpl))
    rw [hf]
    rcases ex_pos _ _ _ _ _ _ _ hex with z | z
    · exact absurd z f0
    · exact z
  · refine qt (by rw [h17]; decide) ⟨by unfold vp_in; decide, ?_⟩
    obtain ⟨g1, g2, g3⟩ := ex_ok hn _ _ _ _ _ _ _ _ _ _ (Nat.zero_le _) hok hex f0
    have n31 : N3 1 = N 1 := (sq 1 (by decide)).trans (w 1 (by decide) (by omega))
    rw [n31, c0, et]
    have hr3 : q_nref N3 G' := nref_cong href (fun i _ => by rw [sq 14 (by decide), sq 15 (by decide)]; exact ⟨rfl, rfl⟩) (fun i _ => by rw [sq 16 (by decide), sq 17 (by decide)]; exact ⟨rfl, rfl⟩)
    refine r_keeps ht ((s 27 (by decide) (by decide)).trans h27) ((s 30 (by decide) (by decide)).trans h30) g2 (by omega) hr3 (fun N4 f4 p4 o4 => ⟨by unfold vp_in; decide, by unfold vp_in; decide, ?_⟩)
    have n41 : N4 1 = N 1 := (f4 1 (by decide) (by decide) (by decide) (by decide) (by decide)).trans n31
    rintro _ rfl
    rw [n41, et, nI_1]
    refine ⟨by unfold vp_in; decide, ?_⟩
    rw [gu_eq, ub_eq, nI_pred]
    have rp : ∀ t' G2, q_rp N4 t' G2 → q_rp (gx_up N4 1 0 (nI (t + 1))) t' G2 := fun t' G2 ⟨a1, a2, a3, a4⟩ => ⟨by rw [gu_ne (by decide)]; exact a1, a2, a3, q_ref_cong a4 (fun i _ => by rw [gu_ne (by decide)]) (fun i _ => by rw [gu_ne (by decide)]) (fun i _ _ => by rw [gu_ne (by decide), gu_ne (by decide)]; exact ⟨rfl, rfl⟩)⟩
    have n0 : gx_up N4 1 0 (nI (t + 1)) 0 = N3 0 := by rw [gu_ne (by decide)]; exact f4 0 (by decide) (by decide) (by decide) (by decide) (by decide)
    refine hgood f0 _ (fun o h1 h2 h3 h4 => ?_) (by rw [gu_eq, n41]) (by rw [n0]; exact (s 3 (by decide) (by decide)).trans w3) (by rw [n0, s4, h17, f0]) (by rw [n0, s5, h18, hpl]) (rp t G' p4) (fun t' ht' hne G2 hG2 => rp t' G2 (o4 t' ht' hne G2 ?_))
    · rw [gu_ne h2, f4 o (by omega) (by omega) (by omega) (by omega) (by omega), sq o h1]; exact w o h1 h4
    · have q5 : N3 5 = N 5 := (sq 5 (by decide)).trans (w 5 (by decide) (by omega))
      have q6 : N3 6 = N 6 := (sq 6 (by decide)).trans (w 6 (by decide) (by omega))
      have q4 : N3 4 = N 4 := (sq 4 (by decide)).trans (w 4 (by decide) (by omega))
      have q7 : N3 7 = N 7 := (sq 7 (by decide)).trans (w 7 (by decide) (by omega))
      have q8 : N3 8 = N 8 := (sq 8 (by decide)).trans (w 8 (by decide) (by omega))
      obtain ⟨a1, a2, a3, a4⟩ := hG2
      exact ⟨by rw [q4]; exact a1, a2, a3, q_ref_cong a4 (fun i _ => by rw [q5]) (fun i _ => by rw [q6]) (fun i _ _ => by rw [q7, q8]; exact ⟨rfl, rfl⟩)⟩
theorem step_text : st_text RR := by
  intro M N h
  have hok := h.1.2.1
  have e8 : M 34 8 = N 1 0 := h.1.1.1.2.1
  obtain ⟨t, ht4, et⟩ := toNex 4 (by omega) hok.1.1.1 hok.1.1.2
  obtain ⟨n, hn, hm9, hn3, hby⟩ := h.2.2.1.1
  have c0 : (0 : Int32).toNatClampNeg = 0 := rfl
  unfold T_X10_text
  rw [e8, et]
  rcases Nat.lt_or_ge t 4 with ht | ht
  · have w : (0 : Int32) ≤ nI t ∧ nI t ≤ 3 := v_n (n := 3) (by omega) (by omega)
    refine gd_within (fun q => absurd w q) (fun _ => ⟨vp_in_nI ht (by omega), ?_⟩)
    rw [nI_clamp (by omega)]
    have hb : ∀ i, i < n → M 6 i = nI (M 6 i).toNatClampNeg ∧ (M 6 i).toNatClampNeg < 256 := fun i hi => by
      obtain ⟨x, hx, e, -⟩ := hby i hi
      rw [e, nI_clamp (by omega)]; exact ⟨rfl, hx⟩
    have hb2 : ∀ i, i < n → N 3 i = q_sb (M 6 i).toNatClampNeg ∧ (M 6 i).toNatClampNeg < 256 := fun i hi => by
      obtain ⟨x, hx, e, e2⟩ := hby i hi
      rw [e, nI_clamp (by omega)]; exact ⟨e2, hx⟩
    refine s_text h ht et hn hm9 (b := fun i => (M 6 i).toNatClampNeg) hb (fun f pl G' M4 hex hF h14 h15 hem => ?_)
    rintro _ rfl _ rfl _ rfl
    have y14 : gx_up (gx_up M4 0 9 0) 0 10 (gx_up M4 0 9 0 4 14) 4 15 = pl := by rw [gu_ne (by decide), gu_ne (by decide)]; exact h15
    have x14 : gx_up M4 0 9 0 4 14 = f := by rw [gu_ne (by decide)]; exact h14
    rw [y14, x14]
    have mq : ∀ q, q ≠ 0 → gx_up (gx_up (gx_up M4 0 9 0) 0 10 f) 0 11 pl q = M4 q := fun q a => by rw [gu_ne a, gu_ne a, gu_ne a]
    have m9 : gx_up (gx_up (gx_up M4 0 9 0) 0 10 f) 0 11 pl 0 9 = 0 := by rw [gu_eq, ub_ne (by decide), gu_eq, ub_ne (by decide), gu_eq, ub_eq]
    have m10 : gx_up (gx_up (gx_up M4 0 9 0) 0 10 f) 0 11 pl 0 10 = f := by rw [gu_eq, ub_ne (by decide), gu_eq, ub_eq]
    have m11 : gx_up (gx_up (gx_up M4 0 9 0) 0 10 f) 0 11 pl 0 11 = pl := by rw [gu_eq, ub_eq]
    generalize gx_up (gx_up (gx_up M4 0 9 0) 0 10 f) 0 11 pl = M7 at mq m9 m10 m11
    rw [show M7 4 14 = f by rw [mq 4 (by decide)]; exact h14]
    have k7 : ∀ q, q ≠ 0 → q ≠ 4 → q ≠ 5 → q ≠ 7 → q ≠ 16 + t → q ≠ 22 + t → q ≠ 28 + t → M7 q = M q := fun q a0 a4 a5 a7 b1 b2 b3 => (mq q a0).trans (hF q a4 a5 a7 b1 (by omega) (by omega))
    -- texts that were told before
    have old : ∀ M8 : gx_M, (∀ q, 16 ≤ q → q < 34 → M8 q = M7 q) → q_pc M8 20 [] ∧ ∀ t', t' < t → ∀ G, q_pc M (16 + t') G → q_pc M8 (16 + t') G := by
      intro M8 h8
      have pk : ∀ o G, pk_Pr o → o ≠ 16 + t → q_pc M o G → q_pc M8 o G := by
        intro o G hp hne hg
        have hp' := hp
        unfold pk_Pr at hp'
        unfold q_pc
        rw [h8 o (by omega) (by omega), h8 (6 + o) (by omega) (by omega), h8 (12 + o) (by omega) (by omega), k7 o (by omega) (by omega) (by omega) (by omega) hne (by omega) (by omega), k7 (6 + o) (by omega) (by omega) (by omega) (by omega) (by omega) (by omega) (by omega), k7 (12 + o) (by omega) (by omega) (by omega) (by omega) (by omega) (by omega) (by omega)]
        exact hg
      exact ⟨pk 20 [] (by unfold pk_Pr; omega) (by omega) h.2.2.2.1, fun t' ht' G hG => pk (16 + t') G (by unfold pk_Pr; omega) (by omega) hG⟩
    have tx := h.2.2.2.2
    rw [et, nI_clamp (by omega)] at tx
    refine qc (fun f0 => ?_) (fun f0 => ?_)
    · rintro _ rfl
      have e34 : M7 34 8 = nI t := by rw [k7 34 (by omega) (by omega) (by omega) (by omega) (by omega) (by omega) (by omega), e8, et]
      rw [e34, nI_1]
      have ea : gx_up M7 34 8 (nI (t + 1)) 34 8 = nI (t + 1) := by rw [gu_eq, ub_eq]
      rw [ea, nI_pred]
      obtain ⟨g1, g2, g3⟩ := ex_ok hn _ _ _ _ _ _ _ _ _ _ (Nat.zero_le _) (⟨⟨trivial, Nat.zero_le _, Nat.zero_le _, Nat.le_refl _⟩, fun _ e => absurd rfl e, Or.inl ⟨rfl, rfl, rfl⟩⟩ : q_ok 4 false [] [] [] 0) hex f0
      refine n_text ht et hn hn3 hb2 hex (fun z => absurd f0 z) (fun _ N' w1 w2 w3 w4 w5 w6 w7 => ⟨rfl, ⟨⟨?_, ?_, ?_⟩, ⟨?_, ?_, ?_⟩, ⟨?_, ?_, ?_⟩, ?_⟩⟩)
      · rw [w2]
        refine (RS_up (x := nI (t + 1)) h.1.1 hok (Or.inr (Or.inl ⟨rfl, rfl, rfl⟩))).kept0 (okA_0 hok et ht) (fun q hq => ?_)
        by_cases z : q = 34
        · subst z
          rw [gu_eq, gu_eq, k7 34 (by omega) (by omega) (by omega) (by omega) (by omega) (by omega) (by omega)]
        · rw [gu_ne z, gu_ne z]; exact k7 q (by omega) (by omega) (by omega) (by omega) (by omega) (by omega) (by omega)
      · rw [w2]; exact okA_0 hok et ht
      · rw [w2]
        refine (h.1.2.2.cong hok (q_sim_up (by omega))).kept ?_ ?_ ?_
        · rw [gu_ne (by decide), k7 1 (by omega) (by omega) (by omega) (by omega) (by omega) (by omega) (by omega)]
        · rw [gu_ne (by decide), k7 13 (by omega) (by omega) (by omega) (by omega) (by omega) (by omega) (by omega)]
        · rw [gu_ne (by decide), k7 14 (by omega) (by omega) (by omega) (by omega) (by omega) (by omega) (by omega)]
      · rw [w1 2 (by decide) (by decide) (by omega) (by omega)]
        exact h.2.1.1.kept1 h.2.1.2.1 (fun q hq => by rw [gu_ne (by omega)]; exact k7 q (by omega) (by omega) (by omega) (by omega) (by omega) (by omega) (by omega))
      · rw [w1 2 (by decide) (by decide) (by omega) (by omega)]; exact h.2.1.2.1
      · rw [w1 2 (by decide) (by decide) (by omega) (by omega), w2, ub_eq]
        have := h.2.1.2.2
        rw [et] at this
        exact Int32.le_trans this (nI_le (by omega) (by omega))
      · exact ⟨0, by omega, by rw [gu_ne (by decide)]; exact m9, w3, fun i hi => absurd hi (Nat.not_lt_zero _)⟩
      · rw [gu_ne (by decide), m10]; exact w4.symm
      · rw [gu_ne (by decide), m11]; exact w5.symm
      · obtain ⟨o1, o2⟩ := old (gx_up M7 34 8 (nI (t + 1))) (fun q h1 h2 => gu_ne (by omega))
        refine ⟨o1, fun t' ht' => ?_⟩
        rw [w2, ub_eq, nI_clamp (by omega)] at ht'
        by_cases z : t' = t
        · subst z
          refine ⟨G', g1, pc_of ?_ g1 g3, w6⟩
          refine (hem f0).kept ?_ ?_ ?_
          · rw [gu_ne (by omega)]; exact mq _ (by omega)
          · rw [gu_ne (by omega)]; exact mq _ (by omega)
          · rw [gu_ne (by omega)]; exact mq _ (by omega)
        · obtain ⟨G, a1, a2, a3⟩ := tx t' (by omega)
          exact ⟨G, a1, o2 t' (by omega) G a2, w7 t' (by omega) z G a3⟩
    · refine n_text ht et hn hn3 hb2 hex (fun _ N' w1 w3 w4 w5 => ⟨rfl, ⟨⟨?_, ?_, ?_⟩, ⟨?_, ?_, ?_⟩, ⟨?_, ?_, ?_⟩, ?_⟩⟩) (fun z => absurd z f0)
      · rw [w1 1 (by decide) (by omega)]
        exact h.1.1.kept0 hok (fun q hq => k7 q (by omega) (by omega) (by omega) (by omega) (by omega) (by omega) (by omega))
      · rw [w1 1 (by decide) (by omega)]; exact hok
      · rw [w1 1 (by decide) (by omega)]
        refine h.1.2.2.kept ?_ ?_ ?_
        · rw [k7 1 (by omega) (by omega) (by omega) (by omega) (by omega) (by omega) (by omega)]
        · exact k7 13 (by omega) (by omega) (by omega) (by omega) (by omega) (by omega) (by omega)
        · exact k7 14 (by omega) (by omega) (by omega) (by omega) (by omega) (by omega) (by omega)
      · rw [w1 2 (by decide) (by omega)]
        exact h.2.1.1.kept1 h.2.1.2.1 (fun q hq => k7 q (by omega) (by omega) (by omega) (by omega) (by omega) (by omega) (by omega))
      · rw [w1 2 (by decide) (by omega)]; exact h.2.1.2.1
      · rw [w1 2 (by decide) (by omega), w1 1 (by decide) (by omega)]; exact h.2.1.2.2
      · exact ⟨0, by omega, m9, w3, fun i hi => absurd hi (Nat.not_lt_zero _)⟩
      · rw [m10]; exact w4.symm
      · rw [m11]; exact w5.symm
      · obtain ⟨o1, o2⟩ := old M7 (fun q h1 h2 => rfl)
        refine ⟨o1, fun t' ht' => ?_⟩
        rw [w1 1 (by decide) (by omega), et, nI_clamp (by omega)] at ht'
        obtain ⟨G, a1, a2, a3, a4, a5, a6⟩ := tx t' ht'
        exact ⟨G, a1, o2 t' ht' G a2, by rw [w1 4 (by decide) (by omega)]; exact a3, a4, a5, q_ref_cong a6 (fun i _ => by rw [w1 5 (by decide) (by omega)]) (fun i _ => by rw [w1 6 (by decide) (by omega)]) (fun i _ _ => by rw [w1 7 (by decide) (by omega), w1 8 (by decide) (by omega)]; exact ⟨rfl, rfl⟩)⟩
  · obtain rfl : t = 4 := by omega
    refine gd_within (fun _ => ?_) (fun q => absurd q (by decide))
    unfold T_X11_text
    rw [c0, et]
    exact ⟨by unfold vp_in; decide, qt rfl ⟨rfl, h⟩⟩
theorem steps_all : st_all RR := ⟨step_part, step_clear, step_raw, step_probe, step_channel, step_out, step_base, step_mode, step_feed, step_end, step_text, step_fault, step_by, step_swept, step_glow, step_lit, step_otherwise, step_caught, step_photo, step_shoot, step_settings, step_measure, step_parting, step_image, step_back, step_about⟩
