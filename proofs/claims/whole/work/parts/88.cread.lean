/-! the class reads a text -/
theorem c_first {M0 M : gx_M} {o : Nat} {b : Nat → Nat} {n : Nat} {bg : Bool} {S : List q_F} {E : List Int32} {G : q_Gs} {sg : Int32} {nu p p' st : Nat} {Q : gx_M → Prop} (ho : pk_Pr o) (hok : q_ok 4 bg S E G p) (hne : sg ≠ -57) (hH : q_cH M0 M o b n 4 bg G p') (em : q_em M o bg [] (q_B G) (q_H G)) (h3 : M 5 3 = nI st)
    (hF : ∀ (f : Int32) (M' : gx_M), q_flt 4 S G sg nu f → q_cF M0 M' o → M' 4 13 = 1 → M' 4 14 = f → M' 4 15 = nI st → Q M')
    (hN : ∀ (ph1 : Nat) (bg1 : Bool) (S1 : List q_F) (E1 : List Int32) (G1 : q_Gs) (j1 : Nat) (Ec1 : List Int32) (M' : gx_M), q_nx 4 bg S E G sg nu ph1 bg1 S1 E1 G1 → q_cS M0 M' o b n ph1 bg1 S1 E1 G1 p' j1 Ec1 → Q M') : T_X5_takeFirst M sg Q := by
  have ho' := ho
  unfold pk_Pr at ho'
  have hg : G.length ≤ 10 := by
    have := hok.1.2.1
    rw [if_pos rfl] at this
    exact this
  have bad : ∀ f, q_flt 4 S G sg nu f → T_X5_fail M f Q := fun f hf => c_bad hH h3 hf hF
  obtain ⟨⟨c1, c2, c3⟩, ⟨d1, d2, d3, d4⟩, g1, g2, g3, g4⟩ := hH
  rw [if_pos rfl, Nat.add_zero] at g1
  have g2 : M 4 6 = b2i (q_hl G) := by
    rw [g2]
    show b2i (q_hl G || false) = _
    rw [Bool.or_false]
  have go : ∀ (bg1 : Bool) (x6 : Int32), G.length < 10 → x6 = b2i (q_hl G || !bg1) → ((sg = -54 ∧ q_hl G = false ∧ bg1 = false) ∨ (sg = -55 ∧ bg1 = true)) → T_X5_takeFirst_107 Q (gx_up (gx_up (gx_up M 4 5 (nI (G.length + 1))) 4 6 x6) 4 7 1) (b2i bg1) := by
    rintro bg1 _ hg9 rfl hr
    unfold T_X5_takeFirst_107
    refine ⟨by cases bg1 <;> decide, ?_⟩
    rintro _ rfl _ rfl
    have e8 : gx_up (gx_up (gx_up (gx_up (gx_up M 4 5 (nI (G.length + 1))) 4 6 (b2i (q_hl G || !bg1))) 4 7 1) 4 8 (b2i bg1)) 4 9 1 4 8 = b2i bg1 := by rw [gu_eq, ub_ne (by decide), gu_eq, ub_eq]
    rw [e8]
    refine ⟨by cases bg1 <;> decide, ?_⟩
    rintro _ rfl _ rfl _ rfl _ rfl _ rfl
    -- the memory that comes of it
    have mm : ∃ M' : gx_M, M' = gx_up (gx_up (gx_up (gx_up (gx_up (gx_up (gx_up (gx_up (gx_up (gx_up M 4 5 (nI (G.length + 1))) 4 6 (b2i (q_hl G || !bg1))) 4 7 1) 4 8 (b2i bg1)) 4 9 1) 4 10 (b2i bg1)) 4 11 0) 4 2 0) 4 3 0) 4 4 0 := ⟨_, rfl⟩
    obtain ⟨M', hM'⟩ := mm
    rw [← hM']
    have fr : ∀ q, q ≠ 4 → M' q = M q := fun q a => by rw [hM', gu_ne a, gu_ne a, gu_ne a, gu_ne a, gu_ne a, gu_ne a, gu_ne a, gu_ne a, gu_ne a, gu_ne a]
    have s : ∀ j, j ≠ 2 → j ≠ 3 → j ≠ 4 → j ≠ 5 → j ≠ 6 → j ≠ 7 → j ≠ 8 → j ≠ 9 → j ≠ 10 → j ≠ 11 → M' 4 j = M 4 j := fun j a2 a3 a4 a5 a6 a7 a8 a9 a10 a11 => by
      rw [hM', gu_eq, ub_ne a4, gu_eq, ub_ne a3, gu_eq, ub_ne a2, gu_eq, ub_ne a11, gu_eq, ub_ne a10, gu_eq, ub_ne a9, gu_eq, ub_ne a8, gu_eq, ub_ne a7, gu_eq, ub_ne a6, gu_eq, ub_ne a5]
    have v2 : M' 4 2 = 0 := by rw [hM']; simp [gu_at]
    have v3 : M' 4 3 = 0 := by rw [hM']; simp [gu_at]
    have v4 : M' 4 4 = 0 := by rw [hM']; simp [gu_at]
    have v5 : M' 4 5 = nI (G.length + 1) := by rw [hM']; simp [gu_at]
    have v6 : M' 4 6 = b2i (q_hl G || !bg1) := by rw [hM']; simp [gu_at]
    have v7 : M' 4 7 = 1 := by rw [hM']; simp [gu_at]
    have v8 : M' 4 8 = b2i bg1 := by rw [hM']; simp [gu_at]
    have v9 : M' 4 9 = 1 := by rw [hM']; simp [gu_at]
    have v10 : M' 4 10 = b2i bg1 := by rw [hM']; simp [gu_at]
    have v11 : M' 4 11 = 0 := by rw [hM']; simp [gu_at]
    have hd : ∀ ph1, ph1 ≠ 4 → q_cH M0 M' o b n ph1 bg1 G p' := fun ph1 h1 => by
      refine ⟨⟨fun q a1 a2 a3 a4 a5 a6 => (fr q a1).trans (c1 q a1 a2 a3 a4 a5 a6), ⟨c2.1, by rw [fr 5 (by decide)]; exact c2.2.1, by rw [fr 6 (by decide)]; exact c2.2.2⟩, by rw [fr 5 (by decide)]; exact c3⟩, ⟨?_, ?_, ?_, ?_⟩, ?_, ?_, ?_, ?_⟩
      · rw [s 16 (by decide) (by decide) (by decide) (by decide) (by decide) (by decide) (by decide) (by decide) (by decide) (by decide)]; exact d1
      · rw [s 13 (by decide) (by decide) (by decide) (by decide) (by decide) (by decide) (by decide) (by decide) (by decide) (by decide)]; exact d2
      · rw [s 14 (by decide) (by decide) (by decide) (by decide) (by decide) (by decide) (by decide) (by decide) (by decide) (by decide)]; exact d3
      · rw [s 15 (by decide) (by decide) (by decide) (by decide) (by decide) (by decide) (by decide) (by decide) (by decide) (by decide)]; exact d4
      · rw [if_neg h1]; exact v5
      · rw [decide_eq_true h1, Bool.true_and]; exact v6
      · rw [s 12 (by decide) (by decide) (by decide) (by decide) (by decide) (by decide) (by decide) (by decide) (by decide) (by decide)]; exact g3
      · rw [if_neg h1]; exact v7
    have em' : q_em M' o bg1 [] (q_B G) (q_H G) := (em_bg bg1 em).kept (fr o (by omega)) (fr _ (by omega)) (fr _ (by omega))
    rcases hr with ⟨e54, hh, rfl⟩ | ⟨e55, rfl⟩
    · refine hN 1 false [(1, [])] [] G 0 [] M' (Or.inl ⟨rfl, hg9, rfl, rfl, Or.inl ⟨e54, hh, rfl, rfl, rfl⟩⟩) ⟨hd 1 (by decide), Or.inr ⟨by decide, ⟨em', rfl, fun _ => rfl⟩, ⟨v2, trivial, v3, v4⟩, v8, v11, v9, fun e => absurd e (by decide), fun _ => v10⟩⟩
    · refine hN 0 true [(2, [])] [] G 0 [] M' (Or.inl ⟨rfl, hg9, rfl, rfl, Or.inr ⟨e55, rfl, rfl, rfl⟩⟩) ⟨hd 0 (by decide), Or.inr ⟨by decide, ⟨em', rfl, fun _ => rfl⟩, ⟨v2, trivial, v3, v4⟩, v8, v11, v9, fun _ => v10, fun e => absurd e (by decide)⟩⟩
  have t41 : ((sg = -54 ∧ q_hl G = false) ∨ sg = -55) → T_X5_takeFirst_41 Q M sg := by
    intro hr
    unfold T_X5_takeFirst_41
    rw [g1]
    refine qc (fun c => ?_) (fun c => bad 5 (Or.inl ⟨rfl, Or.inr (Or.inr ⟨hr, ?_, rfl⟩)⟩))
    · have c : G.length < 10 := (nI_ltI (b := 10) (by omega) (by omega)).mp c
      rintro _ rfl
      rw [nI_1]
      have e6 : gx_up M 4 5 (nI (G.length + 1)) 4 6 = b2i (q_hl G) := by rw [gu_eq, ub_ne (by decide)]; exact g2
      rw [e6]
      unfold T_X5_takeFirst_82 T_X5_takeFirst_87
      rcases hr with ⟨e54, hh⟩ | e55
      · rw [hh]
        refine qt rfl (qt e54 ⟨Or.inr rfl, ?_⟩)
        rintro _ rfl _ rfl
        exact qf (by rw [e54]; decide) (go false 1 c (by rw [hh]; rfl) (Or.inl ⟨e54, hh, rfl⟩))
      · have hb2 : (q_hl G || !true) = q_hl G := by
          show (q_hl G || false) = _
          rw [Bool.or_false]
        cases hh : q_hl G with
        | false =>
          refine qt rfl (qf (by rw [e55]; decide) ⟨Or.inl rfl, ?_⟩)
          rintro _ rfl _ rfl
          exact qt e55 (go true 0 c (by rw [hb2, hh]; rfl) (Or.inr ⟨e55, rfl⟩))
        | true =>
          refine qf (by decide) ⟨Or.inr rfl, ?_⟩
          rintro _ rfl _ rfl
          exact qt e55 (go true 1 c (by rw [hb2, hh]; rfl) (Or.inr ⟨e55, rfl⟩))
    · rcases Nat.lt_or_ge G.length 10 with z | z
      · exact absurd (nI_lt (b := 10) z (by omega)) c
      · omega
  unfold T_X5_takeFirst T_X5_takeFirst_20
  refine qc (fun e54 => qt e54 ?_) (fun e54 => qc (fun e55 => qf e54 (t41 (Or.inr e55))) (fun e55 => bad 1 (Or.inl ⟨rfl, Or.inl ⟨hne, e54, e55, rfl⟩⟩)))
  rw [g2]
  cases hh : q_hl G with
  | false => exact qt rfl (t41 (Or.inl ⟨e54, hh⟩))
  | true => exact qf (by decide) (bad 4 (Or.inl ⟨rfl, Or.inr (Or.inl ⟨e54, hh, rfl⟩)⟩))
theorem c_take {M0 M : gx_M} {o : Nat} {b : Nat → Nat} {n ph : Nat} {bg : Bool} {S : List q_F} {E Ec : List Int32} {G : q_Gs} {sg : Int32} {nu p p' st j : Nat} {Q : gx_M → Prop} (ho : pk_Pr o) (hok : q_ok ph bg S E G p) (hp3 : sg ≠ -57 → p < 300) (hH : q_cH M0 M o b n ph bg G p') (hB : (ph = 4 ∧ q_em M o bg [] (q_B G) (q_H G)) ∨ (ph ≠ 4 ∧ q_cW M o ph bg S E G j Ec)) (h3 : M 5 3 = nI st) (h5 : sg = -56 → M 5 5 = nI (min nu 10000))
    (hF : ∀ (f : Int32) (M' : gx_M), q_flt ph S G sg nu f → q_cF M0 M' o → M' 4 13 = 1 → M' 4 14 = f → M' 4 15 = nI st → Q M')
    (hD : ph = 4 → sg = -57 → ∀ M' : gx_M, q_cF M0 M' o → M' 4 13 = 1 → M' 4 14 = 0 → M' 4 15 = -1 → q_em M' o true [] (q_B G) (q_H G) → Q M')
    (hN : ∀ (ph1 : Nat) (bg1 : Bool) (S1 : List q_F) (E1 : List Int32) (G1 : q_Gs) (j1 : Nat) (Ec1 : List Int32) (M' : gx_M), q_nx ph bg S E G sg nu ph1 bg1 S1 E1 G1 → q_cS M0 M' o b n ph1 bg1 S1 E1 G1 p' j1 Ec1 → Q M') : T_X5_take M sg Q := by
  have ho' := ho
  unfold pk_Pr at ho'
  have m7 := hH.2.2.2.2.2
  have phs : ph = 4 ∨ (ph = 0 ∨ ph = 1) ∨ ph = 2 := by
    obtain ⟨-, -, h⟩ := hok
    rcases h with ⟨e, -⟩ | ⟨e, -⟩ | ⟨e, -⟩ | ⟨e, -⟩ <;> omega
  -- no token, or the end, inside a clause
  have endbad : (sg = -57 ∨ sg = -58) → (ph = 4 → sg ≠ -57) → q_flt ph S G sg nu 1 := by
    intro e h4
    rcases phs with z | z | z
    · refine Or.inl ⟨z, Or.inl ⟨h4 z, ?_, ?_, rfl⟩⟩
      · rcases e with e | e <;> (rw [e]; decide)
      · rcases e with e | e <;> (rw [e]; decide)
    · refine Or.inr (Or.inr (Or.inl ⟨z, fun y => ?_, Or.inr (Or.inr ⟨?_, ?_, ?_, ?_, rfl⟩)⟩))
      · have y := y.2
        rcases e with e | e <;> (rw [e] at y; exact absurd y (by decide))
      · rcases e with e | e <;> (rw [e]; decide)
      · rcases e with e | e <;> (rw [e]; decide)
      · rcases e with e | e <;> (rw [e]; decide)
      · rcases e with e | e <;> (rw [e]; decide)
    · subst z
      obtain ⟨k, ops, R, rfl, -⟩ := ok_2 hok
      refine Or.inr (Or.inr (Or.inr ⟨rfl, rfl, k, ops, R, rfl, ?_, ?_, ?_, ?_, ?_⟩))
      · rcases e with e | e <;> (rw [e]; unfold q_isA; decide)
      · rintro ⟨y, -⟩
        rcases e with e | e <;> (rw [e] at y; exact absurd y (by decide))
      · rintro ⟨y, -⟩
        rcases e with e | e <;> (rw [e] at y; unfold q_isR at y; exact absurd y (by decide))
      · rintro ⟨y, -⟩
        rcases e with e | e <;> (rw [e] at y; exact absurd y (by decide))
      · rintro ⟨y, -⟩
        rcases e with e | e <;> (rw [e] at y; exact absurd y (by decide))
  unfold T_X5_take
  have t21 : (ph = 4 → sg ≠ -57) → T_X5_take_21 Q M sg := by
    intro h4
    unfold T_X5_take_21 T_X5_take_33
    refine qc (fun e => c_bad hH h3 (endbad (Or.inl e) h4) hF) (fun e57 => qc (fun e => c_bad hH h3 (endbad (Or.inr e) h4) hF) (fun e58 => ?_))
    rw [m7]
    rcases phs with z | z | z
    · subst z
      refine qt rfl ?_
      rcases hB with ⟨-, em⟩ | ⟨y, -⟩
      · exact c_first ho hok e57 hH em h3 hF hN
      · exact absurd rfl y
    · have ph4 : ph ≠ 4 := by omega
      rcases hB with ⟨y, -⟩ | ⟨-, hW⟩
      · exact absurd y ph4
      · have w9 := hW.2.2.2.2.1
        rw [if_neg (show ¬ ph = 2 by omega)] at w9
        rw [if_neg ph4, w9]
        exact qf (by decide) (qf (by decide) (c_one ho hok (hp3 e57) z hH hW h3 h5 hF hN))
    · subst z
      rcases hB with ⟨y, -⟩ | ⟨-, hW⟩
      · cases y
      · have w9 := hW.2.2.2.2.1
        rw [if_pos rfl] at w9
        rw [show (if (2 : Nat) = 4 then (0 : Int32) else 1) = 1 from rfl, w9]
        exact qf (by decide) (qt rfl (c_behind ho hok (hp3 e57) hH hW h3 hF hN))
  refine qc (fun e57 => ?_) (fun e57 => t21 (fun _ => e57))
  rw [m7]
  rcases Nat.eq_or_lt_of_le (Nat.zero_le 0) with _ | _
  · by_cases z : ph = 4
    · subst z
      refine qt rfl ?_
      rintro _ rfl
      rcases hB with ⟨-, em⟩ | ⟨y, -⟩
      · refine hD rfl e57 _ (fun q a1 a2 a3 a4 a5 a6 => by rw [gu_ne a1]; exact hH.1.1 q a1 a2 a3 a4 a5 a6) (by rw [gu_eq, ub_eq]) ?_ ?_ ((em_bg true em).kept (gu_ne (by omega)) (gu_ne (by omega)) (gu_ne (by omega)))
        · rw [gu_eq, ub_ne (by decide)]; exact hH.2.1.2.2.1
        · rw [gu_eq, ub_ne (by decide)]; exact hH.2.1.2.2.2
      · exact absurd rfl y
    · rw [if_neg z]
      exact qf (by decide) (t21 (fun y => absurd y z))
  · omega
theorem nx_ne {ph ph1 : Nat} {bg bg1 : Bool} {S S1 : List q_F} {E E1 : List Int32} {G G1 : q_Gs} {sg : Int32} {nu : Nat} (h : q_nx ph bg S E G sg nu ph1 bg1 S1 E1 G1) : sg ≠ -57 := by
  rintro rfl
  rcases h with ⟨-, -, -, -, ⟨e, -⟩ | ⟨e, -⟩⟩ | ⟨-, e, -⟩ | ⟨S0, -, -, -, ⟨v, ⟨e, -⟩ | ⟨e, -⟩, -⟩ | ⟨k, ⟨e, -⟩ | ⟨e, -⟩, -⟩⟩ | ⟨-, k, ops, R, -, -, ⟨e, -⟩ | ⟨e, -⟩ | ⟨e, -⟩ | ⟨e, -⟩ | ⟨e, -⟩ | ⟨e, -⟩⟩
  · exact absurd e (by decide)
  · exact absurd e (by decide)
  · exact absurd e (by decide)
  · exact absurd e (by decide)
  · exact absurd e (by decide)
  · exact absurd e (by decide)
  · exact absurd e (by decide)
  · exact absurd e (by unfold q_isA; decide)
  · exact absurd e (by decide)
  · exact absurd e (by unfold q_isR; decide)
  · exact absurd e (by decide)
  · exact absurd e (by decide)
  · exact absurd e (by decide)
theorem flt_0 {ph : Nat} {S : List q_F} {G : q_Gs} {sg f : Int32} {nu : Nat} (h : q_flt ph S G sg nu f) : f ≠ 0 := by
  rintro rfl
  rcases h with ⟨-, ⟨-, -, -, e⟩ | ⟨-, -, e⟩ | ⟨-, -, e⟩⟩ | ⟨-, -, -, e⟩ | ⟨-, -, ⟨-, -, e⟩ | ⟨-, -, e⟩ | ⟨-, -, -, -, e⟩⟩ | ⟨-, e, -⟩
  all_goals exact absurd e (by decide)
theorem c_read57 {M0 : gx_M} {o : Nat} {b : Nat → Nat} {n : Nat} {Q Q2 : gx_M → Prop} (ho : pk_Pr o) (hn : n ≤ 300) : ∀ (m ph : Nat) (bg : Bool) (S : List q_F) (E : List Int32) (G : q_Gs) (p j : Nat) (Ec : List Int32) (kk : Nat) (M : gx_M), n < p + m → p ≤ n → kk ≤ p → q_ok ph bg S E G p → q_cS M0 M o b n ph bg S E G p j Ec →
    (∀ (f pl : Int32) (G' : q_Gs) (M' : gx_M), q_ex b n m ph bg S E G p f pl G' → q_cF M0 M' o → M' 4 14 = f → M' 4 15 = pl → (f = 0 → q_em M' o true [] (q_B G') (q_H G')) → Q M') → T_X5_read_57 Q2 (fun M16 => Q M16) (m + 1) M (nI kk) := by
  intro m
  induction m with
  | zero => intro ph bg S E G p j Ec kk M h1 h2; omega
  | succ m ih =>
    intro ph bg S E G p j Ec kk M h1 h2 hk hok hS h
    obtain ⟨hH, hB⟩ := hS
    have hby := hH.1.2.1
    obtain ⟨bd1, bd2, bd3, bd4⟩ := q_ne_bd b h2
    unfold T_X5_read_57
    refine qf (show ¬ nI 300 < nI kk from nI_nlt (by omega) (by omega)) (qt hH.2.1.2.1 ?_)
    refine s_tok hby hH.1.2.2 h2 (fun M1 f1 e2 e3 e4 e5 => ?_)
    rw [e4]
    -- the memory with the token
    have m4 : M1 4 = M 4 := f1.1 4 (by decide)
    have hH1 : q_cH M0 M1 o b n ph bg G (q_ne b n p) := by
      obtain ⟨⟨c1, c2, c3⟩, d, g⟩ := hH
      refine ⟨⟨fun q a1 a2 a3 a4 a5 a6 => (f1.1 q a2).trans (c1 q a1 a2 a3 a4 a5 a6), c2.kept f1, e2⟩, ?_, ?_⟩
      · rw [m4]; exact d
      · rw [m4]; exact g
    have ho' := ho
    unfold pk_Pr at ho'
    have hB1 : (ph = 4 ∧ q_em M1 o bg [] (q_B G) (q_H G)) ∨ (ph ≠ 4 ∧ q_cW M1 o ph bg S E G j Ec) := by
      rcases hB with ⟨z, em⟩ | ⟨z, ⟨em, w1, w2⟩, ⟨w3, w4, w5⟩, w6⟩
      · exact Or.inl ⟨z, em.kept (f1.1 o (by omega)) (f1.1 _ (by omega)) (f1.1 _ (by omega))⟩
      · refine Or.inr ⟨z, ⟨em.kept (f1.1 o (by omega)) (f1.1 _ (by omega)) (f1.1 _ (by omega)), w1, w2⟩, ?_, ?_⟩
        · rw [m4, f1.1 7 (by decide)]; exact ⟨w3, w4, w5⟩
        · rw [m4]; exact w6
    -- the end of the reading
    have fin : ∀ (f pl : Int32) (G' : q_Gs) (M' : gx_M), q_ex b n (m + 1) ph bg S E G p f pl G' → q_cF M0 M' o → M' 4 13 = 1 → M' 4 14 = f → M' 4 15 = pl → (f = 0 → q_em M' o true [] (q_B G') (q_H G')) → ∀ x14, x14 = nI kk + 1 → T_X5_read_57 Q2 (fun M16 => Q M16) (m + 1) M' x14 := by
      rintro f pl G' M' hx hf h13 h14 h15 hem _ rfl
      have hQ := h f pl G' M' hx hf h14 h15 hem
      unfold T_X5_read_57
      exact qc (fun _ => hQ) (fun _ => qf (by rw [h13]; decide) hQ)
    refine c_take (nu := q_nu b n p) (st := q_st0 b n p) ho hok (fun z => by have := bd4 z; omega) hH1 hB1 e3 e5 (fun f M' hf c1 c2 c3 c4 => ?_) (fun z1 z2 M' c1 c2 c3 c4 em => ?_) (fun ph1 bg1 S1 E1 G1 j1 Ec1 M' hx hS1 => ?_)
    · exact fin f (nI (q_st0 b n p)) [] M' (Or.inl ⟨hf, rfl⟩) c1 c2 c3 c4 (fun e => absurd e (flt_0 hf))
    · exact fin 0 (-1) G M' (Or.inr (Or.inl ⟨z1, z2, rfl, rfl, rfl⟩)) c1 c2 c3 c4 (fun _ => em)
    · have hlt := bd4 (nx_ne hx)
      rintro _ rfl
      rw [nI_1]
      refine ih ph1 bg1 S1 E1 G1 (q_ne b n p) j1 Ec1 (kk + 1) M' (by omega) bd3 (by omega) (ok_nx hok (by omega) (by omega) hx) hS1 (fun f pl G' M2 hex c1 c2 c3 c4 => h f pl G' M2 (Or.inr (Or.inr ⟨ph1, bg1, S1, E1, G1, hx, hex⟩)) c1 c2 c3 c4)
/-- what a run of the machine can come to -/
theorem ex_ok {b : Nat → Nat} {n : Nat} (hn : n ≤ 300) : ∀ (m ph : Nat) (bg : Bool) (S : List q_F) (E : List Int32) (G : q_Gs) (p : Nat) (f pl : Int32) (G' : q_Gs), p ≤ n → q_ok ph bg S E G p → q_ex b n m ph bg S E G p f pl G' → f = 0 → q_wf G' ∧ G'.length ≤ 10 ∧ q_len G' ≤ 300 := by
  intro m
  induction m with
  | zero => intro ph bg S E G p f pl G' _ _ h; exact h.elim
  | succ m ih =>
    intro ph bg S E G p f pl G' hp hok h hf
    rcases h with ⟨h, -⟩ | ⟨rfl, -, -, -, rfl⟩ | ⟨ph1, bg1, S1, E1, G1, hx, hex⟩
    · exact absurd hf (flt_0 h)
    · obtain ⟨⟨h1, h2, h3, h4⟩, -, -⟩ := hok
      rw [if_pos rfl] at h2 h4
      exact ⟨h1, h2, by omega⟩
    · obtain ⟨bd1, bd2, bd3, bd4⟩ := q_ne_bd b hp
      have hlt := bd4 (nx_ne hx)
      exact ih ph1 bg1 S1 E1 G1 (q_ne b n p) f pl G' bd3 (ok_nx hok (by omega) (by omega) hx) hex hf
