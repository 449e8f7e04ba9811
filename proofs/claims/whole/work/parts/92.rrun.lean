/-! the reference runs as the machine does -/
section RUN
variable {N0 N : gx_M} {b : Nat → Nat} {n p : Nat} {u bg : Bool} {S R : List q_F} {E ops : List Int32} {G : q_Gs} {k : Int32} {Q : Int32 → gx_M → Prop} {K : gx_M → Prop}
/-- behind a relation's right side -/
theorem r_right {P : gx_M → Prop} (h : q_rY N0 N b n true bg ((k, ops) :: R) E G p) (hk : q_isR k) (hm : ∀ c, c ∈ ops → q_isA c) (ho : ops.length ≤ 2) (hR : q_sE R) (hop : q_op R ≤ 8) (hl : q_len G + E.length + ops.length + q_op R < 390) (hna : ¬ (N 0 15 = 3 ∧ (N 0 16 = 43 ∨ N 0 16 = 45 ∨ N 0 16 = 42 ∨ N 0 16 = 47))) (kk : ∀ N1 : gx_M, q_rY N0 N1 b n true bg (q_pk (-41) R (k :: (q_wk 1 ops E).2)).1 (q_pk (-41) R (k :: (q_wk 1 ops E).2)).2 G p → N1 0 26 = 3 → P N1) : T_X11_goesOn N P := by
  have hn := R_neg hk
  have lR := sE_len hR
  have wR := wt_E hR
  have go : T_X11_goesOn_65 P N (q_fr k) := by
    rw [fr_R hk]
    unfold T_X11_goesOn_65 T_X11_goesOn_116 T_X11_goesOn_181
    refine qf (by decide) (qf (by decide) (qt rfl ?_))
    refine r_works (r := 3) h (fun c hc => Or.inl (hm c hc)) (by omega) (by omega) (by omega) (by omega) (fun N1 h1 e1 => ?_)
    rw [wk_13 ops E hm, wk_1] at h1
    have l1 : (q_wk 1 ops E).2.length = ops.length + E.length := len_app (E1 := []) (wk_1 ops E)
    have e20 : N1 0 20 = nI (R.length + 1) := h1.1.2.1.2.1
    have e11 : N1 11 (R.length + 1) = q_ro k := h1.1.2.2.1.1.2.1 (rel_R hk)
    rw [e20, nI_clamp (by omega), e11]
    refine ⟨vp_in_nI (by omega) (by omega), ?_⟩
    rintro _ rfl
    rw [nI_pred]
    rintro _ rfl
    have hY : q_rY N0 (gx_up N1 0 20 (nI R.length)) b n true bg R (q_wk 1 ops E).2 G p := by
      refine h1.fr (fun q a _ _ _ _ => gu_ne a) (fun j _ a _ => by rw [gu_eq, ub_ne a]) ?_ (by rw [gu_eq, ub_eq]) ?_ ?_ ?_
      · have e : q_op ((k, []) :: R) = q_op R := by
          show q_op R + (if k = -41 ∨ k = -51 ∨ k = -25 then 1 else 0) = _
          rw [if_neg hn.2.1, Nat.add_zero]
        rw [gu_eq, ub_ne (by decide), ← e]; exact h1.1.2.1.1
      · rw [gu_eq, ub_ne (by decide)]; exact h1.1.2.1.2.2.1
      · exact fs_cong h1.1.2.2.1.1.2.2 (fun i _ => by rw [gu_ne (by decide)]) (fun i _ => by rw [gu_ne (by decide)])
      · exact ws_cong h1.1.2.2.1.2.1 (fun i _ => by rw [gu_ne (by decide), gu_ne (by decide)]; exact ⟨rfl, rfl⟩)
    have hQ : T_X11_emits (gx_up N1 0 20 (nI R.length)) (q_ro k) (q_rv k) (fun M10 => T_X11_askIsOver M10 (fun M11 => P M11)) := by
      refine r_emits hY (by omega) (fun N2 h2 _ _ => ?_)
      exact r_askIsOver h2 hR hop (by rw [List.length_cons]; omega) kk
    rw [(tks_R hk).2.2.2] at hQ
    exact hQ
  unfold T_X11_goesOn
  refine r_top h (by omega) (qc (fun e3 => qf (fun z => hna ⟨e3, Or.inl z⟩) (qf (fun z => hna ⟨e3, Or.inr (Or.inl z)⟩) (qf (fun z => hna ⟨e3, Or.inr (Or.inr (Or.inl z))⟩) (qf (fun z => hna ⟨e3, Or.inr (Or.inr (Or.inr z))⟩) go)))) (fun _ => go))
theorem sE_1 {S : List q_F} (h : q_sE S) (bg : Bool) (hb : bg = true) : q_sA bg ((4, []) :: S) := ⟨trivial, Or.inr (Or.inl ⟨Or.inl rfl, hb, h⟩)⟩
theorem ok_top {ph : Nat} {bg : Bool} {S : List q_F} {E : List Int32} {G : q_Gs} {p : Nat} (h : q_ok ph bg S E G p) (hp : p ≤ 300) : q_op S ≤ 8 ∧ S.length ≤ 10 ∧ (q_wt S).length ≤ 20 ∧ q_len G + E.length ≤ 300 := by
  obtain ⟨⟨-, -, h8, hs⟩, -, h⟩ := h
  have ls : S.length ≤ 10 ∧ (q_wt S).length ≤ 20 := by
    rcases h with ⟨-, rfl, -⟩ | ⟨-, -, hS, -⟩ | ⟨-, hS, -⟩ | ⟨-, hS, -⟩
    · exact ⟨Nat.zero_le _, Nat.zero_le _⟩
    · have a := sE_len hS
      have c := wt_E hS
      exact ⟨by omega, by omega⟩
    · have a := sA_len hS
      have c := wt_A hS
      exact ⟨by omega, by omega⟩
    · have a := sA_len hS
      have c := wt_A hS
      exact ⟨by omega, by omega⟩
  exact ⟨h8, ls.1, ls.2, by omega⟩
/-- what is told of the end of a run -/
def q_end (N0 N' : gx_M) (f pl : Int32) (G' : q_Gs) : Prop := (f ≠ 0 ∧ N' 0 17 = f ∧ N' 0 18 = pl) ∨ (f = 0 ∧ pl = -1 ∧ N' 0 17 = 0 ∧ N' 0 18 = -1 ∧ N' 0 27 = nI G'.length ∧ N' 0 30 = nI (q_len G') ∧ q_nref N' G')
/-- the state in which one is wanted, come to from an ask or at once -/
theorem r_entry {ph fl0 : Nat} {S0 : List q_F} (hS0 : (ph = 0 ∧ S0 = (4, []) :: S) ∨ (ph = 1 ∧ S0 = S)) (h : q_rY N0 N b n (decide (ph ≠ 4)) bg S E G p) (h26 : N 0 26 = nI ph) (hs : ¬ (ph = 0 ∧ q_sg b n p = -41)) (hl : S.length < 40) (kk : ∀ (N1 : gx_M) (fl1 : Nat), q_rY N0 N1 b n true bg S0 E G p → N1 0 26 = 1 → fl0 + 1 ≤ fl1 → T_X11_begins N1 (fun M => T_X11_text_74 Q K fl1 M)) : T_X11_text_74 Q K (fl0 + 3) N := by
  have h17 := h.1.1.2.2.1
  rcases hS0 with ⟨rfl, rfl⟩ | ⟨rfl, rfl⟩
  · have h26 : N 0 26 = 0 := h26
    refine r_go h17 (fun e => by rw [h26] at e; exact absurd e (by decide)) ?_
    unfold T_X11_text_96
    refine qt h26 ?_
    unfold T_X11_asks
    refine r_isWord (fun e1 e2 => ?_) (fun e => qt rfl ?_)
    · obtain ⟨i, hi, hsg, ht⟩ := tk_1 e1 h.2.2.2
      have : nI i = nI 4 := ht.symm.trans e2
      have := (nI_eq (by omega) (by omega)).mp this
      subst this
      exact absurd ⟨rfl, hsg.trans ws_at.2.2.2.2⟩ hs
    · refine r_frame (k := 4) h (Or.inr (Or.inr rfl)) hl (fun N1 h1 e1 => ?_)
      rintro _ rfl
      have h2 := h1.state 1
      have e26 : gx_up N1 0 26 1 0 26 = 1 := by rw [gu_eq, ub_eq]
      refine r_go h2.1.1.2.2.1 (fun e => by rw [e26] at e; exact absurd e (by decide)) ?_
      unfold T_X11_text_96
      refine qf (by rw [e26]; decide) (qt e26 (kk _ (fl0 + 1) h2 e26 (Nat.le_refl _)))
  · have h26 : N 0 26 = 1 := h26
    refine r_go h17 (fun e => by rw [h26] at e; exact absurd e (by decide)) ?_
    unfold T_X11_text_96
    exact qf (by rw [h26]; decide) (qt h26 (kk N (fl0 + 2) h h26 (by omega)))
theorem r_run (hn : n ≤ 300) {f pl : Int32} {G' : q_Gs} (hK : ∀ N' : gx_M, q_rF N0 N' → q_end N0 N' f pl G' → K N') : ∀ (m ph : Nat) (bg : Bool) (S : List q_F) (E : List Int32) (G : q_Gs) (p fl : Nat) (N : gx_M), q_ex b n m ph bg S E G p f pl G' → q_ok ph bg S E G p → p ≤ n → 3 * m + 1 ≤ fl → q_rY N0 N b n (decide (ph ≠ 4)) bg S E G p → N 0 26 = nI ph → T_X11_text_74 Q K fl N := by
  intro m
  induction m with
  | zero => intro ph bg S E G p fl N h; exact h.elim
  | succ m ih =>
    intro ph bg S E G p fl N hex hok hp hfl h h26
    obtain ⟨fl0, rfl⟩ : ∃ fl0, fl = fl0 + 3 := ⟨fl - 3, by omega⟩
    have hfl : 3 * m + 1 ≤ fl0 := by omega
    obtain ⟨h8, hS10, hwt, hlen⟩ := ok_top hok (by omega)
    have h17 := h.1.1.2.2.1
    have htk := h.2.2.2
    obtain ⟨bd1, bd2, bd3, bd4⟩ := q_ne_bd b hp
    rcases hex with ⟨hf, rfl⟩ | ⟨rfl, hs, rfl, rfl, rfl⟩ | ⟨ph1, bg1, S1, E1, G1, hx, hex⟩
    · -- a fault
      have f0 := flt_0 hf
      have bad : ∀ {S1 : List q_F} {E1 : List Int32} {u1 : Bool} {N1 : gx_M} {fl1 : Nat}, q_rY N0 N1 b n u1 bg S1 E1 G p → 1 ≤ fl1 → T_X11_errs N1 f (fun M => T_X11_text_74 Q K fl1 M) := by
        intro S1 E1 u1 N1 fl1 h1 hfl1
        obtain ⟨fl2, rfl⟩ : ∃ fl2, fl1 = fl2 + 1 := ⟨fl1 - 1, by omega⟩
        exact r_bad h1 f0 (fun N' rf e1 e2 => hK N' rf (Or.inl ⟨f0, e1, e2⟩))
      rcases hf with ⟨rfl, hf⟩ | ⟨rfl, hs, e8, rfl⟩ | ⟨hph, hns, hf⟩ | ⟨rfl, rfl, k, ops, R, rfl, n1, n2, n3, n4, n5⟩
      · have h26 : N 0 26 = 4 := h26
        have hg : G.length ≤ 10 := by have := hok.1.2.1; rw [if_pos rfl] at this; exact this
        have e27 : N 0 27 = nI G.length := h.1.2.1.2.2.2.1
        -- a fault behind which the clause is left
        have left : ∀ v : Int32, T_X11_errs N f (fun M => T_X11_clause_60 (fun M21 => T_X11_text_74 Q K (fl0 + 2) M21) M v) := by
          intro v
          refine r_errs h17 (fun N' fq fj e1 e2 => ?_)
          unfold T_X11_clause_60
          have fpos : ¬ f ≤ 0 := by
            rcases hf with ⟨-, -, -, rfl⟩ | ⟨-, -, rfl⟩ | ⟨-, -, rfl⟩ <;> decide
          refine qf (by rw [e1]; exact fpos) (r_stop (by rw [e1]; exact f0) (hK N' ⟨fun o h1 h2 => (fq o h1).trans (h.1.1.1.1 o h1 h2), fun j h1 => (fj j (by omega) (by omega)).trans (h.1.1.1.2 j h1)⟩ (Or.inl ⟨f0, e1, e2.trans h.2.2.1⟩)))
        have ne0 : q_sg b n p ≠ -57 := by
          rcases hf with ⟨e, -⟩ | ⟨e, -⟩ | ⟨⟨e, -⟩ | e, -⟩
          · exact e
          · rw [e]; decide
          · rw [e]; decide
          · rw [e]; decide
        refine r_go h17 (fun _ z => ne0 (tk_0 z htk)) ?_
        unfold T_X11_text_96
        refine qf (by rw [h26]; decide) (qf (by rw [h26]; decide) (qf (by rw [h26]; decide) (qf (by rw [h26]; decide) ?_)))
        unfold T_X11_clause T_X11_clause_16 T_X11_clause_46
        rcases hf with ⟨-, n54, n55, rfl⟩ | ⟨e54, hh, rfl⟩ | ⟨hs, hg10, rfl⟩
        · refine qc (fun e1 => qc (fun e2 => ?_) (fun _ => bad h (by omega))) (fun _ => bad h (by omega))
          obtain ⟨i, hi, hsg, ht⟩ := tk_1 e1 htk
          rw [ht] at e2
          have e2 : i ≤ 1 := (nI_leI (b := 1) (by omega) (by omega)).mp e2
          have : i = 0 ∨ i = 1 := by omega
          rcases this with rfl | rfl
          · exact absurd (hsg.trans ws_at.1) n54
          · exact absurd (hsg.trans ws_at.2.1) n55
        · obtain ⟨t1, t2⟩ := tk_word (i := 0) (by omega) (e54.trans ws_at.1.symm) htk
          refine qt t1 (qt (by rw [t2]; decide) ?_)
          rintro _ rfl
          refine qt t2 (r_wasHold h.1 hg ?_)
          rw [hh]
          exact qf (by decide) (left _)
        · have to46 : (if N 0 27 = 10 then T_X11_errs N 5 (fun M9 => T_X11_clause_60 (fun M21 => T_X11_text_74 Q K (fl0 + 2) M21) M9 (N 0 16)) else T_X11_clause_60 (fun M21 => T_X11_text_74 Q K (fl0 + 2) M21) N (N 0 16)) := by
            rw [e27, hg10]
            exact qt rfl (left _)
          rcases hs with ⟨e54, hh⟩ | e55
          · obtain ⟨t1, t2⟩ := tk_word (i := 0) (by omega) (e54.trans ws_at.1.symm) htk
            refine qt t1 (qt (by rw [t2]; decide) ?_)
            rintro _ rfl
            refine qt t2 (r_wasHold h.1 hg ?_)
            rw [hh]
            exact qt rfl to46
          · obtain ⟨t1, t2⟩ := tk_word (i := 1) (by omega) (e55.trans ws_at.2.1.symm) htk
            refine qt t1 (qt (by rw [t2]; decide) ?_)
            rintro _ rfl
            exact qf (by rw [t2]; decide) to46
      · have h26 : N 0 26 = 0 := h26
        refine r_go h17 (fun e => by rw [h26] at e; exact absurd e (by decide)) ?_
        unfold T_X11_text_96
        refine qt h26 ?_
        obtain ⟨t1, t2⟩ := tk_word (i := 4) (by omega) (hs.trans ws_at.2.2.2.2.symm) htk
        unfold T_X11_asks
        refine r_isWord (fun _ _ => qf (by decide) ?_) (fun e => absurd ⟨t1, t2⟩ e)
        unfold T_X11_opensSign
        refine qt ?_ (bad h (by omega))
        rw [h.1.2.1.1, e8]; rfl
      · obtain ⟨S0, hS0⟩ : ∃ S0, (ph = 0 ∧ S0 = (4, []) :: S) ∨ (ph = 1 ∧ S0 = S) := by
          rcases hph with e | e
          · exact ⟨_, Or.inl ⟨e, rfl⟩⟩
          · exact ⟨_, Or.inr ⟨e, rfl⟩⟩
        have op0 : q_op S0 = q_op S := (sA_of hok hS0).2.2.2.1
        refine r_entry hS0 h h26 hns (by omega) (fun N1 fl1 h1 e1 hfl1 => ?_)
        have htk1 := h1.2.2.2
        unfold T_X11_begins T_X11_begins_88
        rcases hf with ⟨hs, hnu, rfl⟩ | ⟨hs, e8, rfl⟩ | ⟨n56, nv, n51, n22, rfl⟩
        · obtain ⟨t1, t2, t3⟩ := tk_num hs htk1
          refine qt t1 (qf ?_ (bad h1 (by omega)))
          rw [t2]; exact nI_ge (a := 9999) hnu (by omega)
        · have e19 : N1 0 19 = 8 := by rw [h1.1.2.1.1, op0, e8]; rfl
          rcases hs with hs | hs
          · obtain ⟨t1, t2⟩ := tk_sgn (t := 40) (by rw [hs]; unfold q_tks; decide) htk1
            refine qf (by rw [t1]; decide) (qf (by rw [t1]; decide) (r_isSign (fun _ _ => qf (by decide) ?_) (fun e => absurd ⟨t1, t2⟩ e)))
            unfold T_X11_opensSign
            exact qt e19 (bad h1 (by omega))
          · obtain ⟨t1, t2⟩ := tk_sgn (t := 45) (by rw [hs]; unfold q_tks; decide) htk1
            refine qf (by rw [t1]; decide) (qf (by rw [t1]; decide) (r_isSign (fun _ e => by rw [t2] at e; exact absurd e (by decide)) (fun _ => qt rfl (r_isSign (fun _ _ => qf (by decide) ?_) (fun e => absurd ⟨t1, t2⟩ e)))))
            unfold T_X11_opensSign
            exact qt e19 (bad h1 (by omega))
        · have b88 : T_X11_isSign N1 40 (fun r1 => (if r1 = 0 then T_X11_isSign N1 45 (fun r3 => (if r3 = 0 then T_X11_errs N1 1 (fun M5 => T_X11_text_74 Q K fl1 M5) else T_X11_opensSign N1 7 (fun r7 M6 => T_X11_text_74 Q K fl1 M6))) else T_X11_opensSign N1 6 (fun r9 M8 => T_X11_text_74 Q K fl1 M8))) := by
            refine r_isSign (fun e3 e4 => absurd (tk_3t e3 e4 (by decide) htk1) n51) (fun _ => qt rfl (r_isSign (fun e3 e4 => absurd (tk_3t e3 e4 (by decide) htk1) n22) (fun _ => qt rfl (bad h1 (by omega)))))
          refine qc (fun e2 => absurd (tk_2 e2 htk1) n56) (fun _ => qc (fun e1 => qc (fun _ => b88) (fun e4 => ?_)) (fun _ => b88))
          obtain ⟨i, hi, hsg, ht⟩ := tk_1 e1 htk1
          rw [ht] at e4
          have e5 : 5 ≤ i := by
            rcases Nat.lt_or_ge 4 i with z | z
            · exact z
            · exact absurd (nI_le (b := 4) z (by omega)) e4
          exact absurd (by rw [hsg]; exact (ws_val i hi).1.mpr e5) nv
      · have h26 : N 0 26 = 2 := h26
        obtain ⟨k', ops', R', e, oA, tE, hk⟩ := ok_2 hok
        injection e with e e3
        injection e with e1 e2
        subst e1 e2 e3
        obtain ⟨m2, mA⟩ := oA_mem oA
        have hna : ¬ (N 0 15 = 3 ∧ (N 0 16 = 43 ∨ N 0 16 = 45 ∨ N 0 16 = 42 ∨ N 0 16 = 47)) := by
          rintro ⟨e3, e | e | e | e⟩
          · exact n1 (by rw [tk_3t e3 e (by decide) htk]; exact Or.inl (by decide))
          · exact n1 (by rw [tk_3t e3 e (by decide) htk]; exact Or.inr (Or.inl (by decide)))
          · exact n1 (by rw [tk_3t e3 e (by decide) htk]; exact Or.inr (Or.inr (Or.inl (by decide))))
          · exact n1 (by rw [tk_3t e3 e (by decide) htk]; exact Or.inr (Or.inr (Or.inr (by decide))))
        have hR10 : R.length < 40 := by rw [List.length_cons] at hS10; omega
        refine r_go h17 (fun e => by rw [h26] at e; exact absurd e (by decide)) ?_
        unfold T_X11_text_96
        refine qf (by rw [h26]; decide) (qf (by rw [h26]; decide) (qt h26 ?_))
        -- not behind a relation's right side
        have plain : ¬ q_isR k → q_fr k ≠ 5 → T_X11_goesOn N (fun M17 => T_X11_text_74 Q K (fl0 + 2) M17) := by
          intro nR n5'
          have g245 : T_X11_goesOn_181 (fun M17 => T_X11_text_74 Q K (fl0 + 2) M17) N (q_fr k) := by
            unfold T_X11_goesOn_181 T_X11_goesOn_245
            refine qf n5' (qc (fun e1 => r_isSign (fun e3 e4 => absurd ⟨tk_3t e3 e4 (by decide) htk, Or.inl (fr_is.2.2.2.1.mp e1)⟩ n5) (fun _ => qt rfl (bad h (by omega)))) (fun _ => bad h (by omega)))
          have g116 : T_X11_goesOn_116 (fun M17 => T_X11_text_74 Q K (fl0 + 2) M17) N (q_fr k) := by
            unfold T_X11_goesOn_116
            refine qc (fun e4 => qc (fun e3 => ?_) (fun _ => g245)) (fun _ => g245)
            have k4 := fr_is.2.2.2.2.2.mp e4
            unfold T_X11_isAsking T_X11_isAsking_38
            have no : ∀ t : Int32, t ≠ 44 → q_isR (q_tg t) → N 0 16 = t → (if (1 : Int32) = 0 then T_X11_goesOn_181 (fun M17 => T_X11_text_74 Q K (fl0 + 2) M17) N (q_fr k) else T_X11_works N 3 (fun M14 => vp_in (M14 0 20) 41 ∧ ∀ M15, M15 = gx_up M14 11 ((M14 0 20).toNatClampNeg) (M14 0 16) → vp_in ((M15 0 20) - 1) 40 ∧ ∀ M16, M16 = gx_up M15 10 (((M15 0 20) - 1).toNatClampNeg) 5 → T_X11_next M16 (fun M17 => ∀ M18, M18 = gx_up M17 0 26 1 → T_X11_text_74 Q K (fl0 + 2) M18))) := by
              intro t t44 tR et
              exact absurd ⟨by rw [tk_3t e3 et t44 htk]; exact tR, k4⟩ n3
            refine qc (fun e => no 60 (by decide) (by unfold q_isR; decide) e) (fun _ => qc (fun e => no 62 (by decide) (by unfold q_isR; decide) e) (fun _ => qc (fun e => no 61 (by decide) (by unfold q_isR; decide) e) (fun _ => qc (fun e => no 35 (by decide) (by unfold q_isR; decide) e) (fun _ => qc (fun e => no 300 (by decide) (by unfold q_isR; decide) e) (fun _ => qc (fun e => no 301 (by decide) (by unfold q_isR; decide) e) (fun _ => qt rfl g245))))))
          have g65 : T_X11_goesOn_65 (fun M17 => T_X11_text_74 Q K (fl0 + 2) M17) N (q_fr k) := by
            unfold T_X11_goesOn_65
            refine qc (fun e6 => r_isSign (fun e3 e4 => absurd ⟨tk_3t e3 e4 (by decide) htk, fr_is.2.2.1.mp e6⟩ n2) (fun _ => qt rfl g116)) (fun _ => g116)
          unfold T_X11_goesOn
          refine r_top h hR10 (qc (fun e3 => qf (fun z => hna ⟨e3, Or.inl z⟩) (qf (fun z => hna ⟨e3, Or.inr (Or.inl z)⟩) (qf (fun z => hna ⟨e3, Or.inr (Or.inr (Or.inl z))⟩) (qf (fun z => hna ⟨e3, Or.inr (Or.inr (Or.inr z))⟩) g65)))) (fun _ => g65))
        rcases hk with ⟨rfl, -⟩ | ⟨rfl, -⟩ | ⟨kR, hbg, hR⟩ | ⟨rfl, -⟩
        · exact plain (by unfold q_isR; decide) (by decide)
        · exact plain (by unfold q_isR; decide) (by decide)
        · have hn := R_neg kR
          have opS : q_op ((k, ops) :: R) = q_op R := by
            show q_op R + (if k = -41 ∨ k = -51 ∨ k = -25 then 1 else 0) = _
            rw [if_neg hn.2.1, Nat.add_zero]
          have t1 := wk_A (r := 1) ops E mA tE
          rw [wk_1, List.map_nil, List.nil_append, if_pos (rel_R kR)] at t1
          obtain ⟨ops2, E2, j2, c1, c2, -⟩ := pk41 R (k :: (q_wk 1 ops E).2) hR ⟨_, t1, Or.inr (Or.inr (Or.inr (Or.inr (Or.inl ⟨kR, _, rfl, rfl⟩))))⟩
          refine r_right h kR mA m2 hR (by omega) (by omega) hna (fun N1 h1 e1 => ?_)
          rw [c1] at h1
          have htk1 := h1.2.2.2
          refine r_go h1.1.1.2.2.1 (fun e => by rw [e1] at e; exact absurd e (by decide)) ?_
          unfold T_X11_text_96
          refine qf (by rw [e1]; decide) (qf (by rw [e1]; decide) (qf (by rw [e1]; decide) (qt e1 ?_)))
          unfold T_X11_asksOn T_X11_asksOn_69
          have noW : ∀ i, i < 12 → (q_wsg i = -43 ∨ q_wsg i = -42) → N1 0 15 = 1 → N1 0 16 = nI i → False := by
            intro i hi hw e15 e16
            obtain ⟨i', hi', hsg, ht⟩ := tk_1 e15 htk1
            have := (nI_eq (by omega) (by omega)).mp (ht.symm.trans e16)
            subst this
            rw [← hsg] at hw
            exact n4 ⟨hw.symm, kR⟩
          refine r_isWord (fun e15 e16 => (noW 2 (by omega) (Or.inl ws_at.2.2.1) e15 e16).elim) (fun _ => qt rfl (r_isWord (fun e15 e16 => (noW 3 (by omega) (Or.inr ws_at.2.2.2.1) e15 e16).elim) (fun _ => qt rfl (r_top h1 (by simp) (qt (by decide) (r_isSign (fun e3 e4 => absurd ⟨tk_3t e3 e4 (by decide) htk1, Or.inr kR⟩ n5) (fun _ => qt rfl (bad h1 (by omega)))))))))
        · exact plain (by unfold q_isR; decide) (by decide)
    · -- the text's end
      have h26 : N 0 26 = 4 := h26
      have hE : E = [] := by
        obtain ⟨-, -, hh⟩ := hok
        rcases hh with ⟨-, -, e⟩ | ⟨e, -⟩ | ⟨e, -⟩ | ⟨e, -⟩
        · exact e
        · cases e
        · cases e
        · cases e
      subst hE
      unfold T_X11_text_74
      refine qt h17 (qt h26 (qt (tk_end hs htk) (hK N h.1.1.1 (Or.inr ⟨rfl, rfl, h17, h.1.1.2.2.2, h.1.2.1.2.2.2.1, h.1.2.1.2.2.2.2, h.1.2.2.2.1⟩))))
    · -- a step
      have hlt := bd4 (nx_ne hx)
      have hok1 := ok_nx hok (p' := q_ne b n p) (by omega) (by omega) hx
      have next : ∀ (N' : gx_M) (fl1 : Nat), q_rY N0 N' b n (decide (ph1 ≠ 4)) bg1 S1 E1 G1 (q_ne b n p) → N' 0 26 = nI ph1 → 3 * m + 1 ≤ fl1 → T_X11_text_74 Q K fl1 N' := fun N' fl1 hY h26' hf => ih ph1 bg1 S1 E1 G1 (q_ne b n p) fl1 N' hex hok1 bd3 hf hY h26'
      rcases hx with ⟨rfl, hG, rfl, rfl, hr⟩ | ⟨rfl, hs, hlt8, rfl, rfl, rfl, rfl, rfl⟩ | ⟨S0, hS0, rfl, rfl, hr⟩ | ⟨rfl, k, ops, R, rfl, rfl, hr⟩
      · have h26 : N 0 26 = 4 := h26
        have hSE : S = [] ∧ E = [] := by
          obtain ⟨-, -, hh⟩ := hok
          rcases hh with ⟨-, e⟩ | ⟨e, -⟩ | ⟨e, -⟩ | ⟨e, -⟩
          · exact e
          · cases e
          · cases e
          · cases e
        obtain ⟨rfl, rfl⟩ := hSE
        have e27 : N 0 27 = nI G1.length := h.1.2.1.2.2.2.1
        have e30 : N 0 30 = nI (q_len G1) := h.1.2.1.2.2.2.2
        have ne0 : q_sg b n p ≠ -57 := by
          rcases hr with ⟨e, -⟩ | ⟨e, -⟩ <;> (rw [e]; decide)
        -- the clause's head is kept
        have go60 : ∀ (v kx : Int32) (phx : Nat), v = b2i bg1 → (bg1 = false → kx = 1 ∧ phx = 1) → (bg1 = true → kx = 2 ∧ phx = 0) → ph1 = phx → S1 = [(kx, [])] → T_X11_clause_60 (fun M21 => T_X11_text_74 Q K (fl0 + 2) M21) N v := by
          rintro v kx phx rfl hb0 hb1 rfl rfl
          unfold T_X11_clause_60
          refine qt (by rw [h17]; decide) ?_
          rw [e27]
          refine ⟨vp_in_nI hG (by omega), ?_⟩
          rintro _ rfl
          rw [nI_clamp (by omega), gu_ne (show 0 ≠ 14 by decide), e27, e30]
          refine ⟨vp_in_nI hG (by omega), ?_⟩
          rintro _ rfl
          rw [nI_clamp (by omega)]
          have hY : q_rY N0 (gx_up (gx_up N 14 G1.length (b2i bg1)) 15 G1.length (nI (q_len G1))) b n true bg1 [] [] G1 p := by
            obtain ⟨⟨⟨a1, a2, a3, a4⟩, ⟨b1, b2, b3, b4, b5⟩, ⟨c1, c2, c3⟩, d1, d2⟩, ht⟩ := h
            have t : ∀ q, q ≠ 14 → q ≠ 15 → gx_up (gx_up N 14 G1.length (b2i bg1)) 15 G1.length (nI (q_len G1)) q = N q := fun q a c => by rw [gu_ne c, gu_ne a]
            have t0 := t 0 (by decide) (by decide)
            refine ⟨⟨⟨⟨fun o h1 h2 => (t o (by omega) (by omega)).trans (a1.1 o h1 h2), fun j h1 => by rw [t0]; exact a1.2 j h1⟩, ⟨a2.1, by rw [t0]; exact a2.2.1, fun i hi => by rw [t 3 (by decide) (by decide)]; exact a2.2.2 i hi⟩, by rw [t0]; exact a3, by rw [t0]; exact a4⟩, by rw [t0]; exact ⟨b1, b2, b3, b4, b5⟩, ⟨trivial, trivial, trivial⟩, nref_cong d1 (fun i hi => ⟨by rw [gu_ne (by decide), gu_eq, ub_ne (by omega)], by rw [gu_eq, ub_ne (by omega), gu_ne (by decide)]⟩) (fun i _ => by rw [t 16 (by decide) (by decide), t 17 (by decide) (by decide)]; exact ⟨rfl, rfl⟩), fun _ => ⟨by rw [gu_ne (by decide), gu_eq, ub_eq], by rw [gu_eq, ub_eq]⟩⟩, ht.kept (fun j _ => by rw [t0])⟩
          refine r_next hY hp (fun N5 h5 e5 => ?_)
          unfold T_X11_clause_105
          cases hb : bg1 with
          | false =>
            obtain ⟨rfl, e1⟩ := hb0 hb
            subst hb
            refine qt rfl (r_frame (k := 1) h5 (Or.inl rfl) (by simp) (fun N6 h6 e6 => qt rfl ?_))
            rintro _ rfl
            refine next _ (fl0 + 2) ?_ (by rw [gu_eq, ub_eq, e1]; rfl) (by omega)
            rw [e1]
            exact h6.state 1
          | true =>
            obtain ⟨rfl, e1⟩ := hb1 hb
            subst hb
            refine qf (by decide) (r_frame (k := 2) h5 (Or.inr (Or.inl rfl)) (by simp) (fun N6 h6 e6 => qf (by decide) ?_))
            rintro _ rfl
            refine next _ (fl0 + 2) ?_ (by rw [gu_eq, ub_eq, e1]; rfl) (by omega)
            rw [e1]
            exact h6.state 0
        refine r_go h17 (fun _ z => ne0 (tk_0 z htk)) ?_
        unfold T_X11_text_96
        refine qf (by rw [h26]; decide) (qf (by rw [h26]; decide) (qf (by rw [h26]; decide) (qf (by rw [h26]; decide) ?_)))
        unfold T_X11_clause T_X11_clause_46
        have n10 : ¬ N 0 27 = 10 := by
          rw [e27]
          intro e
          have := (nI_eq (b := 10) (by omega) (by omega)).mp e
          omega
        rcases hr with ⟨e54, hh, e1, e2, e3⟩ | ⟨e55, e1, e2, e3⟩
        · obtain ⟨t1, t2⟩ := tk_word (i := 0) (by omega) (e54.trans ws_at.1.symm) htk
          refine qt t1 (qt (by rw [t2]; decide) ?_)
          rintro _ rfl
          refine qt t2 (r_wasHold h.1 (by omega) ?_)
          rw [hh]
          exact qt rfl (qf n10 (go60 _ 1 1 (by rw [t2, e2]; rfl) (fun _ => ⟨rfl, rfl⟩) (fun z => by rw [e2] at z; cases z) e1 e3))
        · obtain ⟨t1, t2⟩ := tk_word (i := 1) (by omega) (e55.trans ws_at.2.1.symm) htk
          refine qt t1 (qt (by rw [t2]; decide) ?_)
          rintro _ rfl
          exact qf (by rw [t2]; decide) (qf n10 (go60 _ 2 0 (by rw [t2, e2]; rfl) (fun z => by rw [e2] at z; cases z) (fun _ => ⟨rfl, rfl⟩) e1 e3))
      · have h26 : N 0 26 = 0 := h26
        refine r_go h17 (fun e => by rw [h26] at e; exact absurd e (by decide)) ?_
        unfold T_X11_text_96
        refine qt h26 ?_
        obtain ⟨t1, t2⟩ := tk_word (i := 4) (by omega) (hs.trans ws_at.2.2.2.2.symm) htk
        unfold T_X11_asks
        refine r_isWord (fun _ _ => qf (by decide) ?_) (fun e => absurd ⟨t1, t2⟩ e)
        exact r_sign (k := -41) h hp (Or.inl rfl) hlt8 (by omega) (fun N' h' e' => next N' (fl0 + 2) h' (e'.trans h26) (by omega))
      · have hns : ¬ (ph = 0 ∧ q_sg b n p = -41) := by
          rintro ⟨-, e⟩
          rcases hr with ⟨v, ⟨z, -⟩ | ⟨z, -⟩, -⟩ | ⟨k, ⟨z, -⟩ | ⟨z, -⟩, -⟩
          · rw [e] at z; exact absurd z (by decide)
          · rw [e] at z; exact absurd z (by decide)
          · rw [e] at z; exact absurd z (by decide)
          · rw [e] at z; exact absurd z (by decide)
        obtain ⟨sA0, tE0, f1, f2, f3, f4⟩ := sA_of hok hS0
        have l0 := sA_len sA0
        refine r_entry hS0 h h26 hns (by omega) (fun N1 fl1 h1 e1 hfl1 => ?_)
        have htk1 := h1.2.2.2
        rcases hr with ⟨v, hv, e2, e3, e4⟩ | ⟨k, hk, hlt8, rfl, rfl, rfl⟩
        · have val : T_X11_emits N1 (q_ro v) (q_rv v) (fun M13 => T_X11_next M13 (fun M14 => T_X11_oneIsOver M14 (fun M15 => T_X11_text_74 Q K fl1 M15))) := by
            refine r_emits h1 (by omega) (fun N2 h2 _ _ => r_next h2 hp (fun N3 h3 _ => r_oneIsOver h3 sA0 (by omega) (by rw [List.length_cons]; omega) (fun N4 h4 e5 => ?_)))
            rw [← e3, ← e4] at h4
            subst e2
            exact next N4 fl1 h4 e5 (by omega)
          unfold T_X11_begins
          rcases hv with ⟨hs, hnu, rfl⟩ | ⟨hw, rfl⟩
          · obtain ⟨t1, t2, t3⟩ := tk_num hs htk1
            have r1 : q_ro (nI (q_nu b n p)) = 400 := if_pos (nI_pos' (by omega))
            have r2 : q_rv (nI (q_nu b n p)) = nI (q_nu b n p) := if_pos (nI_pos' (by omega))
            rw [r1, r2] at val
            refine qt t1 ?_
            rw [t2]
            exact qt (nI_le (b := 9999) hnu (by omega)) val
          · obtain ⟨i, hi, hi5, hsg⟩ := ws_of hw
            obtain ⟨t1, t2⟩ := tk_word hi hsg htk1
            obtain ⟨-, wv⟩ := ws_val i hi
            obtain ⟨w1, w2⟩ := wv hi5
            rw [hsg, w2, ← w1] at val
            refine qf (by rw [t1]; decide) (qt t1 ?_)
            rw [t2]
            exact qf (nI_ge (a := 4) hi5 (by omega)) val
        · unfold T_X11_begins T_X11_begins_88
          rcases hk with ⟨hs, rfl⟩ | ⟨hs, rfl⟩
          · obtain ⟨t1, t2⟩ := tk_sgn (t := 40) (by rw [hs]; unfold q_tks; decide) htk1
            refine qf (by rw [t1]; decide) (qf (by rw [t1]; decide) (r_isSign (fun _ _ => qf (by decide) ?_) (fun e => absurd ⟨t1, t2⟩ e)))
            exact r_sign (k := -51) h1 hp (Or.inr (Or.inl rfl)) (by omega) (by omega) (fun N' h' e' => next N' fl1 h' (e'.trans e1) (by omega))
          · obtain ⟨t1, t2⟩ := tk_sgn (t := 45) (by rw [hs]; unfold q_tks; decide) htk1
            refine qf (by rw [t1]; decide) (qf (by rw [t1]; decide) (r_isSign (fun _ e => by rw [t2] at e; exact absurd e (by decide)) (fun _ => qt rfl (r_isSign (fun _ _ => qf (by decide) ?_) (fun e => absurd ⟨t1, t2⟩ e)))))
            exact r_sign (k := -25) h1 hp (Or.inr (Or.inr rfl)) (by omega) (by omega) (fun N' h' e' => next N' fl1 h' (e'.trans e1) (by omega))
      · have h26 : N 0 26 = 2 := h26
        obtain ⟨k', ops', R', e, oA, tE, hk⟩ := ok_2 hok
        injection e with e e3
        injection e with e1 e2
        subst e1 e2 e3
        obtain ⟨m2, mA⟩ := oA_mem oA
        have hR10 : R.length < 40 := by rw [List.length_cons] at hS10; omega
        have wR : ops.length + (q_wt R).length ≤ 20 := by rw [wt_len] at hwt; exact hwt
        have l1 : (q_wk 1 ops E).2.length = ops.length + E.length := len_app (E1 := []) (wk_1 ops E)
        have t1' := wk_A (r := 1) ops E mA tE
        rw [wk_1, List.map_nil, List.nil_append] at t1'
        refine r_go h17 (fun e => by rw [h26] at e; exact absurd e (by decide)) ?_
        unfold T_X11_text_96
        refine qf (by rw [h26]; decide) (qf (by rw [h26]; decide) (qt h26 ?_))
        -- to the second row of what can be: the sign is no operator of numbers
        have to65 : ¬ (N 0 15 = 3 ∧ (N 0 16 = 43 ∨ N 0 16 = 45 ∨ N 0 16 = 42 ∨ N 0 16 = 47)) → T_X11_goesOn_65 (fun M17 => T_X11_text_74 Q K (fl0 + 2) M17) N (q_fr k) → T_X11_goesOn N (fun M17 => T_X11_text_74 Q K (fl0 + 2) M17) := by
          intro hna g65
          unfold T_X11_goesOn
          exact r_top h hR10 (qc (fun e3 => qf (fun z => hna ⟨e3, Or.inl z⟩) (qf (fun z => hna ⟨e3, Or.inr (Or.inl z)⟩) (qf (fun z => hna ⟨e3, Or.inr (Or.inr (Or.inl z))⟩) (qf (fun z => hna ⟨e3, Or.inr (Or.inr (Or.inr z))⟩) g65)))) (fun _ => g65))
        rcases hr with ⟨hA, rfl, rfl, rfl, rfl⟩ | ⟨hs, rfl, rfl, rfl, rfl, rfl⟩ | ⟨hR, rfl, rfl, rfl, rfl, rfl⟩ | ⟨hB, hR, rfl, rfl, ops2, E2, e2, rfl, rfl⟩ | ⟨hs, rfl, rfl, rfl, rfl, rfl⟩ | ⟨hs, hR, rfl, rfl, rfl, ops2, E2, e2, rfl⟩
        · obtain ⟨ta, tb⟩ := tks_A hA
          obtain ⟨t1, t2⟩ := tk_sgn ta htk
          have g49 : T_X11_goesOn_49 (fun M17 => T_X11_text_74 Q K (fl0 + 2) M17) N := by
            unfold T_X11_goesOn_49
            rw [t2]
            refine r_waitsFor h hp (Or.inl hA) (fun c hc => Or.inl (mA c hc)) (by omega) (by omega) (by omega) (fun N' h' e' => ?_)
            rintro _ rfl
            exact next _ (fl0 + 2) (h'.state 1) (by rw [gu_eq, ub_eq]; rfl) (by omega)
          unfold T_X11_goesOn
          refine r_top h hR10 (qt t1 ?_)
          rw [t2]
          refine qc (fun _ => g49) (fun z1 => qc (fun _ => g49) (fun z2 => qc (fun _ => g49) (fun z3 => qc (fun _ => g49) (fun z4 => ?_))))
          rcases tb with z | z | z | z
          · exact absurd z z1
          · exact absurd z z2
          · exact absurd z z3
          · exact absurd z z4
        · obtain ⟨t1, t2⟩ := tk_sgn (t := 41) (by rw [hs]; unfold q_tks; decide) htk
          refine to65 (by rintro ⟨-, z⟩; rw [t2] at z; exact absurd z (by decide)) ?_
          unfold T_X11_goesOn_65
          refine qt (by decide) (r_isSign (fun _ _ => qf (by decide) ?_) (fun e => absurd ⟨t1, t2⟩ e))
          rcases hk with ⟨z, -⟩ | ⟨z, -⟩ | ⟨z, -⟩ | ⟨-, hR⟩
          · exact absurd z (by decide)
          · exact absurd z (by decide)
          · exact absurd z (by unfold q_isR; decide)
          · have op5 : q_op ((-51, ops) :: R) = q_op R + 1 := rfl
            refine r_works (r := 3) h (fun c hc => Or.inl (mA c hc)) (by omega) (by omega) (by omega) (by omega) (fun N1 h1 e1 => ?_)
            rw [wk_13 ops E mA, wk_1] at h1
            obtain ⟨hY, -⟩ := r_pop (x := 0) h1 (Or.inr (Or.inl rfl)) (by omega) (by omega)
            rintro _ rfl _ rfl
            exact r_next hY hp (fun N3 h3 _ => r_oneIsOver h3 hR (by omega) (by omega) (fun N4 h4 e4 => next N4 (fl0 + 2) h4 e4 (by omega)))
        · obtain ⟨ta, tb, tc, td⟩ := tks_R hR
          obtain ⟨t1, t2⟩ := tk_sgn ta htk
          refine to65 (by rintro ⟨-, z⟩; rw [t2] at z; rcases z with z | z | z | z; exact tb.1 z; exact tb.2.1 z; exact tb.2.2.1 z; exact tb.2.2.2 z) ?_
          unfold T_X11_goesOn_65 T_X11_goesOn_116
          refine qf (by decide) (qt (by decide) (qt t1 ?_))
          rcases hk with ⟨z, -⟩ | ⟨-, hbg, hE2⟩ | ⟨z, -⟩ | ⟨z, -⟩
          · exact absurd z (by decide)
          · have go : T_X11_works N 3 (fun M14 => vp_in (M14 0 20) 41 ∧ ∀ M15, M15 = gx_up M14 11 ((M14 0 20).toNatClampNeg) (M14 0 16) → vp_in ((M15 0 20) - 1) 40 ∧ ∀ M16, M16 = gx_up M15 10 (((M15 0 20) - 1).toNatClampNeg) 5 → T_X11_next M16 (fun M17 => ∀ M18, M18 = gx_up M17 0 26 1 → T_X11_text_74 Q K (fl0 + 2) M18)) := by
              refine r_works (r := 3) h (fun c hc => Or.inl (mA c hc)) (by omega) (by omega) (by omega) (by omega) (fun N1 h1 e1 => ?_)
              rw [wk_13 ops E mA, wk_1] at h1
              have e20 : N1 0 20 = nI (R.length + 1) := h1.1.2.1.2.1
              obtain ⟨u1, u2⟩ := tk_sgn ta h1.2.2.2
              rw [e20, nI_clamp (by omega), u2]
              refine ⟨vp_in_nI (by omega) (by omega), ?_⟩
              rintro _ rfl
              rw [gu_ne (show 0 ≠ 11 by decide), e20, nI_pred, nI_clamp (by omega)]
              refine ⟨vp_in_nI (by omega) (by omega), ?_⟩
              rintro _ rfl
              have hn := R_neg hR
              have hY : q_rY N0 (gx_up (gx_up N1 11 (R.length + 1) (q_ro (q_sg b n p))) 10 R.length 5) b n true bg1 ((q_sg b n p, []) :: R) (q_wk 1 ops E).2 G1 p := by
                refine h1.fr (fun q a a10 a11 _ _ => by rw [gu_ne a10, gu_ne a11]) (fun j _ _ _ => by rw [gu_ne (by decide), gu_ne (by decide)]) ?_ ?_ ?_ (show q_fs _ ((q_sg b n p, []) :: R) from ⟨?_, fun _ => ?_, ?_⟩) ?_
                · have e : q_op ((q_sg b n p, []) :: R) = q_op R := by
                    show q_op R + (if q_sg b n p = -41 ∨ q_sg b n p = -51 ∨ q_sg b n p = -25 then 1 else 0) = _
                    rw [if_neg hn.2.1, Nat.add_zero]
                  rw [e, gu_ne (by decide), gu_ne (by decide)]; exact h1.1.2.1.1
                · rw [gu_ne (by decide), gu_ne (by decide)]; exact e20
                · rw [gu_ne (by decide), gu_ne (by decide)]; exact h1.1.2.1.2.2.1
                · show _ = q_fr (q_sg b n p)
                  rw [gu_eq, ub_eq, fr_R hR]
                · rw [gu_ne (by decide), gu_eq, ub_eq]
                · exact fs_cong h1.1.2.2.1.1.2.2 (fun i hi => by rw [gu_eq, ub_ne (by omega), gu_ne (by decide)]) (fun i hi => by rw [gu_ne (by decide), gu_eq, ub_ne (by omega)])
                · exact ws_cong h1.1.2.2.1.2.1 (fun i _ => by rw [gu_ne (by decide), gu_ne (by decide), gu_ne (by decide), gu_ne (by decide)]; exact ⟨rfl, rfl⟩)
              refine r_next hY hp (fun N3 h3 _ => ?_)
              rintro _ rfl
              exact next _ (fl0 + 2) (h3.state 1) (by rw [gu_eq, ub_eq]; rfl) (by omega)
            unfold T_X11_isAsking T_X11_isAsking_38
            rw [t2]
            have y1 : ∀ A B : Prop, B → (if (1 : Int32) = 0 then A else B) := fun A B hB => qf (by decide) hB
            refine qc (fun _ => y1 _ _ go) (fun z1 => qc (fun _ => y1 _ _ go) (fun z2 => qc (fun _ => y1 _ _ go) (fun z3 => qc (fun _ => y1 _ _ go) (fun z4 => qc (fun _ => y1 _ _ go) (fun z5 => qc (fun _ => y1 _ _ go) (fun z6 => ?_))))))
            rcases tc with z | z | z | z | z | z
            · exact absurd z z1
            · exact absurd z z2
            · exact absurd z z3
            · exact absurd z z4
            · exact absurd z z5
            · exact absurd z z6
          · exact absurd z (by unfold q_isR; decide)
          · exact absurd z (by decide)
        · have hn := R_neg hR
          have s15 : N 0 15 = 1 := by
            rcases hB with z | z
            · exact (tk_word (i := 3) (by omega) (z.trans ws_at.2.2.2.1.symm) htk).1
            · exact (tk_word (i := 2) (by omega) (z.trans ws_at.2.2.1.symm) htk).1
          rcases hk with ⟨z, -⟩ | ⟨z, -⟩ | ⟨-, hbg, hE2⟩ | ⟨z, -⟩
          · exact absurd z hn.2.2.2.1
          · exact absurd z hn.2.2.2.2.1
          · have opS : q_op ((k, ops) :: R) = q_op R := by
              show q_op R + (if k = -41 ∨ k = -51 ∨ k = -25 then 1 else 0) = _
              rw [if_neg hn.2.1, Nat.add_zero]
            rw [if_pos (rel_R hR)] at t1'
            obtain ⟨o2, E2', j2, c1, c2, c3, c4, c5, c6, -⟩ := pk41 R (k :: (q_wk 1 ops E).2) hE2 ⟨_, t1', Or.inr (Or.inr (Or.inr (Or.inr (Or.inl ⟨hR, _, rfl, rfl⟩))))⟩
            rw [e2] at c1
            injection c1 with c1 c1'
            injection c1 with c1 _
            injection c1 with _ c1
            subst c1 c1'
            obtain ⟨n2, mB⟩ := oB_mem c2
            have lb := congrArg List.length c5
            rw [List.length_append, List.length_replicate, List.length_cons] at lb
            refine r_right h hR mA m2 hE2 (by omega) (by omega) (by rintro ⟨z, -⟩; rw [s15] at z; exact absurd z (by decide)) (fun N1 h1 e1 => ?_)
            rw [e2] at h1
            have h1 : q_rY N0 N1 b n true _ [(2, ops2)] E2 _ p := h1
            have htk1 := h1.2.2.2
            refine r_go h1.1.1.2.2.1 (fun e => by rw [e1] at e; exact absurd e (by decide)) ?_
            unfold T_X11_text_96
            refine qf (by rw [e1]; decide) (qf (by rw [e1]; decide) (qf (by rw [e1]; decide) (qt e1 ?_)))
            have g34 : T_X11_asksOn_34 (fun M19 => T_X11_text_74 Q K (fl0 + 1) M19) N1 (q_ro (q_sg b n p)) := by
              unfold T_X11_asksOn_34
              refine r_waitsFor (R := []) h1 hp (Or.inr hB) (fun c hc => Or.inr (mB c hc)) (by show ops2.length + 0 < 80; omega) (by simp) (by omega) (fun N' h' e' => ?_)
              rintro _ rfl
              exact next _ (fl0 + 1) (h'.state 0) (by rw [gu_eq, ub_eq]; rfl) (by omega)
            unfold T_X11_asksOn T_X11_asksOn_16
            rcases hB with z | z
            · obtain ⟨t1, t2⟩ := tk_word (i := 3) (by omega) (z.trans ws_at.2.2.2.1.symm) htk1
              rw [z, show q_ro (-42) = 406 by decide] at g34
              have no2 : ∀ A : Prop, N1 0 16 = 2 → A := fun A e => by rw [t2] at e; exact absurd e (by decide)
              exact r_isWord (fun _ e => no2 _ e) (fun _ => qt rfl (r_isWord (fun _ _ => qf (by decide) (r_isWord (fun _ e => no2 _ e) (fun _ => qt rfl g34))) (fun e => absurd ⟨t1, t2⟩ e)))
            · obtain ⟨t1, t2⟩ := tk_word (i := 2) (by omega) (z.trans ws_at.2.2.1.symm) htk1
              rw [z, show q_ro (-43) = 407 by decide] at g34
              exact r_isWord (fun _ _ => qf (by decide) (r_isWord (fun _ _ => qf (by decide) g34) (fun e => absurd ⟨t1, t2⟩ e))) (fun e => absurd ⟨t1, t2⟩ e)
          · exact absurd z hn.2.2.1
        · obtain ⟨t1, t2⟩ := tk_sgn (t := 59) (by rw [hs]; unfold q_tks; decide) htk
          refine to65 (by rintro ⟨-, z⟩; rw [t2] at z; exact absurd z (by decide)) ?_
          rcases hk with ⟨-, rfl, rfl⟩ | ⟨z, -⟩ | ⟨z, -⟩ | ⟨z, -⟩
          · unfold T_X11_goesOn_65 T_X11_goesOn_116 T_X11_goesOn_181
            refine qf (by decide) (qf (by decide) (qf (by decide) (qt (by decide) (r_isSign (fun _ _ => qf (by decide) ?_) (fun e => absurd ⟨t1, t2⟩ e)))))
            exact r_clauseIsOver h hp (Or.inl rfl) (fun c hc => Or.inl (mA c hc)) m2 (by omega) (fun N' h' e' => next N' (fl0 + 2) h' e' (by omega))
          · exact absurd z (by decide)
          · exact absurd z (by unfold q_isR; decide)
          · exact absurd z (by decide)
        · have hn := R_neg hR
          obtain ⟨t1, t2⟩ := tk_sgn (t := 59) (by rw [hs]; unfold q_tks; decide) htk
          rcases hk with ⟨z, -⟩ | ⟨z, -⟩ | ⟨-, hbg, hE2⟩ | ⟨z, -⟩
          · exact absurd z hn.2.2.2.1
          · exact absurd z hn.2.2.2.2.1
          · have opS : q_op ((k, ops) :: R) = q_op R := by
              show q_op R + (if k = -41 ∨ k = -51 ∨ k = -25 then 1 else 0) = _
              rw [if_neg hn.2.1, Nat.add_zero]
            rw [if_pos (rel_R hR)] at t1'
            obtain ⟨o2, E2', j2, c1, c2, c3, c4, c5, c6, -⟩ := pk41 R (k :: (q_wk 1 ops E).2) hE2 ⟨_, t1', Or.inr (Or.inr (Or.inr (Or.inr (Or.inl ⟨hR, _, rfl, rfl⟩))))⟩
            rw [e2] at c1
            injection c1 with c1 c1'
            injection c1 with c1 _
            injection c1 with _ c1
            subst c1 c1'
            obtain ⟨n2, mB⟩ := oB_mem c2
            have lb := congrArg List.length c5
            rw [List.length_append, List.length_replicate, List.length_cons] at lb
            refine r_right h hR mA m2 hE2 (by omega) (by omega) (by rintro ⟨-, z⟩; rw [t2] at z; exact absurd z (by decide)) (fun N1 h1 e1 => ?_)
            rw [e2] at h1
            have h1 : q_rY N0 N1 b n true _ [(2, ops2)] E2 _ p := h1
            obtain ⟨u1, u2⟩ := tk_sgn (t := 59) (by rw [hs]; unfold q_tks; decide) h1.2.2.2
            refine r_go h1.1.1.2.2.1 (fun e => by rw [e1] at e; exact absurd e (by decide)) ?_
            unfold T_X11_text_96
            refine qf (by rw [e1]; decide) (qf (by rw [e1]; decide) (qf (by rw [e1]; decide) (qt e1 ?_)))
            unfold T_X11_asksOn
            have no1 : ∀ A : Prop, N1 0 15 = 1 → A := fun A e => by rw [u1] at e; exact absurd e (by decide)
            refine r_isWord (fun e _ => no1 _ e) (fun _ => qt rfl (r_isWord (fun e _ => no1 _ e) (fun _ => qt rfl (r_top h1 (by simp) (qt (by decide) (r_isSign (fun _ _ => qf (by decide) ?_) (fun e => absurd ⟨u1, u2⟩ e)))))))
            subst hbg
            exact r_clauseIsOver h1 hp (Or.inr rfl) (fun c hc => Or.inr (mB c hc)) n2 (by omega) (fun N' h' e' => next N' (fl0 + 1) h' e' (by omega))
          · exact absurd z hn.2.2.1
end RUN
