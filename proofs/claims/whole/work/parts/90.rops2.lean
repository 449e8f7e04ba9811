/-! the reference reads: frames open and close -/
section ROPS2
variable {N0 N : gx_M} {b : Nat → Nat} {n p : Nat} {u bg : Bool} {S R : List q_F} {E ops : List Int32} {G : q_Gs} {k : Int32} {Q : gx_M → Prop}
theorem r_opens0 {f : Int32} (h20 : N 0 20 = nI S.length) (hl : S.length < 40) (kk : ∀ N' : gx_M, (∀ q, q ≠ 0 → q ≠ 10 → N' q = N q) → (∀ j, j ≠ 20 → N' 0 j = N 0 j) → N' 0 20 = nI (S.length + 1) → N' 10 = upd (N 10) S.length f → Q N') : T_X11_opensFrame N f Q := by
  unfold T_X11_opensFrame
  rw [h20]
  refine ⟨vp_in_nI hl (by omega), ?_⟩
  rintro _ rfl
  rw [nI_clamp (by omega), gu_ne (show 0 ≠ 10 by decide), h20, nI_1]
  rintro _ rfl
  exact kk _ (fun q a c => by rw [gu_ne a, gu_ne c]) (fun j a => by rw [gu_eq, ub_ne a, gu_ne (by decide)]) (by rw [gu_eq, ub_eq]) (by rw [gu_ne (by decide), gu_eq])
theorem fs_open {N' : gx_M} (h : q_fs N S) (hk : q_rel k = false) (h10 : N' 10 = upd (N 10) S.length (q_fr k)) (h11 : N' 11 = N 11) : q_fs N' ((k, []) :: S) := by
  refine ⟨by rw [h10, ub_eq], fun z => ?_, fs_cong h (fun i hi => by rw [h10, ub_ne (by omega)]) (fun i _ => by rw [h11])⟩
  have z : q_rel k = true := z
  rw [hk] at z; cases z
/-- a frame that no sign opens -/
theorem r_frame (h : q_rY N0 N b n u bg S E G p) (hk : k = 1 ∨ k = 2 ∨ k = 4) (hl : S.length < 40) (kk : ∀ N' : gx_M, q_rY N0 N' b n u bg ((k, []) :: S) E G p → N' 0 26 = N 0 26 → Q N') : T_X11_opensFrame N (q_fr k) Q := by
  refine r_opens0 h.1.2.1.2.1 hl (fun N' fq fj g20 g10 => kk N' (h.fr (fun q a c _ _ _ => fq q a c) (fun j _ a _ => fj j a) ?_ g20 ?_ (fs_open h.1.2.2.1.1 ?_ g10 (fq 11 (by decide) (by decide))) ?_) (fj 26 (by decide)))
  · have e : q_op ((k, []) :: S) = q_op S := by rcases hk with rfl | rfl | rfl <;> rfl
    rw [e, fj 19 (by decide)]; exact h.1.2.1.1
  · rw [fj 23 (by decide)]; exact h.1.2.1.2.2.1
  · rcases hk with rfl | rfl | rfl <;> decide
  · exact ws_cong h.1.2.2.1.2.1 (fun i _ => by rw [fq 12 (by decide) (by decide), fq 13 (by decide) (by decide)]; exact ⟨rfl, rfl⟩)
theorem r_errs {f : Int32} (h17 : N 0 17 = 0) (kk : ∀ N' : gx_M, (∀ q, q ≠ 0 → N' q = N q) → (∀ j, j ≠ 17 → j ≠ 18 → N' 0 j = N 0 j) → N' 0 17 = f → N' 0 18 = N 0 14 → Q N') : T_X11_errs N f Q := by
  unfold T_X11_errs
  refine qt h17 ?_
  rintro _ rfl _ rfl
  exact kk _ (fun q a => by rw [gu_ne a, gu_ne a]) (fun j a c => by rw [gu_eq, ub_ne c, gu_eq, ub_ne a]) (by rw [gu_eq, ub_ne (by decide), gu_eq, ub_eq]) (by rw [gu_eq, ub_eq, gu_eq, ub_ne (by decide)])
/-- a sign that opens, and the next token -/
theorem r_sign {Q : Int32 → gx_M → Prop} (h : q_rY N0 N b n u bg S E G p) (hp : p ≤ n) (hk : k = -41 ∨ k = -51 ∨ k = -25) (hop : q_op S < 8) (hl : S.length < 40) (kk : ∀ N' : gx_M, q_rY N0 N' b n u bg ((k, []) :: S) E G (q_ne b n p) → N' 0 26 = N 0 26 → Q 1 N') : T_X11_opensSign N (q_fr k) Q := by
  have e19 : N 0 19 = nI (q_op S) := h.1.2.1.1
  unfold T_X11_opensSign
  rw [e19]
  refine qf (fun e => by have := (nI_eq (b := 8) (by omega) (by omega)).mp e; omega) ?_
  rintro _ rfl
  rw [nI_1]
  refine r_opens0 (S := S) (by rw [gu_eq, ub_ne (by decide)]; exact h.1.2.1.2.1) hl (fun N' fq fj g20 g10 => ?_)
  have hY : q_rY N0 N' b n u bg ((k, []) :: S) E G p := by
    refine h.fr (fun q a c _ _ _ => by rw [fq q a c, gu_ne a]) (fun j a1 a2 _ => by rw [fj j a2, gu_eq, ub_ne a1]) ?_ g20 ?_ (fs_open (N := gx_up N 0 19 (nI (q_op S + 1))) (fs_cong h.1.2.2.1.1 (fun i _ => by rw [gu_ne (by decide)]) (fun i _ => by rw [gu_ne (by decide)])) ?_ g10 (fq 11 (by decide) (by decide))) ?_
    · have e : q_op ((k, []) :: S) = q_op S + 1 := by rcases hk with rfl | rfl | rfl <;> rfl
      rw [e, fj 19 (by decide), gu_eq, ub_eq]
    · rw [fj 23 (by decide), gu_eq, ub_ne (by decide)]; exact h.1.2.1.2.2.1
    · rcases hk with rfl | rfl | rfl <;> decide
    · exact ws_cong h.1.2.2.1.2.1 (fun i _ => by rw [fq 12 (by decide) (by decide), fq 13 (by decide) (by decide), gu_ne (by decide), gu_ne (by decide)]; exact ⟨rfl, rfl⟩)
  refine r_next hY hp (fun N2 h2 e2 => kk N2 h2 ?_)
  rw [e2, fj 26 (by decide), gu_eq, ub_ne (by decide)]
theorem r_top {P : Int32 → Prop} (h : q_rY N0 N b n u bg ((k, ops) :: R) E G p) (hl : R.length < 40) (kk : P (q_fr k)) : T_X11_top N P := by
  have e20 : N 0 20 = nI (R.length + 1) := h.1.2.1.2.1
  unfold T_X11_top
  rw [e20, nI_pred, nI_clamp (by omega)]
  have e := h.1.2.2.1.1.1
  have e : N 10 R.length = q_fr k := e
  rw [e]
  exact ⟨vp_in_nI hl (by omega), kk⟩
/-- a frame that a sign opened closes: no sign waits in it -/
theorem r_pop {x : Nat} (h : q_rY N0 N b n u bg ((k, []) :: R) E G p) (hk : k = -41 ∨ k = -51 ∨ k = -25) (hl : R.length < 1000) (hx : q_op R < 1000) : q_rY N0 (gx_up (gx_up N 0 20 (N 0 20 - 1)) 0 19 (gx_up N 0 20 (N 0 20 - 1) 0 19 - 1)) b n u bg R E G p ∧ gx_up (gx_up N 0 20 (N 0 20 - 1)) 0 19 (gx_up N 0 20 (N 0 20 - 1) 0 19 - 1) 0 26 = N 0 26 := by
  have e20 : N 0 20 = nI (R.length + 1) := h.1.2.1.2.1
  have e : q_op ((k, []) :: R) = q_op R + 1 := by rcases hk with rfl | rfl | rfl <;> rfl
  have e19 : N 0 19 = nI (q_op R + 1) := by rw [← e]; exact h.1.2.1.1
  refine ⟨h.fr (fun q a _ _ _ _ => by rw [gu_ne a, gu_ne a]) (fun j a1 a2 _ => by rw [gu_eq, ub_ne a1, gu_eq, ub_ne a2]) ?_ ?_ ?_ ?_ ?_, ?_⟩
  · rw [gu_eq, ub_eq, gu_eq, ub_ne (by decide), e19, nI_pred]
  · rw [gu_eq, ub_ne (by decide), gu_eq, ub_eq, e20, nI_pred]
  · rw [gu_eq, ub_ne (by decide), gu_eq, ub_ne (by decide)]; exact h.1.2.1.2.2.1
  · exact fs_cong h.1.2.2.1.1.2.2 (fun i _ => by rw [gu_ne (by decide), gu_ne (by decide)]) (fun i _ => by rw [gu_ne (by decide), gu_ne (by decide)])
  · exact ws_cong h.1.2.2.1.2.1 (fun i _ => by rw [gu_ne (by decide), gu_ne (by decide), gu_ne (by decide), gu_ne (by decide)]; exact ⟨rfl, rfl⟩)
  · rw [gu_eq, ub_ne (by decide), gu_eq, ub_ne (by decide)]
theorem fr_is {k : Int32} : (q_fr k = 7 ↔ k = -25) ∧ (q_fr k = 3 ↔ k = -41) ∧ (q_fr k = 6 ↔ k = -51) ∧ (q_fr k = 1 ↔ k = 1) ∧ (q_fr k = 2 ↔ k = 2) ∧ (q_fr k = 4 ↔ k = 4) := by
  unfold q_fr
  by_cases e1 : k = 1
  · subst e1; decide
  · rw [if_neg e1]
    by_cases e2 : k = 2
    · subst e2; decide
    · rw [if_neg e2]
      by_cases e4 : k = 4
      · subst e4; decide
      · rw [if_neg e4]
        by_cases e41 : k = -41
        · subst e41; decide
        · rw [if_neg e41]
          by_cases e51 : k = -51
          · subst e51; decide
          · rw [if_neg e51]
            by_cases e25 : k = -25
            · subst e25; decide
            · rw [if_neg e25]
              exact ⟨⟨fun z => absurd z (by decide), fun z => absurd z e25⟩, ⟨fun z => absurd z (by decide), fun z => absurd z e41⟩, ⟨fun z => absurd z (by decide), fun z => absurd z e51⟩, ⟨fun z => absurd z (by decide), fun z => absurd z e1⟩, ⟨fun z => absurd z (by decide), fun z => absurd z e2⟩, ⟨fun z => absurd z (by decide), fun z => absurd z e4⟩⟩
theorem fr_R {k : Int32} (h : q_isR k) : q_fr k = 5 := by rcases h with rfl | rfl | rfl | rfl | rfl | rfl <;> decide
/-- one is over: negations that wait are done -/
theorem r_oneIsOver (h : q_rY N0 N b n u bg S E G p) (hS : q_sA bg S) (hop : q_op S ≤ 8) (hl : q_len G + E.length + q_op S ≤ 400) (kk : ∀ N' : gx_M, q_rY N0 N' b n u bg (q_pk (-25) S E).1 (q_pk (-25) S E).2 G p → N' 0 26 = 2 → Q N') : T_X11_oneIsOver N Q := by
  have key : ∀ (S : List q_F) (E : List Int32) (N : gx_M), q_rY N0 N b n u bg S E G p → q_sA bg S → q_op S ≤ 8 → q_len G + E.length + q_op S ≤ 400 → (∀ N' : gx_M, q_rY N0 N' b n u bg (q_pk (-25) S E).1 (q_pk (-25) S E).2 G p → N' 0 26 = 2 → Q N') → T_X11_oneIsOver_0 Q (S.length + 1) N := by
    intro S
    induction S with
    | nil => intro E N _ hS; cases hS
    | cons f R ih =>
      intro E N h hS hop hl kk
      obtain ⟨k, ops⟩ := f
      have len := sA_len hS
      have opS : q_op ((k, ops) :: R) = q_op R + (if k = -41 ∨ k = -51 ∨ k = -25 then 1 else 0) := rfl
      rw [List.length_cons] at len ⊢
      unfold T_X11_oneIsOver_0
      refine r_top h (by omega) (qc (fun e => ?_) (fun e => ?_))
      · have e : k = -25 := fr_is.1.mp e
        subst e
        rw [if_pos (by decide)] at opS
        have ho : ops = [] ∧ q_sA bg R := by
          rcases hS.2 with ⟨z, -⟩ | ⟨z | z, -⟩ | ⟨z, -⟩ | ⟨-, z⟩
          · exact absurd z (show ¬ (-25 : Int32) = 1 by decide)
          · exact absurd z (show ¬ (-25 : Int32) = 4 by decide)
          · exact absurd z (show ¬ q_isR (-25) by unfold q_isR; decide)
          · exact absurd z (show ¬ (-25 : Int32) = -51 by decide)
          · exact z
        obtain ⟨rfl, hR⟩ := ho
        obtain ⟨hY, -⟩ := r_pop (x := 0) h (Or.inr (Or.inr rfl)) (by omega) (by omega)
        rintro _ rfl _ rfl
        have hQ : T_X11_emits (gx_up (gx_up N 0 20 (N 0 20 - 1)) 0 19 (gx_up N 0 20 (N 0 20 - 1) 0 19 - 1)) (q_ro (-25)) (q_rv (-25)) (fun M6 => T_X11_oneIsOver_0 Q (R.length + 1) M6) := by
          refine r_emits hY (by omega) (fun N2 h2 _ _ => ih (-25 :: E) N2 h2 hR (by omega) (by rw [List.length_cons]; omega) ?_)
          have e0 : q_pk (-25) ((-25, []) :: R) E = q_pk (-25) R (-25 :: E) := pk_yes (k := -25) (f := (-25, [])) rfl
          rw [e0] at kk
          exact kk
        exact hQ
      · have e : ¬ k = -25 := fun z => e (fr_is.1.mpr z)
        rintro _ rfl
        have e0 : q_pk (-25) ((k, ops) :: R) E = ((k, ops) :: R, E) := pk_no e
        rw [e0] at kk
        exact kk _ (h.state 2) (by rw [gu_eq, ub_eq])
  exact ⟨S.length + 1, key S E N h hS hop hl kk⟩
/-- an ask is over: nots that wait are done -/
theorem r_askIsOver (h : q_rY N0 N b n u bg S E G p) (hS : q_sE S) (hop : q_op S ≤ 8) (hl : q_len G + E.length + q_op S ≤ 400) (kk : ∀ N' : gx_M, q_rY N0 N' b n u bg (q_pk (-41) S E).1 (q_pk (-41) S E).2 G p → N' 0 26 = 3 → Q N') : T_X11_askIsOver N Q := by
  have key : ∀ (S : List q_F) (E : List Int32) (N : gx_M), q_rY N0 N b n u bg S E G p → q_sE S → q_op S ≤ 8 → q_len G + E.length + q_op S ≤ 400 → (∀ N' : gx_M, q_rY N0 N' b n u bg (q_pk (-41) S E).1 (q_pk (-41) S E).2 G p → N' 0 26 = 3 → Q N') → T_X11_askIsOver_0 Q (S.length + 1) N := by
    intro S
    induction S with
    | nil => intro E N _ hS; cases hS
    | cons f R ih =>
      intro E N h hS hop hl kk
      obtain ⟨k, ops⟩ := f
      have len := sE_len hS
      have opS : q_op ((k, ops) :: R) = q_op R + (if k = -41 ∨ k = -51 ∨ k = -25 then 1 else 0) := rfl
      rw [List.length_cons] at len ⊢
      unfold T_X11_askIsOver_0
      refine r_top h (by omega) (qc (fun e => ?_) (fun e => ?_))
      · have e : k = -41 := fr_is.2.1.mp e
        subst e
        rw [if_pos (by decide)] at opS
        have ho : ops = [] ∧ q_sE R := by
          rcases hS with ⟨z, -⟩ | ⟨-, z⟩
          · exact absurd z (show ¬ (-41 : Int32) = 2 by decide)
          · exact z
        obtain ⟨rfl, hR⟩ := ho
        obtain ⟨hY, -⟩ := r_pop (x := 0) h (Or.inl rfl) (by omega) (by omega)
        rintro _ rfl _ rfl
        have hQ : T_X11_emits (gx_up (gx_up N 0 20 (N 0 20 - 1)) 0 19 (gx_up N 0 20 (N 0 20 - 1) 0 19 - 1)) (q_ro (-41)) (q_rv (-41)) (fun M6 => T_X11_askIsOver_0 Q (R.length + 1) M6) := by
          refine r_emits hY (by omega) (fun N2 h2 _ _ => ih (-41 :: E) N2 h2 hR (by omega) (by rw [List.length_cons]; omega) ?_)
          have e0 : q_pk (-41) ((-41, []) :: R) E = q_pk (-41) R (-41 :: E) := pk_yes (k := -41) (f := (-41, [])) rfl
          rw [e0] at kk
          exact kk
        exact hQ
      · have e : ¬ k = -41 := fun z => e (fr_is.2.1.mpr z)
        rintro _ rfl
        have e0 : q_pk (-41) ((k, ops) :: R) E = ((k, ops) :: R, E) := pk_no e
        rw [e0] at kk
        exact kk _ (h.state 3) (by rw [gu_eq, ub_eq])
  exact ⟨S.length + 1, key S E N h hS hop hl kk⟩
/-- a sign waits, and the next token -/
theorem r_waitsFor {c : Int32} (h : q_rY N0 N b n u bg ((k, ops) :: R) E G p) (hp : p ≤ n) (hc : q_isA c ∨ c = -42 ∨ c = -43) (hm : ∀ c, c ∈ ops → q_isA c ∨ c = -42 ∨ c = -43) (hw : ops.length + (q_wt R).length < 80) (hR : R.length < 1000) (hl : q_len G + E.length + ops.length ≤ 400) (kk : ∀ N' : gx_M, q_rY N0 N' b n u bg ((k, c :: (q_wk (q_rk c) ops E).1) :: R) (q_wk (q_rk c) ops E).2 G (q_ne b n p) → N' 0 26 = N 0 26 → Q N') : T_X11_waitsFor N (q_ro c) Q := by
  unfold T_X11_waitsFor
  have r4 : q_rk c ≤ 4 := by rcases hc with (rfl | rfl | rfl | rfl) | rfl | rfl <;> decide
  refine r_rank hc (r_works h hm r4 (by omega) hR hl (fun N1 h1 e1 => ?_))
  have lw := wk_len (q_rk c) ops E
  have lo : (q_wk (q_rk c) ops E).1.length ≤ ops.length := by
    have key : ∀ (l E : List Int32), (q_wk (q_rk c) l E).1.length ≤ l.length := by
      intro l
      induction l with
      | nil => intro E; exact Nat.le_refl _
      | cons d l ih =>
        intro E
        by_cases z : q_rk c ≤ q_rk d
        · rw [wk_yes z]; have := ih (d :: E); simp; omega
        · rw [wk_no z]; exact Nat.le_refl _
    exact key ops E
  generalize hW : (q_wk (q_rk c) ops E).1 = W at h1 lo kk
  generalize (q_wk (q_rk c) ops E).2 = E1 at h1 kk
  have e23 : N1 0 23 = nI (W.length + (q_wt R).length) := by rw [h1.1.2.1.2.2.1, wt_len]
  have e20 : N1 0 20 = nI (R.length + 1) := h1.1.2.1.2.1
  rw [e23]
  refine ⟨vp_in_nI (by omega) (by omega), ?_⟩
  rintro _ rfl
  rw [nI_clamp (by omega), gu_ne (show 0 ≠ 12 by decide), e23, e20]
  refine ⟨vp_in_nI (by omega) (by omega), ?_⟩
  rintro _ rfl
  rw [nI_clamp (by omega), gu_ne (show 0 ≠ 13 by decide), gu_ne (show 0 ≠ 12 by decide), e23, nI_1]
  rintro _ rfl
  have hY : q_rY N0 (gx_up (gx_up (gx_up N1 12 (W.length + (q_wt R).length) (q_ro c)) 13 (W.length + (q_wt R).length) (nI (R.length + 1))) 0 23 (nI (W.length + (q_wt R).length + 1))) b n u bg ((k, c :: W) :: R) E1 G p := by
    refine h1.fr (fun q a _ _ a12 a13 => by rw [gu_ne a, gu_ne a13, gu_ne a12]) (fun j _ _ a => by rw [gu_eq, ub_ne a, gu_ne (by decide), gu_ne (by decide)]) ?_ ?_ ?_ ?_ (show q_ws _ ((c, R.length + 1) :: (W.map (fun c => (c, R.length + 1)) ++ q_wt R)) from ⟨?_, ?_, ?_⟩)
    · rw [gu_eq, ub_ne (by decide), gu_ne (by decide), gu_ne (by decide)]; exact h1.1.2.1.1
    · rw [gu_eq, ub_ne (by decide), gu_ne (by decide), gu_ne (by decide)]; exact e20
    · rw [gu_eq, ub_eq, wt_len, List.length_cons, show W.length + 1 + (q_wt R).length = W.length + (q_wt R).length + 1 by omega]
    · exact fs_cong (S := (k, c :: W) :: R) ⟨h1.1.2.2.1.1.1, h1.1.2.2.1.1.2.1, h1.1.2.2.1.1.2.2⟩ (fun i _ => by rw [gu_ne (by decide), gu_ne (by decide), gu_ne (by decide)]) (fun i _ => by rw [gu_ne (by decide), gu_ne (by decide), gu_ne (by decide)])
    · have el : (W.map (fun c => (c, R.length + 1)) ++ q_wt R).length = W.length + (q_wt R).length := by rw [List.length_append, List.length_map]
      rw [gu_ne (by decide), gu_ne (by decide), gu_eq, el, ub_eq]
    · have el : (W.map (fun c => (c, R.length + 1)) ++ q_wt R).length = W.length + (q_wt R).length := by rw [List.length_append, List.length_map]
      rw [gu_ne (by decide), gu_eq, el, ub_eq]
    · have el : (W.map (fun c => (c, R.length + 1)) ++ q_wt R).length = W.length + (q_wt R).length := by rw [List.length_append, List.length_map]
      have ws : q_ws N1 (W.map (fun c => (c, R.length + 1)) ++ q_wt R) := h1.1.2.2.1.2.1
      exact ws_cong ws (fun i hi => by rw [el] at hi; rw [gu_ne (by decide), gu_ne (by decide), gu_eq, ub_ne (by omega), gu_ne (by decide), gu_eq, ub_ne (by omega), gu_ne (by decide)]; exact ⟨rfl, rfl⟩)
  refine r_next hY hp (fun N2 h2 e2 => kk N2 h2 ?_)
  rw [e2, gu_eq, ub_ne (by decide), gu_ne (by decide), gu_ne (by decide)]; exact e1
end ROPS2
