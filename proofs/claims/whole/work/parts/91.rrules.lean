/-! the reference reads: tokens told back, and the parts of a step -/
theorem wsg_inj : ∀ i, i < 12 → ∀ j, j < 12 → q_wsg i = q_wsg j → i = j := by decide +kernel
theorem wsg_not : ∀ i, i < 12 → q_wsg i ≠ -57 ∧ q_wsg i ≠ -58 ∧ q_wsg i ≠ -56 ∧ q_wsg i ≠ -31 ∧ q_wsg i ≠ -32 ∧ q_wsg i ≠ -33 ∧ q_wsg i ≠ -34 ∧ q_wsg i ≠ -35 ∧ q_wsg i ≠ -36 ∧ q_wsg i ≠ -21 ∧ q_wsg i ≠ -22 ∧ q_wsg i ≠ -23 ∧ q_wsg i ≠ -24 ∧ q_wsg i ≠ -51 ∧ q_wsg i ≠ -52 ∧ q_wsg i ≠ -53 := by decide +kernel
def q_tl (sg : Int32) : Int32 := if sg = -31 then 60 else if sg = -32 then 300 else if sg = -33 then 62 else if sg = -34 then 301 else if sg = -35 then 61 else if sg = -36 then 35 else if sg = -21 then 43 else if sg = -22 then 45 else if sg = -23 then 42 else if sg = -24 then 47 else if sg = -51 then 40 else if sg = -52 then 41 else 59
def q_tg (t : Int32) : Int32 := if t = 60 then -31 else if t = 300 then -32 else if t = 62 then -33 else if t = 301 then -34 else if t = 61 then -35 else if t = 35 then -36 else if t = 43 then -21 else if t = 45 then -22 else if t = 42 then -23 else if t = 47 then -24 else if t = 40 then -51 else if t = 41 then -52 else -53
theorem tks_tl {sg t : Int32} (h : q_tks sg t) : t = q_tl sg ∧ sg = q_tg t ∧ sg ≠ -57 ∧ sg ≠ -58 ∧ sg ≠ -56 ∧ t ≠ 44 := by
  rcases h with ⟨rfl, rfl⟩ | ⟨rfl, rfl⟩ | ⟨rfl, rfl⟩ | ⟨rfl, rfl⟩ | ⟨rfl, rfl⟩ | ⟨rfl, rfl⟩ | ⟨rfl, rfl⟩ | ⟨rfl, rfl⟩ | ⟨rfl, rfl⟩ | ⟨rfl, rfl⟩ | ⟨rfl, rfl⟩ | ⟨rfl, rfl⟩ | ⟨rfl, rfl⟩ <;> decide
theorem tks_w {sg t : Int32} (h : q_tks sg t) {i : Nat} (hi : i < 12) : sg ≠ q_wsg i := by
  obtain ⟨-, -, -, a1, a2, a3, a4, a5, a6, a7, a8, a9, a10, a11, a12, a13⟩ := wsg_not i hi
  rcases h with ⟨rfl, -⟩ | ⟨rfl, -⟩ | ⟨rfl, -⟩ | ⟨rfl, -⟩ | ⟨rfl, -⟩ | ⟨rfl, -⟩ | ⟨rfl, -⟩ | ⟨rfl, -⟩ | ⟨rfl, -⟩ | ⟨rfl, -⟩ | ⟨rfl, -⟩ | ⟨rfl, -⟩ | ⟨rfl, -⟩
  · exact fun e => a1 e.symm
  · exact fun e => a2 e.symm
  · exact fun e => a3 e.symm
  · exact fun e => a4 e.symm
  · exact fun e => a5 e.symm
  · exact fun e => a6 e.symm
  · exact fun e => a7 e.symm
  · exact fun e => a8 e.symm
  · exact fun e => a9 e.symm
  · exact fun e => a10 e.symm
  · exact fun e => a11 e.symm
  · exact fun e => a12 e.symm
  · exact fun e => a13 e.symm
section TK
variable {sg sort told : Int32} {nu : Nat}
theorem tk_word {i : Nat} (hi : i < 12) (hs : sg = q_wsg i) (h : q_tk sg nu sort told) : sort = 1 ∧ told = nI i := by
  subst hs
  obtain ⟨a1, a2, a3, -⟩ := wsg_not i hi
  rcases h with ⟨e, -⟩ | ⟨e, -⟩ | ⟨e, -⟩ | ⟨j, hj, e, h1, h2⟩ | ⟨-, e⟩
  · exact absurd e a1
  · exact absurd e a2
  · exact absurd e a3
  · rw [wsg_inj i hi j hj e]; exact ⟨h1, h2⟩
  · exact absurd rfl (tks_w e hi)
theorem tk_sgn {t : Int32} (hs : q_tks sg t) (h : q_tk sg nu sort told) : sort = 3 ∧ told = t := by
  obtain ⟨a1, a2, a3, a4, a5, -⟩ := tks_tl hs
  rcases h with ⟨e, -⟩ | ⟨e, -⟩ | ⟨e, -⟩ | ⟨j, hj, e, -⟩ | ⟨h3, e⟩
  · exact absurd e a3
  · exact absurd e a4
  · exact absurd e a5
  · exact absurd e (tks_w hs hj)
  · exact ⟨h3, (tks_tl e).1.trans a1.symm⟩
theorem tk_num (hs : sg = -56) (h : q_tk sg nu sort told) : sort = 2 ∧ told = nI nu ∧ nu < 1000000 := by
  subst hs
  rcases h with ⟨e, -⟩ | ⟨e, -⟩ | ⟨-, h⟩ | ⟨j, hj, e, -⟩ | ⟨-, e⟩
  · exact absurd e (by decide)
  · exact absurd e (by decide)
  · exact h
  · exact absurd e.symm (wsg_not j hj).2.2.1
  · exact absurd rfl (tks_tl e).2.2.2.2.1
theorem tk_end (hs : sg = -57) (h : q_tk sg nu sort told) : sort = 0 := by
  subst hs
  rcases h with ⟨-, e⟩ | ⟨e, -⟩ | ⟨e, -⟩ | ⟨j, hj, e, -⟩ | ⟨-, e⟩
  · exact e
  · exact absurd e (by decide)
  · exact absurd e (by decide)
  · exact absurd e.symm (wsg_not j hj).1
  · exact absurd rfl (tks_tl e).2.2.1
theorem tk_0 (hs : sort = 0) (h : q_tk sg nu sort told) : sg = -57 := by
  subst hs
  rcases h with ⟨e, -⟩ | ⟨-, e | ⟨e, -⟩⟩ | ⟨-, e, -⟩ | ⟨j, hj, -, e, -⟩ | ⟨e, -⟩
  · exact e
  · exact absurd e (by decide)
  · exact absurd e (by decide)
  · exact absurd e (by decide)
  · exact absurd e (by decide)
  · exact absurd e (by decide)
theorem tk_1 (hs : sort = 1) (h : q_tk sg nu sort told) : ∃ i, i < 12 ∧ sg = q_wsg i ∧ told = nI i := by
  subst hs
  rcases h with ⟨-, e⟩ | ⟨-, e | ⟨e, -⟩⟩ | ⟨-, e, -⟩ | ⟨j, hj, e, -, e2⟩ | ⟨e, -⟩
  · exact absurd e (by decide)
  · exact absurd e (by decide)
  · exact absurd e (by decide)
  · exact absurd e (by decide)
  · exact ⟨j, hj, e, e2⟩
  · exact absurd e (by decide)
theorem tk_2 (hs : sort = 2) (h : q_tk sg nu sort told) : sg = -56 := by
  subst hs
  rcases h with ⟨-, e⟩ | ⟨-, e | ⟨e, -⟩⟩ | ⟨e, -⟩ | ⟨j, hj, -, e, -⟩ | ⟨e, -⟩
  · exact absurd e (by decide)
  · exact absurd e (by decide)
  · exact absurd e (by decide)
  · exact e
  · exact absurd e (by decide)
  · exact absurd e (by decide)
theorem tk_3 (hs : sort = 3) (h : q_tk sg nu sort told) : q_tks sg told ∨ told = 44 := by
  subst hs
  rcases h with ⟨-, e⟩ | ⟨-, e | ⟨-, e⟩⟩ | ⟨-, e, -⟩ | ⟨j, hj, -, e, -⟩ | ⟨-, e⟩
  · exact absurd e (by decide)
  · exact absurd e (by decide)
  · exact Or.inr e
  · exact absurd e (by decide)
  · exact absurd e (by decide)
  · exact Or.inl e
/-- a sign that is told is that sign -/
theorem tk_3t {t : Int32} (hs : sort = 3) (ht : told = t) (h44 : t ≠ 44) (h : q_tk sg nu sort told) : sg = q_tg t := by
  rcases tk_3 hs h with z | z
  · rw [← ht]; exact (tks_tl z).2.1
  · exact absurd (ht.symm.trans z) h44
end TK
theorem ws_at : q_wsg 0 = -54 ∧ q_wsg 1 = -55 ∧ q_wsg 2 = -43 ∧ q_wsg 3 = -42 ∧ q_wsg 4 = -41 := by decide
/-- a word that tells a value -/
theorem ws_val : ∀ i, i < 12 → ((-17 ≤ q_wsg i ∧ q_wsg i ≤ -11) ↔ 5 ≤ i) ∧ (5 ≤ i → (nI i - 4) - 1 = q_rv (q_wsg i) ∧ q_ro (q_wsg i) = 401) := by decide +kernel
theorem ws_of {sg : Int32} (h : -17 ≤ sg ∧ sg ≤ -11) : ∃ i, i < 12 ∧ 5 ≤ i ∧ sg = q_wsg i := by
  have a := il h.1
  have b := il h.2
  have z1 : (-17 : Int32).toInt = -17 := rfl
  have z2 : (-11 : Int32).toInt = -11 := rfl
  have hh : sg.toInt = -11 ∨ sg.toInt = -12 ∨ sg.toInt = -13 ∨ sg.toInt = -14 ∨ sg.toInt = -15 ∨ sg.toInt = -16 ∨ sg.toInt = -17 := by omega
  rcases hh with e | e | e | e | e | e | e
  · exact ⟨5, by decide, by decide, Int32.toInt_inj.mp e⟩
  · exact ⟨6, by decide, by decide, Int32.toInt_inj.mp e⟩
  · exact ⟨7, by decide, by decide, Int32.toInt_inj.mp e⟩
  · exact ⟨8, by decide, by decide, Int32.toInt_inj.mp e⟩
  · exact ⟨9, by decide, by decide, Int32.toInt_inj.mp e⟩
  · exact ⟨10, by decide, by decide, Int32.toInt_inj.mp e⟩
  · exact ⟨11, by decide, by decide, Int32.toInt_inj.mp e⟩
theorem tks_A {sg : Int32} (h : q_isA sg) : q_tks sg (q_ro sg) ∧ (q_ro sg = 43 ∨ q_ro sg = 45 ∨ q_ro sg = 42 ∨ q_ro sg = 47) := by
  rcases h with rfl | rfl | rfl | rfl <;> (unfold q_tks; decide)
theorem tks_R {sg : Int32} (h : q_isR sg) : q_tks sg (q_ro sg) ∧ (q_ro sg ≠ 43 ∧ q_ro sg ≠ 45 ∧ q_ro sg ≠ 42 ∧ q_ro sg ≠ 47) ∧ (q_ro sg = 60 ∨ q_ro sg = 62 ∨ q_ro sg = 61 ∨ q_ro sg = 35 ∨ q_ro sg = 300 ∨ q_ro sg = 301) ∧ q_rv sg = 0 := by
  rcases h with rfl | rfl | rfl | rfl | rfl | rfl <;> (unfold q_tks; decide)
theorem wk_13 : ∀ (l E : List Int32), (∀ c, c ∈ l → q_isA c) → q_wk 3 l E = q_wk 1 l E := by
  intro l
  induction l with
  | nil => intro E _; rfl
  | cons c l ih =>
    intro E h
    have hc := h c (by simp)
    have r3 : 3 ≤ q_rk c := by rcases hc with rfl | rfl | rfl | rfl <;> decide
    rw [wk_yes r3, wk_yes (rk_pos c)]
    exact ih _ (fun d hd => h d (by simp [hd]))
theorem wt_E {S : List q_F} (h : q_sE S) : (q_wt S).length ≤ 2 * S.length := by
  induction S with
  | nil => exact Nat.le_refl _
  | cons f R ih =>
    obtain ⟨k, ops⟩ := f
    rw [wt_len, List.length_cons]
    rcases h with ⟨-, hR, ho⟩ | ⟨-, ho, hR⟩
    · have hR : R = [] := hR
      subst hR
      have := (oB_mem ho).1
      show ops.length + 0 ≤ 2 * (0 + 1)
      have : ops.length ≤ 2 := this
      omega
    · have ho : ops = [] := ho
      subst ho
      have := ih hR
      show 0 + _ ≤ _
      omega
theorem wt_A {bg : Bool} {S : List q_F} (h : q_sA bg S) : (q_wt S).length ≤ 2 * S.length := by
  induction S with
  | nil => exact Nat.le_refl _
  | cons f R ih =>
    obtain ⟨k, ops⟩ := f
    have lo : ops.length ≤ 2 := (oA_mem h.1).1
    rw [wt_len, List.length_cons]
    rcases h.2 with ⟨-, rfl, -⟩ | ⟨-, -, hR⟩ | ⟨-, hR⟩ | ⟨-, -, hR⟩
    · show ops.length + 0 ≤ 2 * (0 + 1)
      omega
    · have := wt_E hR; omega
    · have := ih hR; omega
    · have := ih hR; omega
section RR
variable {N0 N : gx_M} {b : Nat → Nat} {n p : Nat} {u bg : Bool} {S R : List q_F} {E ops : List Int32} {G : q_Gs} {k : Int32}
theorem r_isSign {v : Int32} {P : Int32 → Prop} (h1 : N 0 15 = 3 → N 0 16 = v → P 1) (h0 : ¬ (N 0 15 = 3 ∧ N 0 16 = v) → P 0) : T_X11_isSign N v P := by
  unfold T_X11_isSign
  exact qc (fun e => qc (fun e2 => h1 e e2) (fun e2 => h0 (fun z => e2 z.2))) (fun e => h0 (fun z => e z.1))
theorem r_isWord {v : Int32} {P : Int32 → Prop} (h1 : N 0 15 = 1 → N 0 16 = v → P 1) (h0 : ¬ (N 0 15 = 1 ∧ N 0 16 = v) → P 0) : T_X11_isWord N v P := by
  unfold T_X11_isWord
  exact qc (fun e => qc (fun e2 => h1 e e2) (fun e2 => h0 (fun z => e2 z.2))) (fun e => h0 (fun z => e z.1))
/-- the loop goes on -/
theorem r_go {Q : Int32 → gx_M → Prop} {K : gx_M → Prop} {fl : Nat} (h17 : N 0 17 = 0) (h15 : N 0 26 = 4 → N 0 15 ≠ 0) (h : T_X11_text_96 Q (T_X11_text_74 Q K fl) N) : T_X11_text_74 Q K (fl + 1) N := by
  unfold T_X11_text_74
  exact qt h17 (qc (fun e => qf (h15 e) h) (fun _ => h))
theorem r_stop {Q : Int32 → gx_M → Prop} {K : gx_M → Prop} {fl : Nat} (h17 : N 0 17 ≠ 0) (h : K N) : T_X11_text_74 Q K (fl + 1) N := by
  unfold T_X11_text_74
  exact qf h17 h
/-- a fault is told, and the loop ends -/
theorem r_bad {Q : Int32 → gx_M → Prop} {K : gx_M → Prop} {fl : Nat} {f : Int32} (h : q_rY N0 N b n u bg S E G p) (hf : f ≠ 0) (hK : ∀ N' : gx_M, q_rF N0 N' → N' 0 17 = f → N' 0 18 = nI (q_st0 b n p) → K N') : T_X11_errs N f (fun M => T_X11_text_74 Q K (fl + 1) M) := by
  refine r_errs h.1.1.2.2.1 (fun N' fq fj e1 e2 => r_stop (by rw [e1]; exact hf) (hK N' ⟨fun o h1 h2 => (fq o h1).trans (h.1.1.1.1 o h1 h2), fun j h1 => (fj j (by omega) (by omega)).trans (h.1.1.1.2 j h1)⟩ e1 (e2.trans h.2.2.1)))
theorem r_emits0 {o v : Int32} {x : Nat} {Q : gx_M → Prop} (h30 : N 0 30 = nI x) (hx : x < 400) (kk : ∀ N' : gx_M, (∀ q, q ≠ 0 → q ≠ 16 → q ≠ 17 → N' q = N q) → (∀ j, j ≠ 30 → N' 0 j = N 0 j) → N' 0 30 = nI (x + 1) → N' 16 = upd (N 16) x o → N' 17 = upd (N 17) x v → Q N') : T_X11_emits N o v Q := by
  unfold T_X11_emits
  rw [h30]
  refine ⟨vp_in_nI hx (by omega), ?_⟩
  rintro _ rfl
  rw [nI_clamp (by omega), gu_ne (show 0 ≠ 16 by decide), h30]
  refine ⟨vp_in_nI hx (by omega), ?_⟩
  rintro _ rfl
  rw [nI_clamp (by omega), gu_ne (show 0 ≠ 17 by decide), gu_ne (show 0 ≠ 16 by decide), h30, nI_1]
  rintro _ rfl
  exact kk _ (fun q a c d => by rw [gu_ne a, gu_ne d, gu_ne c]) (fun j a => by rw [gu_eq, ub_ne a, gu_ne (by decide), gu_ne (by decide)]) (by rw [gu_eq, ub_eq]) (by rw [gu_ne (by decide), gu_ne (by decide), gu_eq]) (by rw [gu_ne (by decide), gu_eq, gu_ne (by decide)])
/-- a clause is over -/
theorem r_clauseIsOver {Q : gx_M → Prop} (h : q_rY N0 N b n true bg [(k, ops)] E G p) (hp : p ≤ n) (hk : k = 1 ∨ k = 2) (hm : ∀ c, c ∈ ops → q_isA c ∨ c = -42 ∨ c = -43) (ho : ops.length ≤ 2) (hl : q_len G + E.length + ops.length < 400) (kk : ∀ N' : gx_M, q_rY N0 N' b n false bg [] [] ((bg, (q_wk 1 ops E).2) :: G) (q_ne b n p) → N' 0 26 = 4 → Q N') : T_X11_clauseIsOver N Q := by
  unfold T_X11_clauseIsOver
  refine r_works (r := 1) h hm (by omega) (by show ops.length + 0 ≤ 80; omega) (by simp) (by omega) (fun N1 h1 e1 => ?_)
  rw [wk_1] at h1
  have l1 : (q_wk 1 ops E).2.length = ops.length + E.length := len_app (E1 := []) (wk_1 ops E)
  generalize (q_wk 1 ops E).2 = E1 at h1 l1 kk
  obtain ⟨⟨⟨a1, a2, a3, a4⟩, ⟨b1, b2, b3, b4, b5⟩, ⟨c1, c2, c3⟩, d1, d2⟩, ht⟩ := h1
  obtain ⟨d3, d4⟩ := d2 rfl
  have b1 : N1 0 19 = 0 := by rw [b1]; rcases hk with rfl | rfl <;> rfl
  have b3 : N1 0 23 = 0 := b3
  rintro _ rfl
  refine r_emits0 (x := q_len G + E1.length) (by rw [gu_eq, ub_ne (by decide)]; exact b5) (by omega) (fun N3 fq fj e30 e16 e17 => ?_)
  rintro _ rfl
  have s : ∀ j, j ≠ 20 → j ≠ 27 → j ≠ 30 → gx_up N3 0 27 (N3 0 27 + 1) 0 j = N1 0 j := fun j a c d => by rw [gu_eq, ub_ne c, fj j d, gu_eq, ub_ne a]
  have t : ∀ q, q ≠ 0 → q ≠ 16 → q ≠ 17 → gx_up N3 0 27 (N3 0 27 + 1) q = N1 q := fun q a c d => by rw [gu_ne a, fq q a c d, gu_ne a]
  have z16 : gx_up N3 0 27 (N3 0 27 + 1) 16 = upd (N1 16) (q_len G + E1.length) 408 := by rw [gu_ne (by decide), e16, gu_ne (by decide)]
  have z17 : gx_up N3 0 27 (N3 0 27 + 1) 17 = upd (N1 17) (q_len G + E1.length) 0 := by rw [gu_ne (by decide), e17, gu_ne (by decide)]
  have z27 : gx_up N3 0 27 (N3 0 27 + 1) 0 27 = nI (G.length + 1) := by rw [gu_eq, ub_eq, fj 27 (by decide), gu_eq, ub_ne (by decide), b4, nI_1]
  have hY : q_rY N0 (gx_up N3 0 27 (N3 0 27 + 1)) b n false bg [] [] ((bg, E1) :: G) p := by
    have gl : q_len ((bg, E1) :: G) = q_len G + E1.length + 1 := rfl
    refine ⟨⟨⟨⟨fun o h1 h2 => (t o h1 (by omega) (by omega)).trans (a1.1 o h1 h2), fun j h1 => (s j (by omega) (by omega) (by omega)).trans (a1.2 j h1)⟩, ⟨a2.1, (s 12 (by decide) (by decide) (by decide)).trans a2.2.1, fun i hi => by rw [t 3 (by decide) (by decide) (by decide)]; exact a2.2.2 i hi⟩, (s 17 (by decide) (by decide) (by decide)).trans a3, (s 18 (by decide) (by decide) (by decide)).trans a4⟩, ⟨(s 19 (by decide) (by decide) (by decide)).trans b1, ?_, (s 23 (by decide) (by decide) (by decide)).trans b3, z27, ?_⟩, ⟨trivial, trivial, trivial⟩, ⟨?_, ?_, ?_, ?_, ?_⟩, fun e => by cases e⟩, ht.kept (fun j hj => s j (by omega) (by omega) (by omega))⟩
    · rw [gu_eq, ub_ne (by decide), fj 20 (by decide), gu_eq, ub_eq]; rfl
    · rw [gu_eq, ub_ne (by decide), e30, gl]; rfl
    · rw [t 14 (by decide) (by decide) (by decide)]; exact d3
    · rw [t 15 (by decide) (by decide) (by decide)]; exact d4
    · exact nrow_cong c3 (fun i _ hi => by have hi : i < q_len G + E1.length := hi; rw [z16, z17, ub_ne (by omega), ub_ne (by omega)]; exact ⟨rfl, rfl⟩)
    · rw [z16]; exact ub_eq _ _ _
    · exact nref_cong d1 (fun i _ => by rw [t 14 (by decide) (by decide) (by decide), t 15 (by decide) (by decide) (by decide)]; exact ⟨rfl, rfl⟩) (fun i hi => by rw [z16, z17, ub_ne (by omega), ub_ne (by omega)]; exact ⟨rfl, rfl⟩)
  refine r_next hY hp (fun N5 h5 e5 => ?_)
  rintro _ rfl
  exact kk _ (h5.state 4) (by rw [gu_eq, ub_eq])
theorem r_wasHold {P : Int32 → Prop} (h : q_rZ N0 N b n u bg S E G) (hg : G.length ≤ 10) (kk : P (b2i (q_hl G))) : T_X11_wasHold N P := by
  have e27 : N 0 27 = nI G.length := h.2.1.2.2.2.1
  have href := h.2.2.2.1
  have drop : ∀ (G : q_Gs) (m : Nat), q_nref N G → q_nref N (G.drop m) := by
    intro G m
    induction m generalizing G with
    | zero => intro h; exact h
    | succ m ih =>
      intro h
      cases G with
      | nil => exact h
      | cons g G => exact ih G h.2.2.2.2
  have key : ∀ m, m ≤ G.length → T_X11_wasHold_4 N P (m + 1) (b2i (q_hl (G.drop m))) (nI (G.length - m)) := by
    intro m
    induction m with
    | zero =>
      intro _
      unfold T_X11_wasHold_4
      rw [e27]
      refine qt (nI_le (by omega) (by omega)) ⟨?_, kk⟩
      show b2i (q_hl G) = 0 ∨ b2i (q_hl G) = 1
      cases q_hl G <;> decide
    | succ m ih =>
      intro hm
      have hd : G.drop m = G[m] :: G.drop (m + 1) := List.drop_eq_getElem_cons (by omega)
      have hlen : (G.drop (m + 1)).length = G.length - (m + 1) := List.length_drop
      have hr := drop G m href
      have i := ih (by omega)
      rw [hd] at hr i
      generalize G[m] = g at hr i
      obtain ⟨bb, l⟩ := g
      obtain ⟨w, -⟩ := hr
      rw [hlen] at w
      have w : N 14 (G.length - (m + 1)) = b2i bb := w
      have e1 : q_hl ((bb, l) :: G.drop (m + 1)) = (!bb || q_hl (G.drop (m + 1))) := rfl
      rw [e1] at i
      unfold T_X11_wasHold_4 T_X11_wasHold_25 T_X11_wasHold_30
      rw [e27]
      refine qf (nI_ge (by omega) (by omega)) ?_
      have st : nI (G.length - (m + 1)) + 1 = nI (G.length - m) := by rw [nI_1, show G.length - (m + 1) + 1 = G.length - m by omega]
      cases hh : q_hl (G.drop (m + 1)) with
      | true =>
        rw [hh, Bool.or_true] at i
        refine qf (by decide) ?_
        rintro _ rfl
        rw [st]; exact i
      | false =>
        rw [hh, Bool.or_false] at i
        refine qt rfl ⟨vp_in_nI (by omega) (by omega), ?_⟩
        rw [nI_clamp (by omega), w]
        cases bb with
        | false =>
          refine qt rfl ?_
          rintro _ rfl
          rw [st]; exact i
        | true =>
          refine qf (by decide) ?_
          rintro _ rfl
          rw [st]; exact i
  have k0 := key G.length (Nat.le_refl _)
  rw [List.drop_length, Nat.sub_self] at k0
  exact ⟨G.length + 1, k0⟩
end RR
