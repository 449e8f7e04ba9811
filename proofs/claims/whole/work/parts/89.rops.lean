/-! the reference reads: its steps on frames, on what waits, on orders -/
def q_fr (k : Int32) : Int32 := if k = 1 then 1 else if k = 2 then 2 else if k = 4 then 4 else if k = -41 then 3 else if k = -51 then 6 else if k = -25 then 7 else 5
def q_fs (N : gx_M) : List q_F → Prop
  | [] => True
  | f :: R => N 10 R.length = q_fr f.1 ∧ (q_rel f.1 = true → N 11 (R.length + 1) = q_ro f.1) ∧ q_fs N R
def q_wt : List q_F → List (Int32 × Nat)
  | [] => []
  | f :: R => f.2.map (fun c => (c, R.length + 1)) ++ q_wt R
def q_ws (N : gx_M) : List (Int32 × Nat) → Prop
  | [] => True
  | x :: l => N 12 l.length = q_ro x.1 ∧ N 13 l.length = nI x.2 ∧ q_ws N l
def q_nrow (N : gx_M) (base : Nat) : List Int32 → Prop
  | [] => True
  | c :: l => N 16 (base + l.length) = q_ro c ∧ N 17 (base + l.length) = q_rv c ∧ q_nrow N base l
def q_nref (N : gx_M) : q_Gs → Prop
  | [] => True
  | g :: G => N 14 G.length = b2i g.1 ∧ N 15 G.length = nI (q_len G) ∧ q_nrow N (q_len G) g.2 ∧ N 16 (q_len G + g.2.length) = 408 ∧ q_nref N G
theorem fs_cong {N N' : gx_M} {S : List q_F} (h : q_fs N S) (h10 : ∀ k, k < S.length → N' 10 k = N 10 k) (h11 : ∀ k, k ≤ S.length → N' 11 k = N 11 k) : q_fs N' S := by
  induction S with
  | nil => trivial
  | cons f R ih =>
    obtain ⟨a, b, c⟩ := h
    exact ⟨(h10 _ (by simp)).trans a, fun z => (h11 _ (by simp)).trans (b z), ih c (fun k hk => h10 k (by simp; omega)) (fun k hk => h11 k (by simp; omega))⟩
theorem ws_cong {N N' : gx_M} {l : List (Int32 × Nat)} (h : q_ws N l) (h12 : ∀ k, k < l.length → N' 12 k = N 12 k ∧ N' 13 k = N 13 k) : q_ws N' l := by
  induction l with
  | nil => trivial
  | cons x l ih =>
    obtain ⟨a, b, c⟩ := h
    obtain ⟨d, e⟩ := h12 l.length (by simp)
    exact ⟨d.trans a, e.trans b, ih c (fun k hk => h12 k (by simp; omega))⟩
theorem nrow_cong {N N' : gx_M} {base : Nat} {l : List Int32} (h : q_nrow N base l) (e : ∀ k, base ≤ k → k < base + l.length → N' 16 k = N 16 k ∧ N' 17 k = N 17 k) : q_nrow N' base l := by
  induction l with
  | nil => trivial
  | cons c l ih =>
    obtain ⟨a, b, d⟩ := h
    obtain ⟨e1, e2⟩ := e (base + l.length) (by omega) (by simp)
    exact ⟨e1.trans a, e2.trans b, ih d (fun k h1 h2 => e k h1 (by simp; omega))⟩
theorem nref_cong {N N' : gx_M} {G : q_Gs} (h : q_nref N G) (h14 : ∀ k, k < G.length → N' 14 k = N 14 k ∧ N' 15 k = N 15 k) (h16 : ∀ k, k < q_len G → N' 16 k = N 16 k ∧ N' 17 k = N 17 k) : q_nref N' G := by
  induction G with
  | nil => trivial
  | cons g G ih =>
    obtain ⟨b, l⟩ := g
    obtain ⟨a1, a2, a3, a4, a5⟩ := h
    have e : q_len ((b, l) :: G) = q_len G + l.length + 1 := rfl
    obtain ⟨e1, e2⟩ := h14 G.length (by simp)
    exact ⟨e1.trans a1, e2.trans a2, nrow_cong a3 (fun k h1 h2 => h16 k (by rw [e]; have h2 : k < q_len G + l.length := h2; omega)), ((h16 _ (by rw [e]; show q_len G + l.length < _; omega)).1).trans a4, ih a5 (fun k hk => h14 k (by simp; omega)) (fun k hk => h16 k (by rw [e]; omega))⟩
def q_rF (N0 N : gx_M) : Prop := (∀ o, o ≠ 0 → ¬ (10 ≤ o ∧ o ≤ 17) → N o = N0 o) ∧ ∀ j, ¬ ((13 ≤ j ∧ j ≤ 20) ∨ j = 23 ∨ j = 26 ∨ j = 27 ∨ j = 30) → N 0 j = N0 0 j
def q_rZ (N0 N : gx_M) (b : Nat → Nat) (n : Nat) (u bg : Bool) (S : List q_F) (E : List Int32) (G : q_Gs) : Prop :=
  (q_rF N0 N ∧ r_by N b n ∧ N 0 17 = 0 ∧ N 0 18 = -1) ∧
  (N 0 19 = nI (q_op S) ∧ N 0 20 = nI S.length ∧ N 0 23 = nI (q_wt S).length ∧ N 0 27 = nI G.length ∧ N 0 30 = nI (q_len G + E.length)) ∧
  (q_fs N S ∧ q_ws N (q_wt S) ∧ q_nrow N (q_len G) E) ∧ (q_nref N G ∧ (u = true → N 14 G.length = b2i bg ∧ N 15 G.length = nI (q_len G)))
def q_rT (N : gx_M) (b : Nat → Nat) (n p : Nat) : Prop := N 0 13 = nI (q_ne b n p) ∧ N 0 14 = nI (q_st0 b n p) ∧ q_tk (q_sg b n p) (q_nu b n p) (N 0 15) (N 0 16)
/-- all of it, the state aside -/
def q_rY (N0 N : gx_M) (b : Nat → Nat) (n : Nat) (u bg : Bool) (S : List q_F) (E : List Int32) (G : q_Gs) (p : Nat) : Prop := q_rZ N0 N b n u bg S E G ∧ q_rT N b n p
section ROPS
variable {N0 N : gx_M} {b : Nat → Nat} {n p : Nat} {u bg : Bool} {S R : List q_F} {E ops : List Int32} {G : q_Gs} {k : Int32} {Q : gx_M → Prop}
theorem q_rZ.kept {N' : gx_M} (h : q_rZ N0 N b n u bg S E G) (hq : ∀ q, q ≠ 0 → N' q = N q) (hj : ∀ j, ¬ (13 ≤ j ∧ j ≤ 16) → j ≠ 26 → N' 0 j = N 0 j) : q_rZ N0 N' b n u bg S E G := by
  obtain ⟨⟨a1, a2, a3, a4⟩, ⟨b1, b2, b3, b4, b5⟩, ⟨c1, c2, c3⟩, d1, d2⟩ := h
  refine ⟨⟨⟨fun o h1 h2 => (hq o h1).trans (a1.1 o h1 h2), fun j h1 => (hj j (by omega) (by omega)).trans (a1.2 j h1)⟩, ⟨a2.1, (hj 12 (by omega) (by omega)).trans a2.2.1, fun i hi => by rw [hq 3 (by decide)]; exact a2.2.2 i hi⟩, (hj 17 (by omega) (by omega)).trans a3, (hj 18 (by omega) (by omega)).trans a4⟩, ⟨(hj 19 (by omega) (by omega)).trans b1, (hj 20 (by omega) (by omega)).trans b2, (hj 23 (by omega) (by omega)).trans b3, (hj 27 (by omega) (by omega)).trans b4, (hj 30 (by omega) (by omega)).trans b5⟩, ⟨fs_cong c1 (fun k _ => by rw [hq 10 (by decide)]) (fun k _ => by rw [hq 11 (by decide)]), ws_cong c2 (fun k _ => by rw [hq 12 (by decide), hq 13 (by decide)]; exact ⟨rfl, rfl⟩), nrow_cong c3 (fun k _ _ => by rw [hq 16 (by decide), hq 17 (by decide)]; exact ⟨rfl, rfl⟩)⟩, nref_cong d1 (fun k _ => by rw [hq 14 (by decide), hq 15 (by decide)]; exact ⟨rfl, rfl⟩) (fun k _ => by rw [hq 16 (by decide), hq 17 (by decide)]; exact ⟨rfl, rfl⟩), fun z => by rw [hq 14 (by decide), hq 15 (by decide)]; exact d2 z⟩
theorem q_rT.kept {N' : gx_M} (h : q_rT N b n p) (h0 : ∀ j, (13 ≤ j ∧ j ≤ 16) → N' 0 j = N 0 j) : q_rT N' b n p := by
  unfold q_rT
  rw [h0 13 (by omega), h0 14 (by omega), h0 15 (by omega), h0 16 (by omega)]
  exact h
theorem q_rY.state (h : q_rY N0 N b n u bg S E G p) (x : Int32) : q_rY N0 (gx_up N 0 26 x) b n u bg S E G p :=
  ⟨h.1.kept (fun q hq => gu_ne hq) (fun j _ hj => by rw [gu_eq, ub_ne hj]), h.2.kept (fun j hj => by rw [gu_eq, ub_ne (by omega)])⟩
theorem r_next (h : q_rY N0 N b n u bg S E G p) (hp : p ≤ n) (k : ∀ N' : gx_M, q_rY N0 N' b n u bg S E G (q_ne b n p) → N' 0 26 = N 0 26 → Q N') : T_X11_next N Q := by
  obtain ⟨hz, t1, t2, t3⟩ := h
  refine n_tok hz.1.2.1 t1 (q_ne_bd b hp).2.2.1 (fun N' f e1 e2 e3 => k N' ⟨hz.kept f.1 (fun j h1 h2 => f.2 j (by omega) (by omega) (by omega) (by omega)), e1, e2, e3⟩ (f.2 26 (by decide) (by decide) (by decide) (by decide)))
/-- an order more -/
theorem r_emits {c : Int32} (h : q_rY N0 N b n u bg S E G p) (hl : q_len G + E.length < 400) (kk : ∀ N' : gx_M, q_rY N0 N' b n u bg S (c :: E) G p → (∀ q, q ≠ 0 → q ≠ 16 → q ≠ 17 → N' q = N q) → (∀ j, j ≠ 30 → N' 0 j = N 0 j) → Q N') : T_X11_emits N (q_ro c) (q_rv c) Q := by
  obtain ⟨⟨⟨a1, a2, a3, a4⟩, ⟨b1, b2, b3, b4, b5⟩, ⟨c1, c2, c3⟩, d1, d2⟩, ht⟩ := h
  unfold T_X11_emits
  rw [b5]
  refine ⟨vp_in_nI hl (by omega), ?_⟩
  rintro _ rfl
  rw [nI_clamp (by omega), gu_ne (show 0 ≠ 16 by decide), b5]
  refine ⟨vp_in_nI hl (by omega), ?_⟩
  rintro _ rfl
  rw [nI_clamp (by omega), gu_ne (show 0 ≠ 17 by decide), gu_ne (show 0 ≠ 16 by decide), b5, nI_1]
  rintro _ rfl
  have fq : ∀ q, q ≠ 0 → q ≠ 16 → q ≠ 17 → gx_up (gx_up (gx_up N 16 (q_len G + E.length) (q_ro c)) 17 (q_len G + E.length) (q_rv c)) 0 30 (nI (q_len G + E.length + 1)) q = N q := fun q h0 h1 h2 => by rw [gu_ne h0, gu_ne h2, gu_ne h1]
  have fj : ∀ j, j ≠ 30 → gx_up (gx_up (gx_up N 16 (q_len G + E.length) (q_ro c)) 17 (q_len G + E.length) (q_rv c)) 0 30 (nI (q_len G + E.length + 1)) 0 j = N 0 j := fun j h1 => by rw [gu_eq, ub_ne h1, gu_ne (by decide), gu_ne (by decide)]
  have f16 : ∀ k, k ≠ q_len G + E.length → gx_up (gx_up (gx_up N 16 (q_len G + E.length) (q_ro c)) 17 (q_len G + E.length) (q_rv c)) 0 30 (nI (q_len G + E.length + 1)) 16 k = N 16 k ∧ gx_up (gx_up (gx_up N 16 (q_len G + E.length) (q_ro c)) 17 (q_len G + E.length) (q_rv c)) 0 30 (nI (q_len G + E.length + 1)) 17 k = N 17 k := fun k h1 => ⟨by rw [gu_ne (by decide), gu_ne (by decide), gu_eq, ub_ne h1], by rw [gu_ne (by decide), gu_eq, ub_ne h1, gu_ne (by decide)]⟩
  refine kk _ ⟨⟨⟨⟨fun o h1 h2 => (fq o h1 (by omega) (by omega)).trans (a1.1 o h1 h2), fun j h1 => (fj j (by omega)).trans (a1.2 j h1)⟩, ⟨a2.1, (fj 12 (by decide)).trans a2.2.1, fun i hi => by rw [fq 3 (by decide) (by decide) (by decide)]; exact a2.2.2 i hi⟩, (fj 17 (by decide)).trans a3, (fj 18 (by decide)).trans a4⟩, ⟨(fj 19 (by decide)).trans b1, (fj 20 (by decide)).trans b2, (fj 23 (by decide)).trans b3, (fj 27 (by decide)).trans b4, ?_⟩, ⟨fs_cong c1 (fun k _ => by rw [fq 10 (by decide) (by decide) (by decide)]) (fun k _ => by rw [fq 11 (by decide) (by decide) (by decide)]), ws_cong c2 (fun k _ => by rw [fq 12 (by decide) (by decide) (by decide), fq 13 (by decide) (by decide) (by decide)]; exact ⟨rfl, rfl⟩), ?_, ?_, ?_⟩, nref_cong d1 (fun k _ => by rw [fq 14 (by decide) (by decide) (by decide), fq 15 (by decide) (by decide) (by decide)]; exact ⟨rfl, rfl⟩) (fun k hk => f16 k (by omega)), fun z => by rw [fq 14 (by decide) (by decide) (by decide), fq 15 (by decide) (by decide) (by decide)]; exact d2 z⟩, ht.kept (fun j hj => fj j (by omega))⟩ fq fj
  · rw [gu_eq, ub_eq]; rfl
  · rw [gu_ne (by decide), gu_ne (by decide), gu_eq, ub_eq]
  · rw [gu_ne (by decide), gu_eq, ub_eq]
  · exact nrow_cong c3 (fun k _ h2 => f16 k (by omega))
/-- the cells that frames and what waits lie in change; the rest of the head doesn't -/
theorem q_rY.fr {N' : gx_M} {S' : List q_F} (h : q_rY N0 N b n u bg S E G p) (hq : ∀ q, q ≠ 0 → q ≠ 10 → q ≠ 11 → q ≠ 12 → q ≠ 13 → N' q = N q) (hj : ∀ j, j ≠ 19 → j ≠ 20 → j ≠ 23 → N' 0 j = N 0 j) (g19 : N' 0 19 = nI (q_op S')) (g20 : N' 0 20 = nI S'.length) (g23 : N' 0 23 = nI (q_wt S').length) (gf : q_fs N' S') (gw : q_ws N' (q_wt S')) : q_rY N0 N' b n u bg S' E G p := by
  obtain ⟨⟨⟨a1, a2, a3, a4⟩, ⟨b1, b2, b3, b4, b5⟩, ⟨c1, c2, c3⟩, d1, d2⟩, ht⟩ := h
  have q16 := hq 16 (by decide) (by decide) (by decide) (by decide) (by decide)
  have q17 := hq 17 (by decide) (by decide) (by decide) (by decide) (by decide)
  have q14 := hq 14 (by decide) (by decide) (by decide) (by decide) (by decide)
  have q15 := hq 15 (by decide) (by decide) (by decide) (by decide) (by decide)
  refine ⟨⟨⟨⟨fun o h1 h2 => (hq o h1 (by omega) (by omega) (by omega) (by omega)).trans (a1.1 o h1 h2), fun j h1 => (hj j (by omega) (by omega) (by omega)).trans (a1.2 j h1)⟩, ⟨a2.1, (hj 12 (by decide) (by decide) (by decide)).trans a2.2.1, fun i hi => by rw [hq 3 (by decide) (by decide) (by decide) (by decide) (by decide)]; exact a2.2.2 i hi⟩, (hj 17 (by decide) (by decide) (by decide)).trans a3, (hj 18 (by decide) (by decide) (by decide)).trans a4⟩, ⟨g19, g20, g23, (hj 27 (by decide) (by decide) (by decide)).trans b4, (hj 30 (by decide) (by decide) (by decide)).trans b5⟩, ⟨gf, gw, nrow_cong c3 (fun k _ _ => by rw [q16, q17]; exact ⟨rfl, rfl⟩)⟩, nref_cong d1 (fun k _ => by rw [q14, q15]; exact ⟨rfl, rfl⟩) (fun k _ => by rw [q16, q17]; exact ⟨rfl, rfl⟩), fun z => by rw [q14, q15]; exact d2 z⟩, ht.kept (fun j hj' => hj j (by omega) (by omega) (by omega))⟩
theorem r_rank {c : Int32} {P : Int32 → Prop} (hc : q_isA c ∨ c = -42 ∨ c = -43) (h : P (nI (q_rk c))) : T_X11_rank N (q_ro c) P := by
  unfold T_X11_rank T_X11_rank_34
  rcases hc with (rfl | rfl | rfl | rfl) | rfl | rfl
  · rw [show q_ro (-21) = 43 by decide]; exact qf (by decide) (qf (by decide) (qt rfl h))
  · rw [show q_ro (-22) = 45 by decide]; exact qf (by decide) (qf (by decide) (qf (by decide) (qt rfl h)))
  · rw [show q_ro (-23) = 42 by decide]; exact qf (by decide) (qf (by decide) (qf (by decide) (qf (by decide) h)))
  · rw [show q_ro (-24) = 47 by decide]; exact qf (by decide) (qf (by decide) (qf (by decide) (qf (by decide) h)))
  · rw [show q_ro (-42) = 406 by decide]; exact qf (by decide) (qt rfl h)
  · rw [show q_ro (-43) = 407 by decide]; exact qt rfl h
theorem rv_0 {c : Int32} (h : c < -17) : q_rv c = 0 := by
  unfold q_rv
  have a := Int32.lt_iff_toInt_lt.mp h
  have z : (-17 : Int32).toInt = -17 := rfl
  rw [if_neg (fun y => by have := il y; have z0 : (0 : Int32).toInt = 0 := rfl; omega), if_neg (fun y => by have := il y; omega)]
theorem wt_low (S : List q_F) : ∀ c f l, q_wt S = (c, f) :: l → f ≤ S.length := by
  induction S with
  | nil => intro c f l h; cases h
  | cons g R ih =>
    obtain ⟨k, ops⟩ := g
    intro c f l h
    have h : ops.map (fun c => (c, R.length + 1)) ++ q_wt R = (c, f) :: l := h
    cases ops with
    | nil =>
      have := ih c f l h
      simp; omega
    | cons d ops =>
      rw [List.map_cons, List.cons_append] at h
      injection h with h _
      injection h with _ h
      rw [← h]; simp
theorem wt_cons (k : Int32) (ops : List Int32) (R : List q_F) : q_wt ((k, ops) :: R) = ops.map (fun c => (c, R.length + 1)) ++ q_wt R := rfl
theorem wt_len (k : Int32) (ops : List Int32) (R : List q_F) : (q_wt ((k, ops) :: R)).length = ops.length + (q_wt R).length := by
  rw [wt_cons, List.length_append, List.length_map]
/-- what waits in the frame is done, as far as it binds so strongly -/
theorem r_works {r : Nat} (h : q_rY N0 N b n u bg ((k, ops) :: R) E G p) (hm : ∀ c, c ∈ ops → q_isA c ∨ c = -42 ∨ c = -43) (hr : r ≤ 4) (hw : ops.length + (q_wt R).length ≤ 80) (hR : R.length < 1000) (hl : q_len G + E.length + ops.length ≤ 400) (kk : ∀ N' : gx_M, q_rY N0 N' b n u bg ((k, (q_wk r ops E).1) :: R) (q_wk r ops E).2 G p → N' 0 26 = N 0 26 → Q N') : T_X11_works N (nI r) Q := by
  unfold T_X11_works
  have key : ∀ (ops E : List Int32) (N' : gx_M), q_rY N0 N' b n u bg ((k, ops) :: R) E G p → N' 0 26 = N 0 26 → (∀ c, c ∈ ops → q_isA c ∨ c = -42 ∨ c = -43) → ops.length + (q_wt R).length ≤ 80 → q_len G + E.length + ops.length ≤ 400 → (∀ N2 : gx_M, q_rY N0 N2 b n u bg ((k, (q_wk r ops E).1) :: R) (q_wk r ops E).2 G p → N2 0 26 = N 0 26 → Q N2) → T_X11_works_0 Q (fun M6 => Q M6) (ops.length + 1) N' (nI r) := by
    intro ops
    induction ops with
    | nil =>
      intro E N' h h26 _ hw _ kk
      have hQ := kk N' h h26
      have e23 : N' 0 23 = nI (q_wt R).length := h.1.2.1.2.2.1
      have e20 : N' 0 20 = nI (R.length + 1) := h.1.2.1.2.1
      have ws : q_ws N' (q_wt R) := h.1.2.2.1.2.1
      unfold T_X11_works_0
      rw [e23]
      cases hwt : q_wt R with
      | nil => exact qt (show nI 0 ≤ nI 0 from nI_le (by omega) (by omega)) hQ
      | cons x l =>
        obtain ⟨c, f⟩ := x
        have lo := wt_low R c f l hwt
        rw [hwt] at ws hw
        rw [List.length_cons] at hw
        obtain ⟨w1, w2, -⟩ := ws
        have w2 : N' 13 l.length = nI f := w2
        rw [List.length_cons]
        refine qf (nI_nle (by omega) (by omega)) ?_
        rw [nI_pred, nI_clamp (by omega), w2, e20]
        exact ⟨vp_in_nI (by omega) (by omega), qf (fun e => by have := (nI_eq (by omega) (by omega)).mp e; omega) hQ⟩
    | cons c ops ih =>
      intro E N' h h26 hm hw hl kk
      rw [List.length_cons] at hw hl
      have hc := hm c (by simp)
      have e23 : N' 0 23 = nI ((c :: ops).length + (q_wt R).length) := by rw [h.1.2.1.2.2.1, wt_len]
      have e20 : N' 0 20 = nI (R.length + 1) := h.1.2.1.2.1
      have ws := h.1.2.2.1.2.1
      rw [wt_cons, List.map_cons, List.cons_append] at ws
      obtain ⟨w1, w2, w3⟩ := ws
      have el : (ops.map (fun c => (c, R.length + 1)) ++ q_wt R).length = ops.length + (q_wt R).length := by rw [List.length_append, List.length_map]
      rw [el] at w1 w2
      have w1 : N' 12 (ops.length + (q_wt R).length) = q_ro c := w1
      have w2 : N' 13 (ops.length + (q_wt R).length) = nI (R.length + 1) := w2
      rw [List.length_cons]
      unfold T_X11_works_0
      rw [e23, List.length_cons, show ops.length + 1 + (q_wt R).length = ops.length + (q_wt R).length + 1 by omega]
      refine qf (nI_nle (by omega) (by omega)) ?_
      rw [nI_pred, nI_clamp (by omega), w2, e20]
      refine ⟨vp_in_nI (by omega) (by omega), qt rfl ⟨vp_in_nI (by omega) (by omega), ?_⟩⟩
      rw [w1]
      refine r_rank hc ?_
      have rb : q_rk c < 10 := by
        rcases hc with (rfl | rfl | rfl | rfl) | rfl | rfl <;> decide
      by_cases z : r ≤ q_rk c
      · refine qf (nI_nlt z (by omega)) ?_
        rintro _ rfl
        have e23' : gx_up N' 0 23 (nI (ops.length + (q_wt R).length)) 0 23 = nI (ops.length + (q_wt R).length) := by rw [gu_eq, ub_eq]
        rw [e23', nI_clamp (by omega), gu_ne (show 12 ≠ 0 by decide), w1]
        refine ⟨vp_in_nI (by omega) (by omega), ?_⟩
        have hY : q_rY N0 (gx_up N' 0 23 (nI (ops.length + (q_wt R).length))) b n u bg ((k, ops) :: R) E G p := by
          refine h.fr (fun q h0 _ _ _ _ => gu_ne h0) (fun j _ _ h3 => by rw [gu_eq, ub_ne h3]) ?_ ?_ ?_ ?_ ?_
          · rw [gu_eq, ub_ne (by decide)]; exact h.1.2.1.1
          · rw [gu_eq, ub_ne (by decide)]; exact h.1.2.1.2.1
          · rw [e23', wt_len]
          · exact fs_cong h.1.2.2.1.1 (fun k _ => by rw [gu_ne (by decide)]) (fun k _ => by rw [gu_ne (by decide)])
          · exact ws_cong w3 (fun k _ => by rw [gu_ne (by decide), gu_ne (by decide)]; exact ⟨rfl, rfl⟩)
        have rv : (0 : Int32) = q_rv c := by
          rcases hc with z | z
          · exact (rv_0 (isA_lt z).1).symm
          · exact (rv_0 (isB_lt z).1).symm
        rw [rv]
        refine r_emits hY (by omega) (fun N2 h2 f2 g2 => ?_)
        rw [wk_yes z] at kk
        refine ih (c :: E) N2 h2 ?_ (fun d hd => hm d (by simp [hd])) (by omega) (by rw [List.length_cons]; omega) kk
        rw [g2 26 (by decide), gu_eq, ub_ne (by decide)]; exact h26
      · rw [wk_no z] at kk
        exact qt (nI_lt (by omega) (by omega)) (kk N' h h26)
  exact ⟨ops.length + 1, key ops E N h rfl hm hw hl kk⟩
end ROPS
