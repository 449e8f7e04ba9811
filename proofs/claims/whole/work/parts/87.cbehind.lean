/-! the class takes a token behind one -/
theorem uw_arith {l r j op : Nat} {ops T Ec E : List Int32} (hl7 : l ≤ 7) (hm : ∀ c, c ∈ ops → (l ≤ q_sn c ↔ r ≤ q_rk c) ∧ ¬ (c = -25 ∨ c = -41)) (hT : q_low l T) (hE : E = List.replicate j (-25) ++ Ec) : q_uw l (List.replicate j (-25) ++ (ops ++ T)) Ec (op + j) = ((q_wk r ops E).1 ++ T, (q_wk r ops E).2, op) := by
  rw [uw_rep (Or.inl rfl) (show l ≤ q_sn (-25) from hl7), ← hE, Nat.add_sub_cancel, uw_ops ops E hm]
  by_cases z : (q_wk r ops E).1 = []
  · rw [if_pos z, uw_low hT, z]; rfl
  · rw [if_neg z]
theorem uw_all {l j op : Nat} {ops T Ec E : List Int32} (hl : l ≤ 5) (hm : ∀ c, c ∈ ops → q_isA c) (hE : E = List.replicate j (-25) ++ Ec) : q_uw l (List.replicate j (-25) ++ (ops ++ T)) Ec (op + j) = q_uw l T (q_wk 1 ops E).2 op := by
  rw [uw_rep (Or.inl rfl) (show l ≤ q_sn (-25) from Nat.le_trans hl (by decide)), ← hE, Nat.add_sub_cancel, uw_ops (r := 1) ops E (fun c hc => ⟨⟨fun _ => rk_pos c, fun _ => by have := (snA (hm c hc)).1; omega⟩, (snA (hm c hc)).2.2.2⟩), if_pos (wk_1 ops E)]
/-- a relation, nots, and what waits on the clause's ground -/
theorem uw_rel {l r op : Nat} {k : Int32} {R : List q_F} {ops2 E E2 : List Int32} (hk : q_isR k) (hl : l ≤ 2) (hR : q_sE R) (hop : op = q_op R) (hp : q_pk (-41) R (k :: E) = ([(2, ops2)], E2)) (hm : ∀ c, c ∈ ops2 → (l ≤ q_sn c ↔ r ≤ q_rk c)) : q_uw l (k :: m_fl R) E op = ((q_wk r ops2 E2).1, (q_wk r ops2 E2).2, 0) ∧ q_oB ops2 := by
  have hn := R_neg hk
  have key : ∀ (R : List q_F) (E : List Int32), q_sE R → ∃ o2 j, (q_pk (-41) R E).1 = [(2, o2)] ∧ q_oB o2 ∧ m_fl R = List.replicate j (-41) ++ o2 ∧ (q_pk (-41) R E).2 = List.replicate j (-41) ++ E ∧ q_op R = j := by
    intro R
    induction R with
    | nil => intro E h; cases h
    | cons f R ih =>
      intro E h
      obtain ⟨k, ops⟩ := f
      rcases h with ⟨hk, hR, ho⟩ | ⟨hk, he, hR⟩
      · have hk : k = 2 := hk
        have hR : R = [] := hR
        subst hk hR
        have e0 : q_pk (-41) [(2, ops)] E = ([(2, ops)], E) := pk_no (show ¬ (2 : Int32) = -41 by decide)
        refine ⟨ops, 0, by rw [e0], ho, ?_, by rw [e0]; rfl, rfl⟩
        show ops ++ [] = ops
        rw [List.append_nil]
      · have hk : k = -41 := hk
        have he : ops = [] := he
        subst hk he
        obtain ⟨o2, j, a1, a2, b1, b2, b3⟩ := ih (-41 :: E) hR
        have e0 : q_pk (-41) ((-41, []) :: R) E = q_pk (-41) R (-41 :: E) := pk_yes (k := -41) (f := (-41, [])) rfl
        refine ⟨o2, j + 1, by rw [e0, a1], a2, ?_, by rw [e0, b2, rep_cons], ?_⟩
        · show -41 :: m_fl R = _
          rw [b1, List.replicate_succ, List.cons_append]
        · show q_op R + 1 = _
          omega
  obtain ⟨o2, j, a1, a2, b1, b2, b3⟩ := key R (k :: E) hR
  rw [hp] at a1 b2
  injection a1 with a1 _
  injection a1 with _ a1
  have b2 : E2 = List.replicate j (-41) ++ k :: E := b2
  subst a1
  refine ⟨?_, a2⟩
  rw [uw_yes (by rw [snR hk]; omega), if_neg (by rintro (z | z); exact hn.2.2.2.2.2.1 z; exact hn.2.2.2.2.2.2 z), b1, uw_rep (Or.inr rfl) (show l ≤ q_sn (-41) from Nat.le_trans hl (by decide)), ← b2, hop, b3, Nat.sub_self]
  have := uw_ops (l := l) (r := r) (W := []) (o := 0) ops2 E2 (fun c hc => ⟨hm c hc, (snB ((oB_mem a2).2 c hc)).2.2.2⟩)
  rw [List.append_nil] at this
  rw [this]
  by_cases z : (q_wk r ops2 E2).1 = []
  · rw [if_pos z, z]; rfl
  · rw [if_neg z, List.append_nil]
theorem c_awaitNext {M : gx_M} {o : Nat} {bg : Bool} {W Ec B0 H0 W' E' : List Int32} {op op' : Nat} {sg : Int32} {Q : gx_M → Prop} (ho : pk_Pr o) (h16 : M 4 16 = nI o) (h8 : M 4 8 = b2i bg) (em : q_em M o bg Ec B0 H0) (h2 : M 4 2 = nI W.length) (hr : q_row (M 7) W) (h3 : M 4 3 = nI op) (hop : q_ng W ≤ op) (hop2 : op < 1000) (hl : W.length + Ec.length + B0.length + H0.length ≤ 300) (heq : q_uw (q_sn sg) W Ec op = (W', E', op')) (hW' : W'.length < 300)
    (h : ∀ M' : gx_M, FrK o M M' → q_em M' o bg E' B0 H0 → M' 4 2 = nI (sg :: W').length → q_row (M' 7) (sg :: W') → M' 4 3 = nI op' → (∀ j, j ≠ 2 → j ≠ 3 → j ≠ 9 → j ≠ 10 → M' 4 j = M 4 j) → M' 4 9 = 1 → M' 4 10 = 0 → Q M') : T_X5_awaitNext M sg Q := by
  have ho' := ho
  unfold pk_Pr at ho'
  unfold T_X5_awaitNext
  refine c_strength (c_unwind ho (sn_le sg) h16 h8 em h2 hr h3 hop hop2 hl (fun M1 f1 e1 k2 k7 k3 => ?_))
  rw [heq] at e1 k2 k7 k3
  refine c_await k2 k7 hW' (fun M2 f2 g2 m2 m7 => ?_)
  rintro _ rfl _ rfl
  have s : ∀ j, j ≠ 2 → j ≠ 3 → j ≠ 9 → j ≠ 10 → gx_up (gx_up M2 4 9 1) 4 10 0 4 j = M 4 j := fun j a1 a2 a3 a4 => by rw [gu_eq, ub_ne a4, gu_eq, ub_ne a3, g2 j a1]; exact f1.2 j a1 a2
  refine h _ ⟨fun q a1 a2 a3 a4 a5 => ?_, fun j hj => s j (by omega) (by omega) (by omega) (by omega)⟩ (e1.kept ?_ ?_ ?_) ?_ ?_ ?_ s ?_ ?_
  · rw [gu_ne a1, gu_ne a1, f2 q a1 a2]; exact f1.1 q a1 a3 a4 a5
  · rw [gu_ne (by omega), gu_ne (by omega)]; exact f2 o (by omega) (by omega)
  · rw [gu_ne (by omega), gu_ne (by omega)]; exact f2 _ (by omega) (by omega)
  · rw [gu_ne (by omega), gu_ne (by omega)]; exact f2 _ (by omega) (by omega)
  · rw [gu_eq, ub_ne (by decide), gu_eq, ub_ne (by decide)]; exact m2
  · rw [gu_ne (by decide), gu_ne (by decide)]; exact m7
  · rw [gu_eq, ub_ne (by decide), gu_eq, ub_ne (by decide), g2 3 (by decide)]; exact k3
  · rw [gu_eq, ub_ne (by decide), gu_eq, ub_eq]
  · rw [gu_eq, ub_eq]
/-- a clause is over: what has been emitted is a clause of the machine's -/
theorem em_hold {M : gx_M} {o : Nat} {E : List Int32} {G : q_Gs} (h : q_em M o false E (q_B G) (q_H G)) : q_em M o false [] (q_B ((false, E) :: G)) (q_H ((false, E) :: G)) := h
theorem em_beg0 {M : gx_M} {o : Nat} {E : List Int32} {G : q_Gs} (hB : q_B G = []) (h : q_em M o true E (q_B G) (q_H G)) : q_em M o true [] (q_B ((true, E) :: G)) (q_H ((true, E) :: G)) := by
  have e : q_B ((true, E) :: G) = E := by
    show (match q_B G with | [] => E | c :: r => -43 :: (E ++ (c :: r))) = E
    rw [hB]
  rw [e]
  rw [hB] at h
  obtain ⟨a1, a2, a3, a4⟩ := h
  have x : q_Bl true E [] = E := List.append_nil E
  rw [x] at a1 a3
  exact ⟨a1, a2, a3, a4⟩
theorem em_beg1 {M : gx_M} {o : Nat} {E : List Int32} {G : q_Gs} (hB : q_B G ≠ []) (h : q_em M o true (-43 :: E) (q_B G) (q_H G)) : q_em M o true [] (q_B ((true, E) :: G)) (q_H ((true, E) :: G)) := by
  have e : q_B ((true, E) :: G) = -43 :: E ++ q_B G := by
    show (match q_B G with | [] => E | c :: r => -43 :: (E ++ (c :: r))) = _
    cases hb : q_B G with
    | nil => exact absurd hb hB
    | cons c r => rfl
  rw [e]
  exact h
theorem asks_B {G : q_Gs} (h : q_wf G) : (q_asks G = true → q_B G ≠ []) ∧ (q_asks G = false → q_B G = []) := by
  have hw : q_wd (fun _ => 0) := fun i _ => show -1000000 ≤ (0 : Int32).toInt ∧ (0 : Int32).toInt ≤ 1000000 by decide
  obtain ⟨h1, h2⟩ := q_B_spec hw h
  exact ⟨fun e => (h1 e).1, fun e => (h2 e).1⟩
theorem br_op (S : List q_F) : m_br S ≤ q_op S := by
  induction S with
  | nil => exact Nat.le_refl _
  | cons f R ih =>
    show m_br R + (if f.1 = -51 then 1 else 0) ≤ q_op R + (if f.1 = -41 ∨ f.1 = -51 ∨ f.1 = -25 then 1 else 0)
    by_cases h : f.1 = -51
    · rw [if_pos h, if_pos (Or.inr (Or.inl h))]; omega
    · rw [if_neg h]; omega
theorem ok_br {ph : Nat} {bg : Bool} {S : List q_F} {E : List Int32} {G : q_Gs} {p : Nat} (h : q_ok ph bg S E G p) : m_br S ≤ 8 := by
  have := br_op S
  have := h.1.2.2.1
  omega
theorem c_behind {M0 M : gx_M} {o : Nat} {b : Nat → Nat} {n : Nat} {bg : Bool} {S : List q_F} {E Ec : List Int32} {G : q_Gs} {sg : Int32} {nu p p' st j : Nat} {Q : gx_M → Prop} (ho : pk_Pr o) (hok : q_ok 2 bg S E G p) (hp3 : p < 300) (hH : q_cH M0 M o b n 2 bg G p') (hW : q_cW M o 2 bg S E G j Ec) (h3 : M 5 3 = nI st)
    (hF : ∀ (f : Int32) (M' : gx_M), q_flt 2 S G sg nu f → q_cF M0 M' o → M' 4 13 = 1 → M' 4 14 = f → M' 4 15 = nI st → Q M')
    (hN : ∀ (ph1 : Nat) (bg1 : Bool) (S1 : List q_F) (E1 : List Int32) (G1 : q_Gs) (j1 : Nat) (Ec1 : List Int32) (M' : gx_M), q_nx 2 bg S E G sg nu ph1 bg1 S1 E1 G1 → q_cS M0 M' o b n ph1 bg1 S1 E1 G1 p' j1 Ec1 → Q M') : T_X5_takeBehindOne M sg Q := by
  have ho' := ho
  unfold pk_Pr at ho'
  obtain ⟨⟨em, hE, -⟩, ⟨w2, w7, w3, w4⟩, w8, w11, w9, -, -⟩ := hW
  have h16 := hH.2.1.1
  have hok0 := hok
  obtain ⟨⟨hwf, hg10, hop8, hs⟩, hhl, -⟩ := hok0
  rw [if_neg (by decide)] at hs hg10
  have hBH := BH_len G
  obtain ⟨k, ops, R, rfl, oA, tE, hk⟩ := ok_2 hok
  obtain ⟨m2, mA⟩ := oA_mem oA
  have fl : m_fl ((k, ops) :: R) = ops ++ (if k < 0 then k :: m_fl R else m_fl R) := rfl
  have opS : q_op ((k, ops) :: R) = q_op R + (if k = -41 ∨ k = -51 ∨ k = -25 then 1 else 0) := rfl
  have brS : m_br ((k, ops) :: R) = m_br R + (if k = -51 then 1 else 0) := rfl
  have cpS : q_cp ((k, ops) :: R) = (q_rel k || q_cp R) := rfl
  have lE : E.length = j + Ec.length := by rw [hE, List.length_append, List.length_replicate]
  have lW : (List.replicate j (-25) ++ m_fl ((k, ops) :: R)).length = j + (m_fl ((k, ops) :: R)).length := by rw [List.length_append, List.length_replicate]
  have hng : q_ng (List.replicate j (-25) ++ m_fl ((k, ops) :: R)) ≤ q_op ((k, ops) :: R) + j := by
    rw [ng_app, ng_rep]
    have : q_sA bg ((k, ops) :: R) := by
      obtain ⟨-, -, h⟩ := hok
      rcases h with ⟨e, -⟩ | ⟨e, -⟩ | ⟨e, -⟩ | ⟨-, hS, -⟩
      · cases e
      · cases e
      · cases e
      · exact hS
    have := ng_A this
    omega
  have hsz : (List.replicate j (-25) ++ m_fl ((k, ops) :: R)).length + Ec.length + (q_B G).length + (q_H G).length ≤ 300 := by rw [lW]; omega
  have l1 : (q_wk 1 ops E).2.length = ops.length + E.length := len_app (E1 := []) (wk_1 ops E)
  have t1 := wk_A (r := 1) ops E mA tE
  rw [wk_1, List.map_nil, List.nil_append] at t1
  -- what can be on top of the frames
  have bad : ∀ f, q_flt 2 ((k, ops) :: R) G sg nu f → T_X5_fail M f Q := fun f hf => c_bad hH h3 hf hF
  have br0 : ¬ k = -51 → m_br ((k, ops) :: R) = 0 := by
    intro z
    rw [brS, if_neg z, Nat.add_zero]
    rcases hk with ⟨-, rfl, -⟩ | ⟨-, -, hR⟩ | ⟨-, -, hR⟩ | ⟨y, -⟩
    · rfl
    · exact (sE_brcp hR).1
    · exact (sE_brcp hR).1
    · exact absurd y z
  have z0 : nI 0 = (0 : Int32) := rfl
  -- the end of a clause
  have over : sg = -53 → (k = 1 ∨ q_isR k) → T_X5_endClause M (fun M6 => Q M6) := by
    intro e53 hkk
    unfold T_X5_endClause
    refine c_unwind (l := 1) ho (by omega) h16 w8 em w2 w7 w3 hng (by omega) hsz (fun M1 f1 em1 k2 k7 k3 => ?_)
    rintro _ rfl
    unfold T_X5_endClause_30 T_X5_endClause_45
    have x8 : gx_up M1 4 7 0 4 8 = b2i bg := by rw [gu_eq, ub_ne (by decide), f1.2 8 (by decide) (by decide)]; exact w8
    have x12 : gx_up M1 4 7 0 4 12 = b2i (q_asks G) := by rw [gu_eq, ub_ne (by decide), f1.2 12 (by decide) (by decide)]; exact hH.2.2.2.2.1
    -- the head of the next place
    have head : ∀ (M5 : gx_M) (E' : List Int32) (x : Int32), (∀ q, q ≠ 4 → q ≠ o → q ≠ 6 + o → q ≠ 12 + o → M5 q = M1 q) → (∀ j, j ≠ 7 → M5 4 j = M1 4 j) → M5 4 7 = 0 → x = b2i (q_asks ((bg, E') :: G)) → q_cH M0 (gx_up M5 4 12 x) o b n 4 bg ((bg, E') :: G) p' := by
      rintro M5 E' _ fq fj f7 rfl
      obtain ⟨⟨c1, c2, c3⟩, ⟨d1, d2, d3, d4⟩, g1, g2, g3, g4⟩ := hH
      have m5 : gx_up M5 4 12 (b2i (q_asks ((bg, E') :: G))) 5 = M 5 := by rw [gu_ne (by decide), fq 5 (by omega) (by omega) (by omega) (by omega)]; exact f1.1 5 (by omega) (by omega) (by omega) (by omega)
      have m6 : gx_up M5 4 12 (b2i (q_asks ((bg, E') :: G))) 6 = M 6 := by rw [gu_ne (by decide), fq 6 (by omega) (by omega) (by omega) (by omega)]; exact f1.1 6 (by omega) (by omega) (by omega) (by omega)
      have s : ∀ j, j ≠ 2 → j ≠ 3 → j ≠ 7 → j ≠ 12 → gx_up M5 4 12 (b2i (q_asks ((bg, E') :: G))) 4 j = M 4 j := fun j a1 a2 a3 a4 => by rw [gu_eq, ub_ne a4, fj j a3]; exact f1.2 j a1 a2
      refine ⟨⟨fun q a1 a2 a3 a4 a5 a6 => ?_, ⟨c2.1, by rw [m5]; exact c2.2.1, by rw [m6]; exact c2.2.2⟩, by rw [m5]; exact c3⟩, ⟨?_, ?_, ?_, ?_⟩, ?_, ?_, ?_, ?_⟩
      · rw [gu_ne a1, fq q a1 a4 a5 a6, f1.1 q a1 a4 a5 a6]; exact c1 q a1 a2 a3 a4 a5 a6
      · rw [s 16 (by decide) (by decide) (by decide) (by decide)]; exact d1
      · rw [s 13 (by decide) (by decide) (by decide) (by decide)]; exact d2
      · rw [s 14 (by decide) (by decide) (by decide) (by decide)]; exact d3
      · rw [s 15 (by decide) (by decide) (by decide) (by decide)]; exact d4
      · rw [s 5 (by decide) (by decide) (by decide) (by decide)]; exact g1
      · rw [s 6 (by decide) (by decide) (by decide) (by decide), g2]
        show b2i (q_hl G || (true && !bg)) = b2i ((!bg || q_hl G) || false)
        rw [Bool.true_and, Bool.or_false, Bool.or_comm]
      · rw [gu_eq, ub_eq]
      · rw [gu_eq, ub_ne (by decide), f7]; rfl
    rcases hkk with e1 | hR
    · rcases hk with ⟨-, rfl, hbg⟩ | ⟨e, -⟩ | ⟨e, -⟩ | ⟨e, -⟩
      · subst e1 hbg
        have heq : q_uw 1 (List.replicate j (-25) ++ m_fl [(1, ops)]) Ec (q_op [(1, ops)] + j) = ([], (q_wk 1 ops E).2, q_op [(1, ops)]) := by
          rw [show m_fl [(1, ops)] = ops ++ [] from rfl, uw_all (by omega) mA hE]; rfl
        rw [heq] at em1 k2 k7 k3
        have rule : q_nx 2 false [(1, ops)] E G sg nu 4 false [] [] ((false, (q_wk 1 ops E).2) :: G) := Or.inr (Or.inr (Or.inr ⟨rfl, 1, ops, [], rfl, rfl, Or.inr (Or.inr (Or.inr (Or.inr (Or.inl ⟨e53, rfl, rfl, rfl, rfl, rfl⟩))))⟩))
        have fin : ∀ x : Int32, x = b2i (q_asks G) → Q (gx_up (gx_up M1 4 7 0) 4 12 x) := by
          intro x hx
          refine hN 4 false [] [] _ 0 [] _ rule ⟨head (gx_up M1 4 7 0) (q_wk 1 ops E).2 x (fun q a _ _ _ => gu_ne a) (fun j a => by rw [gu_eq, ub_ne a]) (by rw [gu_eq, ub_eq]) hx, Or.inl ⟨rfl, em_hold (em1.kept (by rw [gu_ne (by omega), gu_ne (by omega)]) (by rw [gu_ne (by omega), gu_ne (by omega)]) (by rw [gu_ne (by omega), gu_ne (by omega)]))⟩⟩
        refine qt (by rw [x8]; rfl) (qc (fun y => qt (by rw [x8]; rfl) ?_) (fun y => ?_))
        · rintro _ rfl
          exact fin 0 (y.symm.trans x12)
        · rintro _ rfl
          refine fin 1 ?_
          rw [x12] at y
          cases ha : q_asks G with
          | false => rw [ha] at y; exact absurd rfl y
          | true => rfl
      · rw [e1] at e; exact absurd e (by decide)
      · rw [e1] at e; exact absurd e (by unfold q_isR; decide)
      · rw [e1] at e; exact absurd e (by decide)
    · have hn := R_neg hR
      rcases hk with ⟨e, -⟩ | ⟨e, -⟩ | ⟨-, hbg, hE2⟩ | ⟨e, -⟩
      · exact absurd e hn.2.2.2.1
      · exact absurd e hn.2.2.2.2.1
      · subst hbg
        rw [if_pos (rel_R hR)] at t1
        obtain ⟨ops2, E2, j2, c1, c2, c3, c4, c5, c6, c7, c8⟩ := pk41 R (k :: (q_wk 1 ops E).2) hE2 ⟨_, t1, Or.inr (Or.inr (Or.inr (Or.inr (Or.inl ⟨hR, _, rfl, rfl⟩))))⟩
        rw [if_pos hn.1] at fl
        rw [if_neg hn.2.1, Nat.add_zero] at opS
        obtain ⟨n2, mB⟩ := oB_mem c2
        have ur := uw_rel (l := 1) (r := 1) (op := q_op R) hR (by omega) hE2 rfl c1 (fun c hc => ⟨fun _ => rk_pos c, fun _ => (snB (mB c hc)).2.2.1⟩)
        have heq : q_uw 1 (List.replicate j (-25) ++ m_fl ((k, ops) :: R)) Ec (q_op ((k, ops) :: R) + j) = ([], (q_wk 1 ops2 E2).2, 0) := by
          rw [fl, opS, uw_all (by omega) mA hE, ur.1, wk_1]
        rw [heq] at em1 k2 k7 k3
        have rule : q_nx 2 true ((k, ops) :: R) E G sg nu 4 true [] [] ((true, (q_wk 1 ops2 E2).2) :: G) := Or.inr (Or.inr (Or.inr ⟨rfl, k, ops, R, rfl, rfl, Or.inr (Or.inr (Or.inr (Or.inr (Or.inr ⟨e53, hR, rfl, rfl, rfl, ops2, E2, c1, rfl⟩))))⟩))
        have la := congrArg List.length c4
        have lb := congrArg List.length c5
        rw [List.length_append, List.length_replicate] at la lb
        rw [List.length_cons] at lb
        have lw2 : (q_wk 1 ops2 E2).2.length = ops2.length + E2.length := len_app (E1 := []) (wk_1 ops2 E2)
        have lfl : (m_fl ((k, ops) :: R)).length = ops.length + (m_fl R).length + 1 := by rw [fl, List.length_append, List.length_cons]; omega
        refine qf (by rw [x8]; decide) (qc (fun y => ?_) (fun y => ?_))
        · have ha : q_asks G = false := by
            rw [x12] at y
            cases ha : q_asks G with
            | false => rfl
            | true => rw [ha] at y; exact absurd y (by decide)
          refine qt y (qf (by rw [x8]; decide) ?_)
          rintro _ rfl
          exact hN 4 true [] [] _ 0 [] _ rule ⟨head (gx_up M1 4 7 0) (q_wk 1 ops2 E2).2 1 (fun q a _ _ _ => gu_ne a) (fun j a => by rw [gu_eq, ub_ne a]) (by rw [gu_eq, ub_eq]) rfl, Or.inl ⟨rfl, em_beg0 ((asks_B hwf).2 ha) (em1.kept (by rw [gu_ne (by omega), gu_ne (by omega)]) (by rw [gu_ne (by omega), gu_ne (by omega)]) (by rw [gu_ne (by omega), gu_ne (by omega)]))⟩⟩
        · have ha : q_asks G = true := by
            rw [x12] at y
            cases ha : q_asks G with
            | false => rw [ha] at y; exact absurd rfl y
            | true => rfl
          refine c_emit ho (by rw [gu_eq, ub_ne (by decide), f1.2 16 (by decide) (by decide)]; exact h16) x8 (em1.kept (gu_ne (by omega)) (gu_ne (by omega)) (gu_ne (by omega))) (show (q_wk 1 ops2 E2).2.length + (q_B G).length + (q_H G).length < 300 by omega) (fun M5 f5 em5 => ?_)
          have m4 : M5 4 = gx_up M1 4 7 0 4 := f5 4 (by omega) (by omega) (by omega)
          refine qf (by rw [m4, x12, ha]; decide) ?_
          rintro _ rfl
          exact hN 4 true [] [] _ 0 [] _ rule ⟨head M5 (q_wk 1 ops2 E2).2 1 (fun q a b d e => by rw [f5 q b d e, gu_ne a]) (fun j a => by rw [m4, gu_eq, ub_ne a]) (by rw [m4, gu_eq, ub_eq]) rfl, Or.inl ⟨rfl, em_beg1 ((asks_B hwf).1 ha) (em5.kept (gu_ne (by omega)) (gu_ne (by omega)) (gu_ne (by omega)))⟩⟩
      · exact absurd e hn.2.2.1
  have t128 : ¬ q_isA sg → ¬ (sg = -52 ∧ k = -51) → ¬ (q_isR sg ∧ k = 4) → ¬ ((sg = -42 ∨ sg = -43) ∧ q_isR k) → T_X5_takeBehindOne_128 Q M sg := by
    intro n1 n2 n3 n4
    unfold T_X5_takeBehindOne_128 T_X5_takeBehindOne_159
    have bad1 : ¬ (sg = -53 ∧ (k = 1 ∨ q_isR k)) → T_X5_fail M 1 (fun M5 => Q M5) := fun n5 => bad 1 (Or.inr (Or.inr (Or.inr ⟨rfl, rfl, k, ops, R, rfl, n1, n2, n3, n4, n5⟩)))
    refine qc (fun e53 => ?_) (fun e53 => bad1 (fun z => e53 z.1))
    rw [w4, w11, w8]
    rcases hk with ⟨e1, rfl, hbg⟩ | ⟨e4, hbg, hR⟩ | ⟨eR, hbg, hR⟩ | ⟨e51, hR⟩
    · rw [br0 (by rw [e1]; decide)]
      refine qt rfl (qt ?_ (over e53 (Or.inl e1)))
      rw [cpS, hbg, e1]; rfl
    · rw [br0 (by rw [e4]; decide)]
      refine qt rfl (qf ?_ (bad1 (fun z => ?_)))
      · rw [cpS, hbg, (sE_brcp hR).2, e4]; decide
      · rcases z.2 with y | y
        · rw [e4] at y; exact absurd y (by decide)
        · exact absurd e4 (R_neg y).2.2.2.2.1
    · rw [br0 (R_neg eR).2.2.1]
      refine qt rfl (qt ?_ (over e53 (Or.inr eR)))
      rw [cpS, hbg, rel_R eR]; rfl
    · rw [brS, if_pos e51]
      refine qf (nI_ne0 (by omega) ?_) (bad1 (fun z => ?_))
      · have := ok_br hok
        omega
      · rcases z.2 with y | y
        · rw [e51] at y; exact absurd y (by decide)
        · exact absurd e51 (R_neg y).2.2.1
  have t84 : ¬ q_isA sg → ¬ (sg = -52 ∧ k = -51) → ¬ (q_isR sg ∧ k = 4) → T_X5_takeBehindOne_84 Q M sg := by
    intro n1 n2 n3
    unfold T_X5_takeBehindOne_84 T_X5_takeBehindOne_96
    have t96 : (sg = -42 ∨ sg = -43) → (if (M 4 4) = 0 then (if (M 4 11) = 0 then T_X5_takeBehindOne_128 Q M sg else T_X5_awaitNext M sg (fun M7 => ∀ M8, M8 = gx_up M7 4 11 0 → ∀ M9, M9 = gx_up M8 4 10 1 → Q M9)) else T_X5_takeBehindOne_128 Q M sg) := by
      intro hB
      obtain ⟨sB1, sB2, sB3, sB4⟩ := snB hB
      rw [w4, w11]
      rcases hk with ⟨e1, rfl, hbg⟩ | ⟨e4, hbg, hR⟩ | ⟨eR, hbg, hR⟩ | ⟨e51, hR⟩
      · refine qt (by rw [br0 (by rw [e1]; decide)]; rfl) (qt (by rw [cpS, e1]; rfl) (t128 n1 n2 n3 (fun z => ?_)))
        exact absurd e1 (R_neg z.2).2.2.2.1
      · refine qt (by rw [br0 (by rw [e4]; decide)]; rfl) (qt (by rw [cpS, (sE_brcp hR).2, e4]; decide) (t128 n1 n2 n3 (fun z => ?_)))
        exact absurd e4 (R_neg z.2).2.2.2.2.1
      · have hn := R_neg eR
        refine qt (by rw [br0 hn.2.2.1]; rfl) (qf (by rw [cpS, rel_R eR, Bool.true_or]; decide) ?_)
        rw [if_pos (rel_R eR)] at t1
        obtain ⟨ops2, E2, j2, c1, c2, c3, c4, c5, c6, c7, c8⟩ := pk41 R (k :: (q_wk 1 ops E).2) hR ⟨_, t1, Or.inr (Or.inr (Or.inr (Or.inr (Or.inl ⟨eR, _, rfl, rfl⟩))))⟩
        rw [if_pos hn.1] at fl
        rw [if_neg hn.2.1, Nat.add_zero] at opS
        obtain ⟨n2', mB⟩ := oB_mem c2
        have ur := uw_rel (l := q_sn sg) (r := q_rk sg) (op := q_op R) eR sB2 hR rfl c1 (fun c hc => by rw [sB1, (snB (mB c hc)).1])
        have heq : q_uw (q_sn sg) (List.replicate j (-25) ++ m_fl ((k, ops) :: R)) Ec (q_op ((k, ops) :: R) + j) = ((q_wk (q_rk sg) ops2 E2).1, (q_wk (q_rk sg) ops2 E2).2, 0) := by
          rw [fl, opS, uw_all (by omega) mA hE, ur.1]
        have lw2 := wk_len (q_rk sg) ops2 E2
        have lB := (oB_mem (wk_oB (s := sg) E2 c2 hB)).1
        rw [List.length_cons] at lB
        refine c_awaitNext ho h16 w8 em w2 w7 w3 hng (by omega) hsz heq (by omega) (fun M7 f7 em7 k2 k7 k3 ks k9 k10 => ?_)
        rintro _ rfl _ rfl
        have rule : q_nx 2 bg ((k, ops) :: R) E G sg nu 0 bg [(2, sg :: (q_wk (q_rk sg) ops2 E2).1)] (q_wk (q_rk sg) ops2 E2).2 G := Or.inr (Or.inr (Or.inr ⟨rfl, k, ops, R, rfl, rfl, Or.inr (Or.inr (Or.inr (Or.inl ⟨hB, eR, rfl, rfl, ops2, E2, c1, rfl, rfl⟩)))⟩))
        have fl1 : m_fl [(2, sg :: (q_wk (q_rk sg) ops2 E2).1)] = sg :: (q_wk (q_rk sg) ops2 E2).1 := by
          show sg :: (q_wk (q_rk sg) ops2 E2).1 ++ [] = _
          rw [List.append_nil]
        have s : ∀ j, j ≠ 10 → j ≠ 11 → gx_up (gx_up M7 4 11 0) 4 10 1 4 j = M7 4 j := fun j a1 a2 => by rw [gu_eq, ub_ne a1, gu_eq, ub_ne a2]
        refine hN 0 bg _ _ G 0 (q_wk (q_rk sg) ops2 E2).2 _ rule ⟨(hH.kept (f7.tr ((FrK.up 0 (by omega)).tr (FrK.up 1 (by omega)))) ho).ph (by decide) (by decide), Or.inr ⟨by decide, ⟨em7.kept (by rw [gu_ne (by omega), gu_ne (by omega)]) (by rw [gu_ne (by omega), gu_ne (by omega)]) (by rw [gu_ne (by omega), gu_ne (by omega)]), rfl, fun _ => rfl⟩, ⟨?_, ?_, ?_, ?_⟩, ?_, ?_, ?_, ?_, ?_⟩⟩
        · show _ = nI (m_fl [(2, sg :: (q_wk (q_rk sg) ops2 E2).1)]).length
          rw [fl1, s 2 (by decide) (by decide)]; exact k2
        · show q_row _ (m_fl [(2, sg :: (q_wk (q_rk sg) ops2 E2).1)])
          rw [fl1, gu_ne (by decide), gu_ne (by decide)]; exact k7
        · rw [s 3 (by decide) (by decide)]; exact k3
        · rw [s 4 (by decide) (by decide), ks 4 (by decide) (by decide) (by decide) (by decide), w4, br0 hn.2.2.1]; rfl
        · rw [s 8 (by decide) (by decide), ks 8 (by decide) (by decide) (by decide) (by decide)]; exact w8
        · rw [gu_eq, ub_ne (by decide), gu_eq, ub_eq]; rfl
        · rw [s 9 (by decide) (by decide)]; exact k9
        · intro _; rw [gu_eq, ub_eq]
        · intro e; cases e
      · refine qf ?_ (t128 n1 n2 n3 (fun z => absurd e51 (R_neg z.2).2.2.1))
        have := ok_br hok
        rw [brS, if_pos e51] at this ⊢
        exact nI_ne0 (by omega) (by omega)
    refine qc (fun e => t96 (Or.inl e)) (fun e => qc (fun e2 => t96 (Or.inr e2)) (fun e2 => t128 n1 n2 n3 (fun z => ?_)))
    rcases z.1 with y | y
    · exact e y
    · exact e2 y
  have t39 : ¬ q_isA sg → ¬ (sg = -52 ∧ k = -51) → T_X5_takeBehindOne_39 Q M sg := by
    intro n1 n2
    unfold T_X5_takeBehindOne_39
    refine gd_within (fun nR => t84 n1 n2 (fun z => nR (of_decide_eq_true (rel_R z.1)))) (fun yR => ?_)
    have hR : q_isR sg := R_rel (decide_eq_true yR)
    have sR := snR hR
    rw [w8, w4, w11]
    rcases hk with ⟨e1, rfl, hbg⟩ | ⟨e4, hbg, hE2⟩ | ⟨eR, hbg, hE2⟩ | ⟨e51, hR2⟩
    · exact qt (by rw [hbg]; rfl) (t84 n1 n2 (fun z => by rw [e1] at z; exact absurd z.2 (by decide)))
    · refine qf (by rw [hbg]; decide) (qt (by rw [br0 (by rw [e4]; decide)]; rfl) (qt (by rw [cpS, (sE_brcp hE2).2, e4]; decide) ?_))
      subst e4
      have fl4 : m_fl ((4, ops) :: R) = ops ++ m_fl R := rfl
      have op4 : q_op ((4, ops) :: R) = q_op R := rfl
      have heq : q_uw (q_sn sg) (List.replicate j (-25) ++ m_fl ((4, ops) :: R)) Ec (q_op ((4, ops) :: R) + j) = (m_fl R, (q_wk 1 ops E).2, q_op R) := by
        rw [fl4, op4, uw_all (by omega) mA hE, sR, uw_low (low_E hE2)]
      have lfl : (m_fl ((4, ops) :: R)).length = ops.length + (m_fl R).length := by rw [fl4, List.length_append]
      refine c_awaitNext ho h16 w8 em w2 w7 w3 hng (by omega) hsz heq (by omega) (fun M7 f7 em7 k2 k7 k3 ks k9 k10 => ?_)
      rintro _ rfl
      have hn := R_neg hR
      have rule : q_nx 2 bg ((4, ops) :: R) E G sg nu 1 bg ((sg, []) :: R) (q_wk 1 ops E).2 G := Or.inr (Or.inr (Or.inr ⟨rfl, 4, ops, R, rfl, rfl, Or.inr (Or.inr (Or.inl ⟨hR, rfl, rfl, rfl, rfl, rfl⟩))⟩))
      have fl1 : m_fl ((sg, []) :: R) = sg :: m_fl R := by
        show [] ++ (if sg < 0 then sg :: m_fl R else m_fl R) = _
        rw [if_pos hn.1]; rfl
      have op1 : q_op ((sg, []) :: R) = q_op R := by
        show q_op R + (if sg = -41 ∨ sg = -51 ∨ sg = -25 then 1 else 0) = _
        rw [if_neg hn.2.1, Nat.add_zero]
      have br1 : m_br ((sg, []) :: R) = m_br ((4, ops) :: R) := by
        show m_br R + (if sg = -51 then 1 else 0) = m_br R + 0
        rw [if_neg hn.2.2.1]
      have s : ∀ j, j ≠ 11 → gx_up M7 4 11 1 4 j = M7 4 j := fun j a1 => by rw [gu_eq, ub_ne a1]
      refine hN 1 bg _ _ G 0 (q_wk 1 ops E).2 _ rule ⟨(hH.kept (f7.tr (FrK.up 1 (by omega))) ho).ph (by decide) (by decide), Or.inr ⟨by decide, ⟨em7.kept (gu_ne (by omega)) (gu_ne (by omega)) (gu_ne (by omega)), rfl, fun _ => rfl⟩, ⟨?_, ?_, ?_, ?_⟩, ?_, ?_, ?_, ?_, ?_⟩⟩
      · show _ = nI (m_fl ((sg, []) :: R)).length
        rw [fl1, s 2 (by decide)]; exact k2
      · show q_row _ (m_fl ((sg, []) :: R))
        rw [fl1, gu_ne (by decide)]; exact k7
      · show _ = nI (q_op ((sg, []) :: R))
        rw [op1, s 3 (by decide)]; exact k3
      · rw [br1, s 4 (by decide), ks 4 (by decide) (by decide) (by decide) (by decide)]; exact w4
      · rw [s 8 (by decide), ks 8 (by decide) (by decide) (by decide) (by decide)]; exact w8
      · rw [gu_eq, ub_eq]
        show 1 = b2i (q_rel sg || q_cp R)
        rw [rel_R hR]; rfl
      · rw [s 9 (by decide)]; exact k9
      · intro e; cases e
      · intro _; rw [s 10 (by decide)]; exact k10
    · refine qf (by rw [hbg]; decide) (qt (by rw [br0 (R_neg eR).2.2.1]; rfl) (qf (by rw [cpS, rel_R eR, Bool.true_or]; decide) (t84 n1 n2 (fun z => absurd z.2 (R_neg eR).2.2.2.2.1))))
    · have nz : ¬ nI (m_br ((k, ops) :: R)) = 0 := by
        have := ok_br hok
        rw [brS, if_pos e51] at this ⊢
        exact nI_ne0 (by omega) (by omega)
      have n3 : ¬ (q_isR sg ∧ k = 4) := fun z => by have y := z.2; rw [e51] at y; exact absurd y (by decide)
      exact qc (fun _ => t84 n1 n2 n3) (fun _ => qf nz (t84 n1 n2 n3))
  unfold T_X5_takeBehindOne
  refine gd_within (fun nA => ?_) (fun yA => ?_)
  · have n1 : ¬ q_isA sg := fun z => nA (by rcases z with z | z | z | z <;> (rw [z]; decide))
    refine qc (fun eC => ?_) (fun nC => t39 n1 (fun z => nC z.1))
    rw [w4]
    by_cases e51 : k = -51
    · have nz : ¬ nI (m_br ((k, ops) :: R)) ≤ 0 := by
        have := ok_br hok
        rw [brS, if_pos e51] at this ⊢
        exact nI_nle (by omega) (by omega)
      refine qf nz ?_
      rcases hk with ⟨e, -⟩ | ⟨e, -⟩ | ⟨e, -⟩ | ⟨-, hR⟩
      · rw [e51] at e; exact absurd e (by decide)
      · rw [e51] at e; exact absurd e (by decide)
      · exact absurd e51 (R_neg e).2.2.1
      · subst e51
        have t1 : q_tc (q_wk 1 ops E).2 (true :: q_Ty R) := t1
        obtain ⟨a1, a2, a3, j', b1, b2, b3, b4, b5⟩ := pk25 R (q_wk 1 ops E).2 hR t1
        have fl5 : m_fl ((-51, ops) :: R) = ops ++ (-51 :: m_fl R) := rfl
        have op5 : q_op ((-51, ops) :: R) = q_op R + 1 := rfl
        have br5 : m_br ((-51, ops) :: R) = m_br R + 1 := rfl
        have heq : q_uw 1 (List.replicate j (-25) ++ m_fl ((-51, ops) :: R)) Ec (q_op ((-51, ops) :: R) + j) = (-51 :: m_fl R, (q_wk 1 ops E).2, q_op R + 1) := by
          rw [fl5, op5, uw_all (by omega) mA hE, uw_no (by decide)]
        have lfl : (m_fl ((-51, ops) :: R)).length = ops.length + ((m_fl R).length + 1) := by rw [fl5, List.length_append, List.length_cons]
        unfold T_X5_closeBracket
        refine c_unwind (l := 1) ho (by omega) h16 w8 em w2 w7 w3 hng (by omega) hsz (fun M1 f1 em1 k2 k7 k3 => ?_)
        rw [heq] at em1 k2 k7 k3
        have k2 : M1 4 2 = nI ((m_fl R).length + 1) := k2
        have k4 : M1 4 4 = nI (m_br R + 1) := by rw [f1.2 4 (by decide) (by decide)]; exact w4
        rw [k2, nI_pred]
        rintro _ rfl _ rfl _ rfl
        have rule : q_nx 2 bg ((-51, ops) :: R) E G sg nu 2 bg (q_pk (-25) R (q_wk 1 ops E).2).1 (q_pk (-25) R (q_wk 1 ops E).2).2 G := Or.inr (Or.inr (Or.inr ⟨rfl, -51, ops, R, rfl, rfl, Or.inr (Or.inl ⟨eC, rfl, rfl, rfl, rfl, rfl⟩)⟩))
        have hx : (if (0 : Int32) < nI (m_fl R).length then nI (m_fl R).length else 0) = nI (m_fl R).length := by
          by_cases z : (0 : Int32) < nI (m_fl R).length
          · rw [if_pos z]
          · rw [if_neg z]
            rcases Nat.eq_zero_or_pos (m_fl R).length with y | y
            · rw [y]; rfl
            · exact absurd (nI_lt (a := 0) y (by omega)) z
        rw [hx]
        have s : ∀ (x y z : Int32) (j : Nat), j ≠ 2 → j ≠ 3 → j ≠ 4 → gx_up (gx_up (gx_up M1 4 2 x) 4 3 y) 4 4 z 4 j = M1 4 j := fun x y z j q1 q2 q3 => by rw [gu_eq, ub_ne q3, gu_eq, ub_ne q2, gu_eq, ub_ne q1]
        refine hN 2 bg _ _ G j' (q_wk 1 ops E).2 _ rule ⟨hH.kept ((f1.k).tr ((FrK.up _ (by omega)).tr ((FrK.up _ (by omega)).tr (FrK.up _ (by omega))))) ho, Or.inr ⟨by decide, ⟨em1.kept (by rw [gu_ne (by omega), gu_ne (by omega), gu_ne (by omega)]) (by rw [gu_ne (by omega), gu_ne (by omega), gu_ne (by omega)]) (by rw [gu_ne (by omega), gu_ne (by omega), gu_ne (by omega)]), b2, fun e => absurd rfl e⟩, ⟨?_, ?_, ?_, ?_⟩, ?_, ?_, ?_, ?_, ?_⟩⟩
        · rw [← b1, gu_eq, ub_ne (by decide), gu_eq, ub_ne (by decide), gu_eq, ub_eq]
        · rw [← b1, gu_ne (by decide), gu_ne (by decide), gu_ne (by decide)]; exact k7.2
        · rw [← b3, gu_eq, ub_ne (by decide), gu_eq, ub_eq, gu_eq, ub_ne (by decide), k3]; exact nI_pred _
        · rw [← b4, gu_eq, ub_eq, gu_eq, ub_ne (by decide), gu_eq, ub_ne (by decide), k4]; exact nI_pred _
        · rw [s _ _ _ 8 (by decide) (by decide) (by decide), f1.2 8 (by decide) (by decide)]; exact w8
        · rw [← b5, s _ _ _ 11 (by decide) (by decide) (by decide), f1.2 11 (by decide) (by decide)]; exact w11
        · rw [s _ _ _ 9 (by decide) (by decide) (by decide), f1.2 9 (by decide) (by decide)]; exact w9
        · intro e; cases e
        · intro e; cases e
    · refine qt (by rw [br0 e51]; decide) (t39 n1 (fun z => e51 z.2))
  · have hA := A_in yA
    obtain ⟨s1, s2, s3, s4⟩ := snA hA
    have hT : q_low (q_sn sg) (if k < 0 then k :: m_fl R else m_fl R) := by
      refine low_mono (l := 5) ?_ s1
      rcases hk with ⟨e1, rfl, -⟩ | ⟨e4, -, hR⟩ | ⟨eR, -, -⟩ | ⟨e51, -⟩
      · subst e1; intro c W e; cases e
      · subst e4; exact low_mono (low_E hR) (by omega)
      · rw [if_pos (R_neg eR).1]
        intro c W e
        injection e with e _
        rw [← e, snR eR]; decide
      · subst e51
        intro c W e
        have e : -51 :: m_fl R = c :: W := e
        injection e with e _
        rw [← e]; decide
    have heq := uw_arith (l := q_sn sg) (r := q_rk sg) (j := j) (op := q_op ((k, ops) :: R)) (ops := ops) (by omega) (fun c hc => by obtain ⟨c1, c2, c3, c4⟩ := snA (mA c hc); exact ⟨by omega, c4⟩) hT hE
    rw [← fl] at heq
    have lw := wk_len (q_rk sg) ops E
    have lA := (oA_mem (wk_oA E oA hA)).1
    rw [List.length_cons] at lA
    have lfl : (m_fl ((k, ops) :: R)).length = ops.length + (if k < 0 then k :: m_fl R else m_fl R).length := by rw [fl, List.length_append]
    refine c_awaitNext ho h16 w8 em w2 w7 w3 hng (by omega) hsz heq (by rw [List.length_append]; omega) (fun M7 f7 em7 k2 k7 k3 ks k9 k10 => ?_)
    have rule : q_nx 2 bg ((k, ops) :: R) E G sg nu 1 bg ((k, sg :: (q_wk (q_rk sg) ops E).1) :: R) (q_wk (q_rk sg) ops E).2 G := Or.inr (Or.inr (Or.inr ⟨rfl, k, ops, R, rfl, rfl, Or.inl ⟨hA, rfl, rfl, rfl, rfl⟩⟩))
    refine hN 1 bg _ _ G 0 (q_wk (q_rk sg) ops E).2 _ rule ⟨(hH.kept f7 ho).ph (by decide) (by decide), Or.inr ⟨by decide, ⟨em7, rfl, fun _ => rfl⟩, ⟨k2, k7, k3, ?_⟩, ?_, ?_, k9, ?_, ?_⟩⟩
    · rw [ks 4 (by decide) (by decide) (by decide) (by decide)]; exact w4
    · rw [ks 8 (by decide) (by decide) (by decide) (by decide)]; exact w8
    · rw [ks 11 (by decide) (by decide) (by decide) (by decide)]; exact w11
    · intro e; cases e
    · intro _; exact k10
