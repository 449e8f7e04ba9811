/-! what holds between two tokens goes on holding -/
theorem sA_of {bg : Bool} {ph : Nat} {S S0 : List q_F} {E : List Int32} {G : q_Gs} {p : Nat} (h : q_ok ph bg S E G p) (hS : (ph = 0 ∧ S0 = (4, []) :: S) ∨ (ph = 1 ∧ S0 = S)) : q_sA bg S0 ∧ q_tc E (q_Ty S0) ∧ m_fl S0 = m_fl S ∧ q_op S0 = q_op S ∧ m_br S0 = m_br S ∧ q_cp S0 = q_cp S := by
  obtain ⟨-, -, h⟩ := h
  rcases hS with ⟨rfl, rfl⟩ | ⟨rfl, rfl⟩
  · rcases h with ⟨e, -⟩ | ⟨-, hb, hS, ht⟩ | ⟨e, -⟩ | ⟨e, -⟩
    · cases e
    · exact ⟨⟨trivial, Or.inr (Or.inl ⟨Or.inl rfl, hb, hS⟩)⟩, ht, rfl, rfl, rfl, rfl⟩
    · cases e
    · cases e
  · rcases h with ⟨e, -⟩ | ⟨e, -⟩ | ⟨-, hS, ht⟩ | ⟨e, -⟩
    · cases e
    · cases e
    · exact ⟨hS, ht, rfl, rfl, rfl, rfl⟩
    · cases e
theorem ok_2 {bg : Bool} {S : List q_F} {E : List Int32} {G : q_Gs} {p : Nat} (h : q_ok 2 bg S E G p) : ∃ k ops R, S = (k, ops) :: R ∧ q_oA ops ∧ q_tc E (true :: (ops.map q_tyo ++ (if q_rel k = true then true :: q_Ty R else q_Ty R))) ∧ ((k = 1 ∧ R = [] ∧ bg = false) ∨ (k = 4 ∧ bg = true ∧ q_sE R) ∨ (q_isR k ∧ bg = true ∧ q_sE R) ∨ (k = -51 ∧ q_sA bg R)) := by
  obtain ⟨-, -, h⟩ := h
  rcases h with ⟨e, -⟩ | ⟨e, -⟩ | ⟨e, -⟩ | ⟨-, hS, hk, ht⟩
  · cases e
  · cases e
  · cases e
  · match S, hS, hk, ht with
    | (k, ops) :: R, hS, hk, ht =>
      refine ⟨k, ops, R, rfl, hS.1, ht, ?_⟩
      rcases hS.2 with z | ⟨y | y, z⟩ | z | ⟨z, -⟩
      · exact Or.inl z
      · exact Or.inr (Or.inl ⟨y, z⟩)
      · exact Or.inr (Or.inr (Or.inl ⟨y, z⟩))
      · exact Or.inr (Or.inr (Or.inr z))
      · exact absurd z (hk k ops R rfl)
theorem wf_new {b : Bool} {l : List Int32} {G : q_Gs} (h : q_wf G) (ht : q_tc l [!b]) (hl : l.length ≤ 300) (hh : b = false → q_hl G = false) : q_wf ((b, l) :: G) := by
  have := ps_bd ht
  exact ⟨ht, by simp at this; omega, fun e => hl_H (hh e), h⟩
theorem ok_nx {ph ph1 : Nat} {bg bg1 : Bool} {S S1 : List q_F} {E E1 : List Int32} {G G1 : q_Gs} {sg : Int32} {nu p p' : Nat} (h : q_ok ph bg S E G p) (hp : p < p') (hp3 : p' ≤ 300) (hn : q_nx ph bg S E G sg nu ph1 bg1 S1 E1 G1) : q_ok ph1 bg1 S1 E1 G1 p' := by
  have h0 := h
  obtain ⟨⟨hw, hg, ho, hs⟩, hb, hsh⟩ := h
  rcases hn with ⟨rfl, hG, rfl, rfl, hr⟩ | ⟨rfl, -, h8, rfl, rfl, rfl, rfl, rfl⟩ | ⟨S0, hS0, rfl, rfl, hr⟩ | ⟨rfl, k, ops, R, rfl, rfl, hr⟩
  · rw [if_pos rfl] at hs
    rcases hr with ⟨-, hh, rfl, rfl, rfl⟩ | ⟨-, rfl, rfl, rfl⟩
    · exact ⟨⟨hw, by rw [if_neg (by decide)]; exact hG, Nat.zero_le _, by rw [if_neg (by decide)]; simp [m_fl]; omega⟩, fun _ _ => hh, Or.inr (Or.inr (Or.inl ⟨rfl, ⟨trivial, Or.inl ⟨rfl, rfl, rfl⟩⟩, rfl⟩))⟩
    · exact ⟨⟨hw, by rw [if_neg (by decide)]; exact hG, Nat.zero_le _, by rw [if_neg (by decide)]; simp [m_fl]; omega⟩, fun e _ => absurd e (by decide), Or.inr (Or.inl ⟨rfl, rfl, Or.inl ⟨rfl, rfl, trivial⟩, rfl⟩)⟩
  · rw [if_neg (by decide)] at hs hg
    rcases hsh with ⟨e, -⟩ | ⟨-, hbg, hS, ht⟩ | ⟨e, -⟩ | ⟨e, -⟩
    · cases e
    · have e1 : q_op ((-41, []) :: S) = q_op S + 1 := rfl
      have e2 : m_fl ((-41, []) :: S) = -41 :: m_fl S := rfl
      exact ⟨⟨hw, by rw [if_neg (by decide)]; exact hg, by omega, by rw [if_neg (by decide), e2, List.length_cons]; omega⟩, hb, Or.inr (Or.inl ⟨rfl, hbg, Or.inr ⟨rfl, rfl, hS⟩, ht⟩)⟩
    · cases e
    · cases e
  · obtain ⟨sA, tE, f1, f2, f3, f4⟩ := sA_of h0 hS0
    have ph4 : ph ≠ 4 := by rcases hS0 with ⟨e, -⟩ | ⟨e, -⟩ <;> omega
    rw [if_neg ph4] at hs hg
    rcases hr with ⟨v, hv, rfl, rfl, rfl⟩ | ⟨k, hk, h8, rfl, rfl, rfl⟩
    · have hP : q_isP v := by
        rcases hv with ⟨-, hn, rfl⟩ | ⟨hv, rfl⟩
        · exact Or.inl ⟨nI_pos' (by omega), nI_le (b := 9999) hn (by omega)⟩
        · exact Or.inr hv
      obtain ⟨a1, a2, a3, j, b1, b2, b3, b4, b5⟩ := pk25 S0 (v :: E) sA ⟨_, tE, Or.inl ⟨hP, rfl⟩⟩
      have l1 := congrArg List.length b1
      have l2 := congrArg List.length b2
      rw [List.length_append, List.length_replicate] at l1 l2
      rw [f1] at l1
      rw [List.length_cons] at l2
      refine ⟨⟨hw, by rw [if_neg (by decide)]; exact hg, by omega, by rw [if_neg (by decide)]; omega⟩, fun e _ => hb e ph4, Or.inr (Or.inr (Or.inr ⟨rfl, a1, fun k ops R e => ?_, a3⟩))⟩
      obtain ⟨k', ops', R', e', hk'⟩ := a2
      rw [e'] at e
      injection e with e _
      injection e with e _
      rw [← e]; exact hk'
    · have e1 : q_op ((k, []) :: S0) = q_op S0 + 1 := by
        rcases hk with ⟨-, rfl⟩ | ⟨-, rfl⟩ <;> rfl
      have e2 : m_fl ((k, []) :: S0) = k :: m_fl S0 := by
        rcases hk with ⟨-, rfl⟩ | ⟨-, rfl⟩ <;> rfl
      have e3 : q_Ty ((k, []) :: S0) = q_Ty S0 := by
        rcases hk with ⟨-, rfl⟩ | ⟨-, rfl⟩ <;> rfl
      refine ⟨⟨hw, by rw [if_neg (by decide)]; exact hg, by omega, by rw [if_neg (by decide), e2, List.length_cons, f1]; omega⟩, fun e _ => hb e ph4, Or.inr (Or.inr (Or.inl ⟨rfl, ⟨trivial, ?_⟩, by rw [e3]; exact tE⟩))⟩
      rcases hk with ⟨-, rfl⟩ | ⟨-, rfl⟩
      · exact Or.inr (Or.inr (Or.inl ⟨rfl, sA⟩))
      · exact Or.inr (Or.inr (Or.inr ⟨rfl, rfl, sA⟩))
  · obtain ⟨k', ops', R', e, oA, tE, hk⟩ := ok_2 h0
    injection e with e e3
    injection e with e1 e2
    subst e1 e2 e3
    rw [if_neg (by decide)] at hs hg
    obtain ⟨m2, mA⟩ := oA_mem oA
    have fl : m_fl ((k, ops) :: R) = ops ++ (if k < 0 then k :: m_fl R else m_fl R) := rfl
    rw [fl, List.length_append] at hs
    have op : q_op ((k, ops) :: R) = q_op R + (if k = -41 ∨ k = -51 ∨ k = -25 then 1 else 0) := rfl
    rw [op] at ho
    have l1 : (q_wk 1 ops E).2.length = ops.length + E.length := len_app (E1 := []) (wk_1 ops E)
    have t1 := wk_A (r := 1) ops E mA tE
    rw [wk_1, List.map_nil, List.nil_append] at t1
    rcases hr with ⟨hA, rfl, rfl, rfl, rfl⟩ | ⟨-, rfl, rfl, rfl, rfl, rfl⟩ | ⟨hR, rfl, rfl, rfl, rfl, rfl⟩ | ⟨hB, hR, rfl, rfl, ops2, E2, e2, rfl, rfl⟩ | ⟨-, rfl, rfl, rfl, rfl, rfl⟩ | ⟨-, hR, rfl, rfl, rfl, ops2, E2, e2, rfl⟩
    · have lw := wk_len (q_rk sg) ops E
      have tw := wk_A (r := q_rk sg) ops E mA tE
      have fl1 : m_fl ((k, sg :: (q_wk (q_rk sg) ops E).1) :: R) = sg :: ((q_wk (q_rk sg) ops E).1 ++ (if k < 0 then k :: m_fl R else m_fl R)) := rfl
      have ty1 : q_Ty ((k, sg :: (q_wk (q_rk sg) ops E).1) :: R) = true :: ((q_wk (q_rk sg) ops E).1.map q_tyo ++ (if q_rel k = true then true :: q_Ty R else q_Ty R)) := by
        show q_tyo sg :: _ = _
        rw [ty_A hA]; rfl
      refine ⟨⟨hw, by rw [if_neg (by decide)]; exact hg, ho, by rw [if_neg (by decide), fl1, List.length_cons, List.length_append]; omega⟩, fun e _ => hb e (by decide), Or.inr (Or.inr (Or.inl ⟨rfl, ⟨wk_oA E oA hA, ?_⟩, by rw [ty1]; exact tw⟩))⟩
      rcases hk with z | ⟨y, z⟩ | ⟨y, z⟩ | z
      · exact Or.inl z
      · exact Or.inr (Or.inl ⟨Or.inl y, z⟩)
      · exact Or.inr (Or.inl ⟨Or.inr y, z⟩)
      · exact Or.inr (Or.inr (Or.inl z))
    · rcases hk with ⟨z, -⟩ | ⟨z, -⟩ | ⟨z, -⟩ | ⟨-, hR⟩
      · exact absurd z (by decide)
      · exact absurd z (by decide)
      · exact absurd z (by unfold q_isR; decide)
      · have t1 : q_tc (q_wk 1 ops E).2 (true :: q_Ty R) := t1
        obtain ⟨a1, a2, a3, j, b1, b2, b3, b4, b5⟩ := pk25 R (q_wk 1 ops E).2 hR t1
        have la := congrArg List.length b1
        have lb := congrArg List.length b2
        rw [List.length_append, List.length_replicate] at la lb
        have eif : (if (-51 : Int32) < 0 then -51 :: m_fl R else m_fl R) = -51 :: m_fl R := if_pos (by decide)
        rw [eif, List.length_cons] at hs
        refine ⟨⟨hw, by rw [if_neg (by decide)]; exact hg, by omega, by rw [if_neg (by decide)]; omega⟩, fun e _ => hb e (by decide), Or.inr (Or.inr (Or.inr ⟨rfl, a1, fun k ops R e => ?_, a3⟩))⟩
        obtain ⟨k', ops', R', e', hk'⟩ := a2
        rw [e'] at e
        injection e with e _
        injection e with e _
        rw [← e]; exact hk'
    · rcases hk with ⟨z, -⟩ | ⟨-, hbg, hE⟩ | ⟨z, -⟩ | ⟨z, -⟩
      · exact absurd z (by decide)
      · have t1 : q_tc (q_wk 1 ops E).2 (true :: q_Ty R) := t1
        have hn := R_neg hR
        have e2 : m_fl ((sg, []) :: R) = sg :: m_fl R := by
          show [] ++ (if sg < 0 then sg :: m_fl R else m_fl R) = _
          rw [if_pos hn.1]; rfl
        have e3 : q_Ty ((sg, []) :: R) = true :: q_Ty R := by
          show [] ++ (if q_rel sg = true then true :: q_Ty R else q_Ty R) = _
          rw [if_pos (rel_R hR)]; rfl
        have e4 : q_op ((sg, []) :: R) = q_op R := by
          show q_op R + (if sg = -41 ∨ sg = -51 ∨ sg = -25 then 1 else 0) = _
          rw [if_neg hn.2.1, Nat.add_zero]
        have eif : (if (4 : Int32) < 0 then 4 :: m_fl R else m_fl R) = m_fl R := if_neg (by decide)
        rw [eif] at hs
        refine ⟨⟨hw, by rw [if_neg (by decide)]; exact hg, by omega, by rw [if_neg (by decide), e2, List.length_cons]; omega⟩, fun e _ => hb e (by decide), Or.inr (Or.inr (Or.inl ⟨rfl, ⟨trivial, Or.inr (Or.inl ⟨Or.inr hR, hbg, hE⟩)⟩, by rw [e3]; exact t1⟩))⟩
      · exact absurd z (by unfold q_isR; decide)
      · exact absurd z (by decide)
    · have hn := R_neg hR
      rcases hk with ⟨z, -⟩ | ⟨z, -⟩ | ⟨-, hbg, hE⟩ | ⟨z, -⟩
      · exact absurd z hn.2.2.2.1
      · exact absurd z hn.2.2.2.2.1
      · rw [if_pos (rel_R hR)] at t1
        obtain ⟨o2, E2', j, c1, c2, c3, c4, c5, c6, c7, c8⟩ := pk41 R (k :: (q_wk 1 ops E).2) hE ⟨_, t1, Or.inr (Or.inr (Or.inr (Or.inr (Or.inl ⟨hR, _, rfl, rfl⟩))))⟩
        rw [e2] at c1
        injection c1 with c1 c1'
        injection c1 with c1 _
        injection c1 with _ c1
        subst c1 c1'
        obtain ⟨n2, mB⟩ := oB_mem c2
        have la := congrArg List.length c4
        have lb := congrArg List.length c5
        rw [List.length_append, List.length_replicate] at la lb
        rw [List.length_cons] at lb
        rw [if_pos hn.1, List.length_cons] at hs
        have lw := wk_len (q_rk sg) ops2 E2
        have c3 : q_tc E2 (false :: (ops2.map q_tyo ++ [])) := c3
        have tw := wk_B (r := q_rk sg) ops2 E2 mB c3
        have fl1 : m_fl [(2, sg :: (q_wk (q_rk sg) ops2 E2).1)] = sg :: ((q_wk (q_rk sg) ops2 E2).1 ++ []) := rfl
        have ty1 : q_Ty [(2, sg :: (q_wk (q_rk sg) ops2 E2).1)] = false :: ((q_wk (q_rk sg) ops2 E2).1.map q_tyo ++ []) := by
          show q_tyo sg :: _ = _
          rw [ty_B hB]; rfl
        refine ⟨⟨hw, by rw [if_neg (by decide)]; exact hg, Nat.zero_le _, by rw [if_neg (by decide), fl1, List.length_cons, List.append_nil]; omega⟩, fun e _ => hb e (by decide), Or.inr (Or.inl ⟨rfl, hbg, Or.inl ⟨rfl, rfl, wk_oB E2 c2 hB⟩, by rw [ty1]; exact tw⟩)⟩
      · exact absurd z hn.2.2.1
    · rcases hk with ⟨-, rfl, rfl⟩ | ⟨z, -⟩ | ⟨z, -⟩ | ⟨z, -⟩
      · have t1 : q_tc (q_wk 1 ops E).2 [true] := t1
        have eif : (if (1 : Int32) < 0 then 1 :: m_fl [] else m_fl []) = [] := if_neg (by decide)
        rw [eif, List.length_nil] at hs
        have gl : q_len ((false, (q_wk 1 ops E).2) :: G) = q_len G + (q_wk 1 ops E).2.length + 1 := rfl
        refine ⟨⟨wf_new hw t1 (by omega) (fun _ => hb rfl (by decide)), by rw [if_pos rfl, List.length_cons]; omega, Nat.zero_le _, ?_⟩, fun _ e => absurd rfl e, Or.inl ⟨rfl, rfl, rfl⟩⟩
        rw [if_pos rfl, gl]
        show q_len G + (q_wk 1 ops E).2.length + 1 + 0 + 0 + 0 ≤ p'
        omega
      · exact absurd z (by decide)
      · exact absurd z (by unfold q_isR; decide)
      · exact absurd z (by decide)
    · have hn := R_neg hR
      rcases hk with ⟨z, -⟩ | ⟨z, -⟩ | ⟨-, hbg, hE⟩ | ⟨z, -⟩
      · exact absurd z hn.2.2.2.1
      · exact absurd z hn.2.2.2.2.1
      · rw [if_pos (rel_R hR)] at t1
        obtain ⟨o2, E2', j, c1, c2, c3, c4, c5, c6, c7, c8⟩ := pk41 R (k :: (q_wk 1 ops E).2) hE ⟨_, t1, Or.inr (Or.inr (Or.inr (Or.inr (Or.inl ⟨hR, _, rfl, rfl⟩))))⟩
        rw [e2] at c1
        injection c1 with c1 c1'
        injection c1 with c1 _
        injection c1 with _ c1
        subst c1 c1'
        obtain ⟨n2, mB⟩ := oB_mem c2
        have la := congrArg List.length c4
        have lb := congrArg List.length c5
        rw [List.length_append, List.length_replicate] at la lb
        rw [List.length_cons] at lb
        rw [if_pos hn.1, List.length_cons] at hs
        have lw : (q_wk 1 ops2 E2).2.length = ops2.length + E2.length := len_app (E1 := []) (wk_1 ops2 E2)
        have c3 : q_tc E2 (false :: (ops2.map q_tyo ++ [])) := c3
        have tw := wk_B (r := 1) ops2 E2 mB c3
        rw [wk_1] at tw
        have tw : q_tc (q_wk 1 ops2 E2).2 [false] := tw
        have gl : q_len ((true, (q_wk 1 ops2 E2).2) :: G) = q_len G + (q_wk 1 ops2 E2).2.length + 1 := rfl
        refine ⟨⟨wf_new hw tw (by omega) (fun e => absurd e (by decide)), by rw [if_pos rfl, List.length_cons]; omega, Nat.zero_le _, ?_⟩, fun _ e => absurd rfl e, Or.inl ⟨rfl, rfl, rfl⟩⟩
        rw [if_pos rfl, gl]
        show q_len G + (q_wk 1 ops2 E2).2.length + 1 + 0 + 0 + 0 ≤ p'
        omega
      · exact absurd z hn.2.2.1
