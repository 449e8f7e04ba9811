/-! texts: clauses, the latest first (true: begin, false: hold) -/
def q_B : List (Bool × List Int32) → List Int32
  | [] => []
  | (true, l) :: G => match q_B G with
    | [] => l
    | c :: r => -43 :: (l ++ (c :: r))
  | (false, _) :: G => q_B G
def q_H : List (Bool × List Int32) → List Int32
  | [] => []
  | (true, _) :: G => q_H G
  | (false, l) :: G => l ++ q_H G
def q_wf : List (Bool × List Int32) → Prop
  | [] => True
  | (b, l) :: G => q_tc l [!b] ∧ q_ps l ≤ 190 ∧ (b = false → q_H G = []) ∧ q_wf G
def q_v (w : Nat → Int32) (l : List Int32) : Int := (q_ev w l).headD 0
def q_some (w : Nat → Int32) : List (Bool × List Int32) → Bool
  | [] => false
  | (true, l) :: G => decide (0 < q_v w l) || q_some w G
  | (false, _) :: G => q_some w G
def q_asks : List (Bool × List Int32) → Bool
  | [] => false
  | (b, _) :: G => b || q_asks G
def q_trig (w : Nat → Int32) (G : List (Bool × List Int32)) : Bool := q_some w G || !q_asks G
def q_hv (w : Nat → Int32) : List (Bool × List Int32) → Int
  | [] => 0
  | (false, l) :: _ => q_v w l
  | (true, _) :: G => q_hv w G
def q_clamp (v : Int) : Nat := if v < 0 then 0 else if 9999 < v then 9999 else v.toNat
theorem q_one {w : Nat → Int32} {l : List Int32} {b : Bool} (hw : q_wd w) (h : q_tc l [b]) : q_ev w l = [q_v w l] ∧ q_ty b (q_v w l) := by
  obtain ⟨v, r, e, hv, hr⟩ := q_ev_ty hw h
  rw [show r = [] from hr] at e
  unfold q_v
  rw [e]
  exact ⟨rfl, hv⟩
theorem q_st_app {w : Nat → Int32} {c : Int32} {S T : List Bool} {V X : List Int} (h : q_ts c S T) (hV : q_tys S V) : q_st w c (V ++ X) = q_st w c V ++ X := by
  rcases h with ⟨hc, rfl⟩ | ⟨rfl, r, rfl, rfl⟩ | ⟨rfl, r, rfl, rfl⟩ | ⟨hc, r, rfl, rfl⟩ | ⟨hc, r, rfl, rfl⟩ | ⟨hc, r, rfl, rfl⟩
  · unfold q_st
    rw [if_pos (isP_ge hc), if_pos (isP_ge hc)]; rfl
  · obtain ⟨v, V2, rfl, -⟩ := hV; rfl
  · obtain ⟨v, V2, rfl, -⟩ := hV; rfl
  · obtain ⟨v, V2, rfl, -, vv, V3, rfl, -⟩ := hV
    rw [q_st2 (isA_lt hc)]; exact q_st2 (isA_lt hc)
  · obtain ⟨v, V2, rfl, -, vv, V3, rfl, -⟩ := hV
    rw [q_st2 (isR_lt hc)]; exact q_st2 (isR_lt hc)
  · obtain ⟨v, V2, rfl, -, vv, V3, rfl, -⟩ := hV
    rw [q_st2 (isB_lt hc)]; exact q_st2 (isB_lt hc)
theorem q_ev_app {w : Nat → Int32} {l B : List Int32} {T : List Bool} (hw : q_wd w) (h : q_tc l T) : q_ev w (l ++ B) = q_ev w l ++ q_ev w B := by
  induction l generalizing T with
  | nil => rfl
  | cons c l ih =>
    obtain ⟨S, h1, h2⟩ := h
    show q_st w c (q_ev w (l ++ B)) = q_st w c (q_ev w l) ++ q_ev w B
    rw [ih h1]
    exact q_st_app h2 (q_ev_ty hw h1)
theorem q_ts_app {c : Int32} {S T X : List Bool} (h : q_ts c S T) : q_ts c (S ++ X) (T ++ X) := by
  rcases h with ⟨hc, rfl⟩ | ⟨rfl, r, rfl, rfl⟩ | ⟨rfl, r, rfl, rfl⟩ | ⟨hc, r, rfl, rfl⟩ | ⟨hc, r, rfl, rfl⟩ | ⟨hc, r, rfl, rfl⟩
  · exact Or.inl ⟨hc, rfl⟩
  · exact Or.inr (Or.inl ⟨rfl, r ++ X, rfl, rfl⟩)
  · exact Or.inr (Or.inr (Or.inl ⟨rfl, r ++ X, rfl, rfl⟩))
  · exact Or.inr (Or.inr (Or.inr (Or.inl ⟨hc, r ++ X, rfl, rfl⟩)))
  · exact Or.inr (Or.inr (Or.inr (Or.inr (Or.inl ⟨hc, r ++ X, rfl, rfl⟩))))
  · exact Or.inr (Or.inr (Or.inr (Or.inr (Or.inr ⟨hc, r ++ X, rfl, rfl⟩))))
theorem q_tc_app {l B : List Int32} {T S : List Bool} (hB : q_tc B S) (h : q_tc l T) : q_tc (l ++ B) (T ++ S) := by
  induction l generalizing T with
  | nil => rw [show T = [] from h]; exact hB
  | cons c l ih =>
    obtain ⟨S1, h1, h2⟩ := h
    exact ⟨S1 ++ S, ih h1, q_ts_app h2⟩
theorem q_tc_ne {l : List Int32} {b : Bool} (h : q_tc l [b]) : l ≠ [] := fun e => by rw [e] at h; cases h
theorem q_B_spec {w : Nat → Int32} {G : List (Bool × List Int32)} (hw : q_wd w) (h : q_wf G) : (q_asks G = true → q_B G ≠ [] ∧ q_tc (q_B G) [false] ∧ q_ev w (q_B G) = [if q_some w G = true then 1 else 0]) ∧ (q_asks G = false → q_B G = [] ∧ q_some w G = false) := by
  induction G with
  | nil => exact ⟨(fun e => by cases e), fun _ => ⟨rfl, rfl⟩⟩
  | cons g G ih =>
    obtain ⟨b, l⟩ := g
    obtain ⟨h1, -, -, h4⟩ := h
    have i := ih h4
    cases b with
    | false => exact i
    | true =>
      refine ⟨fun _ => ?_, fun e => by cases e⟩
      obtain ⟨e1, e2⟩ := q_one hw h1
      have e2 : q_v w l = 0 ∨ q_v w l = 1 := e2
      cases ha : q_asks G with
      | false =>
        obtain ⟨i1, i2⟩ := i.2 ha
        have eB : q_B ((true, l) :: G) = l := by show (match q_B G with | [] => l | c :: r => -43 :: (l ++ (c :: r))) = l; rw [i1]
        rw [eB]
        refine ⟨q_tc_ne h1, h1, ?_⟩
        rw [e1]
        show _ = [if (decide (0 < q_v w l) || q_some w G) = true then (1 : Int) else 0]
        rw [i2]
        rcases e2 with e | e <;> rw [e] <;> rfl
      | true =>
        obtain ⟨i0, i1, i2⟩ := i.1 ha
        have eB : q_B ((true, l) :: G) = -43 :: (l ++ q_B G) := by
          show (match q_B G with | [] => l | c :: r => -43 :: (l ++ (c :: r))) = _
          cases hq : q_B G with
          | nil => exact absurd hq i0
          | cons c r => rfl
        rw [eB]
        refine ⟨by simp, ⟨_, q_tc_app i1 h1, Or.inr (Or.inr (Or.inr (Or.inr (Or.inr ⟨Or.inr rfl, [], rfl, rfl⟩))))⟩, ?_⟩
        show q_st w (-43) (q_ev w (l ++ q_B G)) = _
        rw [q_ev_app hw h1, e1, i2]
        show [if (if q_some w G = true then (1 : Int) else 0) + q_v w l ≤ 0 then (0 : Int) else 1] = [if (decide (0 < q_v w l) || q_some w G) = true then (1 : Int) else 0]
        cases hs : q_some w G <;> rcases e2 with e | e <;> rw [e] <;> rfl
theorem q_H_spec {w : Nat → Int32} {G : List (Bool × List Int32)} (hw : q_wd w) (h : q_wf G) : (q_H G = [] → q_hv w G = 0) ∧ (q_H G ≠ [] → q_tc (q_H G) [true] ∧ q_ps (q_H G) ≤ 190 ∧ q_ev w (q_H G) = [q_hv w G]) := by
  induction G with
  | nil => exact ⟨fun _ => rfl, fun e => absurd rfl e⟩
  | cons g G ih =>
    obtain ⟨b, l⟩ := g
    obtain ⟨h1, h2, h3, h4⟩ := h
    have i := ih h4
    cases b with
    | true => exact i
    | false =>
      have e : q_H ((false, l) :: G) = l := by show l ++ q_H G = l; rw [h3 rfl, List.append_nil]
      rw [e]
      exact ⟨fun q => absurd q (q_tc_ne h1), fun _ => ⟨h1, h2, (q_one hw h1).1⟩⟩
/-- how many orders the reference has for these clauses -/
def q_len : List (Bool × List Int32) → Nat
  | [] => 0
  | (_, l) :: G => q_len G + l.length + 1
def q_ref (N : gx_M) (t : Nat) : List (Bool × List Int32) → Prop
  | [] => True
  | (b, l) :: G => N 5 (10 * t + G.length) = (if b = true then 1 else 0) ∧ N 6 (10 * t + G.length) = nI (400 * t + q_len G) ∧ q_orow N (400 * t + q_len G) l ∧ N 7 (400 * t + q_len G + l.length) = 408 ∧ q_ref N t G
def q_rp (N : gx_M) (t : Nat) (G : List (Bool × List Int32)) : Prop := N 4 t = nI G.length ∧ G.length ≤ 10 ∧ q_len G ≤ 400 ∧ q_ref N t G
def q_pc (M : gx_M) (o : Nat) (G : List (Bool × List Int32)) : Prop :=
  M o 2 = nI (q_B G).length ∧ M o 3 = nI (q_H G).length ∧ q_row (M (6 + o)) (q_B G) ∧ q_row (M (12 + o)) (q_H G) ∧ (q_B G).length ≤ 300 ∧ (q_H G).length ≤ 300 ∧ q_ps (q_B G) ≤ 290
/-- the text that is told: none, or one of those that both sides have -/
def q_rc (N : gx_M) (tx : Int32) (G : List (Bool × List Int32)) : Prop := (tx = -1 ∧ G = []) ∨ ∃ t, t < 4 ∧ tx = nI t ∧ q_rp N t G
def q_cc (M : gx_M) (tx : Int32) (G : List (Bool × List Int32)) : Prop := (tx = -1 ∧ G = [] ∧ q_pc M 20 []) ∨ ∃ t, t < 4 ∧ tx = nI t ∧ q_pc M (16 + t) G
theorem q_ref_drop {N : gx_M} {t : Nat} {G : List (Bool × List Int32)} (h : q_ref N t G) (m : Nat) : q_ref N t (G.drop m) := by
  induction m generalizing G with
  | zero => exact h
  | succ m ih =>
    cases G with
    | nil => exact h
    | cons c l => exact ih h.2.2.2.2
theorem q_wf_drop {G : List (Bool × List Int32)} (h : q_wf G) (m : Nat) : q_wf (G.drop m) := by
  induction m generalizing G with
  | zero => exact h
  | succ m ih =>
    cases G with
    | nil => exact h
    | cons c l => exact ih h.2.2.2
theorem q_len_drop (G : List (Bool × List Int32)) (m : Nat) : q_len (G.drop m) ≤ q_len G := by
  induction m generalizing G with
  | zero => exact Nat.le_refl _
  | succ m ih =>
    cases G with
    | nil => exact Nat.le_refl _
    | cons c l => exact Nat.le_trans (ih l) (by show q_len l ≤ q_len l + c.2.length + 1; omega)
theorem q_ref_cong {N N' : gx_M} {t : Nat} {G : List (Bool × List Int32)} (h : q_ref N t G) (h5 : ∀ k, k < G.length → N' 5 (10 * t + k) = N 5 (10 * t + k)) (h6 : ∀ k, k < G.length → N' 6 (10 * t + k) = N 6 (10 * t + k)) (h7 : ∀ k, 400 * t ≤ k → k < 400 * t + q_len G → N' 7 k = N 7 k ∧ N' 8 k = N 8 k) : q_ref N' t G := by
  induction G with
  | nil => trivial
  | cons g G ih =>
    obtain ⟨b, l⟩ := g
    obtain ⟨a1, a2, a3, a4, a5⟩ := h
    have e : q_len ((b, l) :: G) = q_len G + l.length + 1 := rfl
    refine ⟨(h5 _ (by simp)).trans a1, (h6 _ (by simp)).trans a2, q_orow_cong a3 (fun k hk hb => h7 k (by omega) (by omega)), ((h7 _ (by omega) (by omega)).1).trans a4, ih a5 (fun k hk => h5 k (by simp; omega)) (fun k hk => h6 k (by simp; omega)) (fun k hk hb => h7 k hk (by omega))⟩
def b2i (b : Bool) : Int32 := if b = true then 1 else 0
theorem n_triggers {N : gx_M} {w : Nat → Int32} {G : List (Bool × List Int32)} {Q : Int32 → gx_M → Prop} (hp : q_rc N (N 1 1) G) (hg : q_wf G) (ha : ∀ i, i < 7 → N 18 i = w i) (hw : q_wd w)
    (h : ∀ N' : gx_M, (∀ o, o ≠ 19 → N' o = N o) → Q (b2i (q_trig w G)) N') : T_X11_triggers N Q := by
  unfold T_X11_triggers
  refine ⟨by unfold vp_in; decide, ?_⟩
  rintro _ rfl
  have fin : ∀ N' : gx_M, (∀ o, o ≠ 19 → N' o = N o) → T_X11_triggers_85 Q N' (b2i (q_some w G)) (b2i (q_asks G)) := by
    intro N' hf
    have hh := h N' hf
    unfold T_X11_triggers_85 T_X11_triggers_93
    unfold q_trig at hh
    cases hs : q_some w G <;> cases hk : q_asks G <;> rw [hs, hk] at hh <;> exact hh
  have z1 : (1 : Int32).toNatClampNeg = 1 := rfl
  rw [z1]
  rcases hp with ⟨ht, rfl⟩ | ⟨t, ht, hx, h4, hG, hL, href⟩
  · refine ⟨1, ?_⟩
    unfold T_X11_triggers_14
    exact qt ht (fin N (fun _ _ => rfl))
  · have key : ∀ m, m ≤ G.length → ∀ N' : gx_M, (∀ o, o ≠ 19 → N' o = N o) → T_X11_triggers_14 Q (fun M8 v2_6 v3_7 => T_X11_triggers_85 Q M8 v2_6 v3_7) (m + 1) N' (nI t) (b2i (q_some w (G.drop m))) (b2i (q_asks (G.drop m))) (nI (G.length - m)) := by
      intro m
      induction m with
      | zero =>
        intro _ N' hf
        unfold T_X11_triggers_14
        refine qf (fun e => absurd (e ▸ nI_pos' (n := t) (by omega) : (0 : Int32) ≤ -1) (by decide)) ⟨vp_in_nI ht (by omega), ?_⟩
        rw [nI_clamp (by omega), hf 4 (by decide), h4]
        exact qt (nI_le (by omega) (by omega)) (fin N' hf)
      | succ m ih =>
        intro hm N' hf
        have hd : G.drop m = G[m] :: G.drop (m + 1) := List.drop_eq_getElem_cons (by omega)
        have hlen : (G.drop (m + 1)).length = G.length - (m + 1) := List.length_drop
        have hrow := q_ref_drop href m
        have hwf := q_wf_drop hg m
        have hln := q_len_drop G m
        rw [hd] at hrow hwf hln
        unfold T_X11_triggers_14
        refine qf (fun e => absurd (e ▸ nI_pos' (n := t) (by omega) : (0 : Int32) ≤ -1) (by decide)) ⟨vp_in_nI ht (by omega), ?_⟩
        have ihm := fun N' hf => ih (by omega) N' hf
        rw [hd] at ihm
        generalize G[m] = g at hrow hwf hln ihm
        obtain ⟨b, l⟩ := g
        obtain ⟨a1, a2, a3, a4, -⟩ := hrow
        obtain ⟨b1, b2, -, -⟩ := hwf
        have hln : q_len (G.drop (m + 1)) + l.length + 1 ≤ q_len G := hln
        rw [hlen] at a1 a2
        rw [nI_clamp (by omega), hf 4 (by decide), h4]
        refine qf (nI_ge (by omega) (by omega)) ?_
        simp (disch := omega) only [lit, nI_add, nI_clamp, vp_in_nI, true_and, pk_mul]
        rw [hf 5 (by decide), hf 6 (by decide), a1]
        have step : ∀ (v2 v3 : Int32) (N2 : gx_M), (∀ o, o ≠ 19 → N2 o = N o) → v2 = b2i (q_some w ((b, l) :: G.drop (m + 1))) → v3 = b2i (q_asks ((b, l) :: G.drop (m + 1))) → T_X11_triggers_79 Q (T_X11_triggers_14 Q (fun M8 v2_6 v3_7 => T_X11_triggers_85 Q M8 v2_6 v3_7) (m + 1)) N2 (nI t) v2 v3 (nI (G.length - (m + 1))) := by
          intro v2 v3 N2 h2 e2 e3
          unfold T_X11_triggers_79
          rintro _ rfl
          rw [e2, e3, lit, nI_add, show G.length - (m + 1) + 1 = G.length - m by omega]
          exact ihm N2 h2
        cases b with
        | false => exact qf (by decide) (step _ _ N' hf rfl rfl)
        | true =>
          refine qt rfl ?_
          unfold T_X11_triggers_73 T_X11_triggers_78
          refine qc (fun e => ?_) (fun e => step _ _ N' hf ?_ rfl)
          · rw [a2]
            have e0 : q_some w (G.drop (m + 1)) = false := by
              cases hs : q_some w (G.drop (m + 1)) with
              | false => rfl
              | true => rw [hs] at e; exact absurd e (by decide)
            refine n_tells (base := 400 * t + q_len (G.drop (m + 1))) (q_orow_cong a3 (fun k _ _ => by rw [hf 7 (by decide), hf 8 (by decide)]; exact ⟨rfl, rfl⟩)) (by rw [hf 7 (by decide)]; exact a4) (by omega) (fun i hi => by rw [hf 18 (by decide)]; exact ha i hi) hw b1 b2 (q_one hw b1).1 (fun N2 r h2 hr => ?_)
            have h2' : ∀ o, o ≠ 19 → N2 o = N o := fun o ho => (h2 o ho).trans (hf o ho)
            refine qc (fun c => step _ _ N2 h2' ?_ rfl) (fun c => step _ _ N2 h2' ?_ rfl)
            · have c := ll.mp c
              rw [hr, show (nI 0 : Int32) = 0 from rfl] at *
              have c : q_v w l ≤ 0 := c
              show _ = b2i (decide (0 < q_v w l) || q_some w (G.drop (m + 1)))
              rw [e0, decide_eq_false (by omega)]; rfl
            · have c : ¬ r.toInt ≤ 0 := fun q => c (ll.mpr q)
              rw [hr] at c
              show _ = b2i (decide (0 < q_v w l) || q_some w (G.drop (m + 1)))
              rw [decide_eq_true (by omega)]; rfl
          · show _ = b2i (decide (0 < q_v w l) || q_some w (G.drop (m + 1)))
            have e0 : q_some w (G.drop (m + 1)) = true := by
              cases hs : q_some w (G.drop (m + 1)) with
              | true => rfl
              | false => rw [hs] at e; exact absurd rfl e
            rw [e0, Bool.or_true]; rfl
    have k0 := key G.length (Nat.le_refl _) N (fun _ _ => rfl)
    rw [List.drop_length, Nat.sub_self] at k0
    rw [hx]
    exact ⟨G.length + 1, k0⟩
theorem n_hold {N : gx_M} {w : Nat → Int32} {G : List (Bool × List Int32)} {Q : Int32 → gx_M → Prop} (hp : q_rc N (N 1 1) G) (hg : q_wf G) (ha : ∀ i, i < 7 → N 18 i = w i) (hw : q_wd w)
    (h : ∀ N' : gx_M, (∀ o, o ≠ 19 → N' o = N o) → Q (nI (q_clamp (q_hv w G))) N') : T_X11_hold N Q := by
  unfold T_X11_hold
  refine ⟨by unfold vp_in; decide, ?_⟩
  rintro _ rfl
  have fin : ∀ (N' : gx_M) (v : Int64), (∀ o, o ≠ 19 → N' o = N o) → v.toInt = q_hv w G → T_X11_hold_70 Q N' v := by
    intro N' v hf hv
    have hh := h N' hf
    unfold T_X11_hold_70
    unfold q_clamp at hh
    rw [← hv] at hh
    have z0 : (0 : Int64).toInt = 0 := rfl
    have z9 : (9999 : Int64).toInt = 9999 := rfl
    refine qc (fun c => qc (fun c2 => ?_) (fun c2 => ?_)) (fun c => ?_)
    · have c := ll.mp c
      have c2 := ll.mp c2
      rw [if_neg (by omega), if_neg (by omega)] at hh
      have e : v.toInt32 = nI v.toInt.toNat := Int32.toInt_inj.mp (by
        rw [nI_toInt (by omega), Int64.toInt_toInt32, Int.toNat_of_nonneg (by omega)]
        exact Int.bmod_eq_of_le (by omega) (by omega))
      rw [e]; exact hh
    · have c := ll.mp c
      have c2 : ¬ v.toInt ≤ (9999 : Int64).toInt := fun q => c2 (ll.mpr q)
      rw [if_neg (by omega), if_pos (by omega)] at hh; exact hh
    · have c : ¬ (0 : Int64).toInt ≤ v.toInt := fun q => c (ll.mpr q)
      rw [if_pos (by omega)] at hh; exact hh
  have z1 : (1 : Int32).toNatClampNeg = 1 := rfl
  rw [z1]
  rcases hp with ⟨ht, rfl⟩ | ⟨t, ht, hx, h4, hG, hL, href⟩
  · refine ⟨1, ?_⟩
    unfold T_X11_hold_12
    exact qt ht (fin N 0 (fun _ _ => rfl) rfl)
  · have key : ∀ m, m ≤ G.length → ∀ (N' : gx_M) (v : Int64), (∀ o, o ≠ 19 → N' o = N o) → v.toInt = q_hv w (G.drop m) → T_X11_hold_12 Q (fun M7 x2_6 => T_X11_hold_70 Q M7 x2_6) (m + 1) N' (nI t) v (nI (G.length - m)) := by
      intro m
      induction m with
      | zero =>
        intro _ N' v hf hv
        unfold T_X11_hold_12
        refine qf (fun e => absurd (e ▸ nI_pos' (n := t) (by omega) : (0 : Int32) ≤ -1) (by decide)) ⟨vp_in_nI ht (by omega), ?_⟩
        rw [nI_clamp (by omega), hf 4 (by decide), h4]
        exact qt (nI_le (by omega) (by omega)) (fin N' v hf hv)
      | succ m ih =>
        intro hm N' v hf hv
        have hd : G.drop m = G[m] :: G.drop (m + 1) := List.drop_eq_getElem_cons (by omega)
        have hlen : (G.drop (m + 1)).length = G.length - (m + 1) := List.length_drop
        have hrow := q_ref_drop href m
        have hwf := q_wf_drop hg m
        have hln := q_len_drop G m
        rw [hd] at hrow hwf hln
        unfold T_X11_hold_12
        refine qf (fun e => absurd (e ▸ nI_pos' (n := t) (by omega) : (0 : Int32) ≤ -1) (by decide)) ⟨vp_in_nI ht (by omega), ?_⟩
        have ihm := fun N' v hf => ih (by omega) N' v hf
        rw [hd] at ihm
        generalize G[m] = g at hrow hwf hln ihm
        obtain ⟨b, l⟩ := g
        obtain ⟨a1, a2, a3, a4, -⟩ := hrow
        obtain ⟨b1, b2, -, -⟩ := hwf
        have hln : q_len (G.drop (m + 1)) + l.length + 1 ≤ q_len G := hln
        rw [hlen] at a1 a2
        rw [nI_clamp (by omega), hf 4 (by decide), h4]
        refine qf (nI_ge (by omega) (by omega)) ?_
        simp (disch := omega) only [lit, nI_add, nI_clamp, vp_in_nI, true_and, pk_mul]
        rw [hf 5 (by decide), hf 6 (by decide), a1]
        have step : ∀ (v : Int64) (N2 : gx_M), (∀ o, o ≠ 19 → N2 o = N o) → v.toInt = q_hv w ((b, l) :: G.drop (m + 1)) → T_X11_hold_63 Q (T_X11_hold_12 Q (fun M7 x2_6 => T_X11_hold_70 Q M7 x2_6) (m + 1)) N2 v (nI t) (nI (G.length - (m + 1))) := by
          intro v N2 h2 e2
          unfold T_X11_hold_63
          rintro _ rfl
          rw [lit, nI_add, show G.length - (m + 1) + 1 = G.length - m by omega]
          exact ihm N2 v h2 e2
        cases b with
        | true => exact qf (by decide) (step _ N' hf hv)
        | false =>
          refine qt rfl ?_
          rw [a2]
          refine n_tells (base := 400 * t + q_len (G.drop (m + 1))) (q_orow_cong a3 (fun k _ _ => by rw [hf 7 (by decide), hf 8 (by decide)]; exact ⟨rfl, rfl⟩)) (by rw [hf 7 (by decide)]; exact a4) (by omega) (fun i hi => by rw [hf 18 (by decide)]; exact ha i hi) hw b1 b2 (q_one hw b1).1 (fun N2 r h2 hr => ?_)
          exact step _ N2 (fun o ho => (h2 o ho).trans (hf o ho)) hr
    have k0 := key G.length (Nat.le_refl _) N 0 (fun _ _ => rfl) (by rw [List.drop_length]; rfl)
    rw [Nat.sub_self] at k0
    rw [hx]
    exact ⟨G.length + 1, k0⟩
