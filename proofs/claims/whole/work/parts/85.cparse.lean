/-! the class reads: what it emits, what waits, what it unwinds -/
def q_Bl (bg : Bool) (E B0 : List Int32) : List Int32 := if bg = true then E ++ B0 else B0
def q_Hl (bg : Bool) (E H0 : List Int32) : List Int32 := if bg = true then H0 else E ++ H0
def q_em (M : gx_M) (o : Nat) (bg : Bool) (E B0 H0 : List Int32) : Prop :=
  M o 2 = nI (q_Bl bg E B0).length ∧ M o 3 = nI (q_Hl bg E H0).length ∧ q_row (M (6 + o)) (q_Bl bg E B0) ∧ q_row (M (12 + o)) (q_Hl bg E H0)
theorem em_bg {M : gx_M} {o : Nat} {bg : Bool} (bg' : Bool) {B0 H0 : List Int32} (h : q_em M o bg [] B0 H0) : q_em M o bg' [] B0 H0 := by
  cases bg <;> cases bg' <;> exact h
theorem q_em.kept {M M' : gx_M} {o : Nat} {bg : Bool} {E B0 H0 : List Int32} (h : q_em M o bg E B0 H0) (h1 : M' o = M o) (h2 : M' (6 + o) = M (6 + o)) (h3 : M' (12 + o) = M (12 + o)) : q_em M' o bg E B0 H0 := by
  unfold q_em
  rw [h1, h2, h3]
  exact h
def FrE (o : Nat) (M M' : gx_M) : Prop := ∀ q, q ≠ o → q ≠ 6 + o → q ≠ 12 + o → M' q = M q
theorem row_up {r : Nat → Int32} {l : List Int32} (c : Int32) (h : q_row r l) : q_row (upd r l.length c) (c :: l) :=
  ⟨ub_eq _ _ _, q_row_cong h (fun k hk => ub_ne (by omega))⟩
theorem c_emit {M : gx_M} {o : Nat} {bg : Bool} {E B0 H0 : List Int32} {c : Int32} {Q : gx_M → Prop} (ho : pk_Pr o) (h16 : M 4 16 = nI o) (h8 : M 4 8 = b2i bg) (em : q_em M o bg E B0 H0) (hl : E.length + B0.length + H0.length < 300)
    (h : ∀ M' : gx_M, FrE o M M' → q_em M' o bg (c :: E) B0 H0 → Q M') : T_X5_emit M c Q := by
  have ho' := ho
  unfold pk_Pr at ho'
  obtain ⟨e1, e2, e3, e4⟩ := em
  have oc : (nI o).toNatClampNeg = o := nI_clamp (by omega)
  cases bg with
  | true =>
    have e1 : M o 2 = nI (E ++ B0).length := e1
    have e2 : M o 3 = nI H0.length := e2
    have e3 : q_row (M (6 + o)) (E ++ B0) := e3
    have e4 : q_row (M (12 + o)) H0 := e4
    have le : (E ++ B0).length < 300 := by rw [List.length_append]; omega
    unfold T_X5_emit T_X5_emit_54
    rw [h8]
    refine qf (by decide) ?_
    rw [h16, oc]
    refine nm_e ⟨ho, nm_e ⟨ho, ?_⟩⟩
    rw [e1]
    refine qf (show ¬ nI 300 ≤ nI (E ++ B0).length from nI_ge le (by omega)) ?_
    refine nm_e ⟨ho, nm_e ⟨ho, ?_⟩⟩
    rw [e1]
    refine ⟨vp_in_nI le (by omega), ?_⟩
    rw [nI_clamp (by omega)]
    rintro _ rfl
    rw [gu_ne (show 4 ≠ 6 + o by omega), h16, oc]
    refine nm_e ⟨ho, ?_⟩
    rw [gu_ne (show o ≠ 6 + o by omega), e1, nI_1]
    rintro _ rfl
    refine qf (by rw [gu_ne (show 4 ≠ o by omega), gu_ne (show 4 ≠ 6 + o by omega), h8]; decide) (h _ (fun q a b d => by rw [gu_ne a, gu_ne b]) ⟨?_, ?_, ?_, ?_⟩)
    · rw [gu_eq, ub_eq]; rfl
    · rw [gu_eq, ub_ne (by decide), gu_ne (by omega)]; exact e2
    · rw [gu_ne (by omega), gu_eq]; exact row_up c e3
    · rw [gu_ne (by omega), gu_ne (by omega)]; exact e4
  | false =>
    have e1 : M o 2 = nI B0.length := e1
    have e2 : M o 3 = nI (E ++ H0).length := e2
    have e3 : q_row (M (6 + o)) B0 := e3
    have e4 : q_row (M (12 + o)) (E ++ H0) := e4
    have le : (E ++ H0).length < 300 := by rw [List.length_append]; omega
    unfold T_X5_emit T_X5_emit_54
    rw [h8]
    refine qt (by decide) (qt (by decide) ?_)
    rw [h16, oc]
    refine nm_e ⟨ho, nm_e ⟨ho, ?_⟩⟩
    rw [e2]
    refine qf (show ¬ nI 300 ≤ nI (E ++ H0).length from nI_ge le (by omega)) ?_
    refine nm_e ⟨ho, nm_e ⟨ho, ?_⟩⟩
    rw [e2]
    refine ⟨vp_in_nI le (by omega), ?_⟩
    rw [nI_clamp (by omega)]
    rintro _ rfl
    rw [gu_ne (show 4 ≠ 12 + o by omega), h16, oc]
    refine nm_e ⟨ho, ?_⟩
    rw [gu_ne (show o ≠ 12 + o by omega), e2, nI_1]
    rintro _ rfl
    refine h _ (fun q a b d => by rw [gu_ne a, gu_ne d]) ⟨?_, ?_, ?_, ?_⟩
    · rw [gu_eq, ub_ne (by decide), gu_ne (by omega)]; exact e1
    · rw [gu_eq, ub_eq]; rfl
    · rw [gu_ne (by omega), gu_ne (by omega)]; exact e3
    · rw [gu_ne (by omega), gu_eq]; exact row_up c e4
theorem c_await {M : gx_M} {W : List Int32} {c : Int32} {Q : gx_M → Prop} (h2 : M 4 2 = nI W.length) (hr : q_row (M 7) W) (hl : W.length < 300)
    (h : ∀ M' : gx_M, (∀ q, q ≠ 4 → q ≠ 7 → M' q = M q) → (∀ j, j ≠ 2 → M' 4 j = M 4 j) → M' 4 2 = nI (c :: W).length → q_row (M' 7) (c :: W) → Q M') : T_X5_await M c Q := by
  unfold T_X5_await
  rw [h2]
  have w : (0 : Int32) ≤ nI W.length ∧ nI W.length ≤ 300 - 1 := ⟨nI_pos' (by omega), show nI W.length ≤ nI 299 from nI_le (by omega) (by omega)⟩
  refine gd_within (fun q => absurd w q) (fun _ => ⟨vp_in_nI hl (by omega), ?_⟩)
  rintro _ rfl _ rfl
  rw [nI_clamp (by omega), gu_ne (show 4 ≠ 7 by decide), h2, nI_1]
  refine h _ (fun q a b => by rw [gu_ne a, gu_ne b]) (fun j hj => by rw [gu_eq, ub_ne hj, gu_ne (by decide)]) (by rw [gu_eq, ub_eq]; rfl) ?_
  rw [gu_ne (by decide), gu_eq]
  exact row_up c hr
def q_sn (c : Int32) : Nat :=
  if c = -43 then 1 else if c = -42 then 2 else if c = -41 then 3 else if c = -36 then 4 else if c = -35 then 4 else if c = -34 then 4 else if c = -33 then 4 else if c = -32 then 4 else if c = -31 then 4
  else if c = -25 then 7 else if c = -24 then 6 else if c = -23 then 6 else if c = -22 then 5 else if c = -21 then 5 else 0
theorem c_strength {M : gx_M} {c : Int32} {Q : Int32 → Prop} (h : Q (nI (q_sn c))) : T_X5_strength M c Q := by
  unfold T_X5_strength
  refine qc (fun e => by subst e; rw [show q_sn (-43) = 1 by decide] at h; exact h) (fun n43 => ?_)
  refine qc (fun e => by subst e; rw [show q_sn (-42) = 2 by decide] at h; exact h) (fun n42 => ?_)
  refine qc (fun e => by subst e; rw [show q_sn (-41) = 3 by decide] at h; exact h) (fun n41 => ?_)
  refine qc (fun e => by subst e; rw [show q_sn (-40) = 0 by decide] at h; exact h) (fun n40 => ?_)
  refine qc (fun e => by subst e; rw [show q_sn (-39) = 0 by decide] at h; exact h) (fun n39 => ?_)
  refine qc (fun e => by subst e; rw [show q_sn (-38) = 0 by decide] at h; exact h) (fun n38 => ?_)
  refine qc (fun e => by subst e; rw [show q_sn (-37) = 0 by decide] at h; exact h) (fun n37 => ?_)
  refine qc (fun e => by subst e; rw [show q_sn (-36) = 4 by decide] at h; exact h) (fun n36 => ?_)
  refine qc (fun e => by subst e; rw [show q_sn (-35) = 4 by decide] at h; exact h) (fun n35 => ?_)
  refine qc (fun e => by subst e; rw [show q_sn (-34) = 4 by decide] at h; exact h) (fun n34 => ?_)
  refine qc (fun e => by subst e; rw [show q_sn (-33) = 4 by decide] at h; exact h) (fun n33 => ?_)
  refine qc (fun e => by subst e; rw [show q_sn (-32) = 4 by decide] at h; exact h) (fun n32 => ?_)
  refine qc (fun e => by subst e; rw [show q_sn (-31) = 4 by decide] at h; exact h) (fun n31 => ?_)
  refine qc (fun e => by subst e; rw [show q_sn (-30) = 0 by decide] at h; exact h) (fun n30 => ?_)
  refine qc (fun e => by subst e; rw [show q_sn (-29) = 0 by decide] at h; exact h) (fun n29 => ?_)
  refine qc (fun e => by subst e; rw [show q_sn (-28) = 0 by decide] at h; exact h) (fun n28 => ?_)
  refine qc (fun e => by subst e; rw [show q_sn (-27) = 0 by decide] at h; exact h) (fun n27 => ?_)
  refine qc (fun e => by subst e; rw [show q_sn (-26) = 0 by decide] at h; exact h) (fun n26 => ?_)
  refine qc (fun e => by subst e; rw [show q_sn (-25) = 7 by decide] at h; exact h) (fun n25 => ?_)
  refine qc (fun e => by subst e; rw [show q_sn (-24) = 6 by decide] at h; exact h) (fun n24 => ?_)
  refine qc (fun e => by subst e; rw [show q_sn (-23) = 6 by decide] at h; exact h) (fun n23 => ?_)
  refine qc (fun e => by subst e; rw [show q_sn (-22) = 5 by decide] at h; exact h) (fun n22 => ?_)
  refine qc (fun e => by subst e; rw [show q_sn (-21) = 5 by decide] at h; exact h) (fun n21 => ?_)
  unfold q_sn at h
  rw [if_neg n43, if_neg n42, if_neg n41, if_neg n36, if_neg n35, if_neg n34, if_neg n33, if_neg n32, if_neg n31, if_neg n25, if_neg n24, if_neg n23, if_neg n22, if_neg n21] at h
  exact h
theorem ite_le {p : Prop} {hd : Decidable p} {a b n : Nat} (ha : a ≤ n) (hb : b ≤ n) : @ite Nat p hd a b ≤ n := by
  by_cases h : p
  · rw [if_pos h]; exact ha
  · rw [if_neg h]; exact hb
theorem sn_le (c : Int32) : q_sn c ≤ 7 :=
  ite_le (by decide) (ite_le (by decide) (ite_le (by decide) (ite_le (by decide) (ite_le (by decide) (ite_le (by decide) (ite_le (by decide) (ite_le (by decide) (ite_le (by decide) (ite_le (by decide) (ite_le (by decide) (ite_le (by decide) (ite_le (by decide) (ite_le (by decide) (by decide))))))))))))))
def q_uw (l : Nat) : List Int32 → List Int32 → Nat → List Int32 × List Int32 × Nat
  | [], E, o => ([], E, o)
  | c :: W, E, o => if l ≤ q_sn c then q_uw l W (c :: E) (if c = -25 ∨ c = -41 then o - 1 else o) else (c :: W, E, o)
def q_ng : List Int32 → Nat
  | [] => 0
  | c :: W => q_ng W + (if c = -25 ∨ c = -41 then 1 else 0)
def FrU (o : Nat) (M M' : gx_M) : Prop := (∀ q, q ≠ 4 → q ≠ o → q ≠ 6 + o → q ≠ 12 + o → M' q = M q) ∧ ∀ j, j ≠ 2 → j ≠ 3 → M' 4 j = M 4 j
set_option maxRecDepth 4000 in
theorem c_unwind {M : gx_M} {o : Nat} {bg : Bool} {B0 H0 : List Int32} {l : Nat} {W0 E0 : List Int32} {op0 : Nat} {Q : gx_M → Prop} (ho : pk_Pr o) (hl7 : l ≤ 7) (h16 : M 4 16 = nI o) (h8 : M 4 8 = b2i bg) (em : q_em M o bg E0 B0 H0) (h2 : M 4 2 = nI W0.length) (hr : q_row (M 7) W0) (h3 : M 4 3 = nI op0) (hop : q_ng W0 ≤ op0) (hop2 : op0 < 1000) (hl : W0.length + E0.length + B0.length + H0.length ≤ 300)
    (h : ∀ M' : gx_M, FrU o M M' → q_em M' o bg (q_uw l W0 E0 op0).2.1 B0 H0 → M' 4 2 = nI (q_uw l W0 E0 op0).1.length → q_row (M' 7) (q_uw l W0 E0 op0).1 → M' 4 3 = nI (q_uw l W0 E0 op0).2.2 → Q M') : T_X5_unwind M (nI l) Q := by
  have ho' := ho
  unfold pk_Pr at ho'
  have key : ∀ (W E : List Int32) (op : Nat) (M' : gx_M), FrU o M M' → q_em M' o bg E B0 H0 → M' 4 2 = nI W.length → q_row (M' 7) W → M' 4 3 = nI op → q_ng W ≤ op → op < 1000 → W.length + E.length + B0.length + H0.length ≤ 300 → q_uw l W0 E0 op0 = q_uw l W E op → ∀ v2 : Int32, v2 = nI W.length + (-1) → T_X5_unwind_15 Q (W.length + 1) M' (nI l) v2 := by
    intro W
    induction W with
    | nil =>
      intro E op M' hF em' h2' hr' h3' hop' _ hl' hq v2 hv2
      rw [show v2 = -1 from hv2]
      have hh := h M' hF
      rw [hq] at hh
      unfold T_X5_unwind_15
      exact qt (by decide) (hh em' h2' hr' h3')
    | cons c W ih =>
      intro E op M' hF em' h2' hr' h3' hop' hop2' hl' hq v2 hv2
      rw [List.length_cons] at hl' h2'
      have e1 : v2 = nI W.length := hv2.trans (pk_m1 W.length)
      rw [e1]
      unfold T_X5_unwind_15
      refine qf (nI_pos (by omega)) ⟨vp_in_nI (by omega) (by omega), ?_⟩
      rw [nI_clamp (by omega), hr'.1]
      refine nm_e (c_strength ?_)
      have sn7 := sn_le c
      by_cases z : l ≤ q_sn c
      · have eq : q_uw l (c :: W) E op = q_uw l W (c :: E) (if c = -25 ∨ c = -41 then op - 1 else op) := if_pos z
        rw [eq] at hq
        refine qt (nI_le z (by omega)) ?_
        refine c_emit ho (by rw [hF.2 16 (by decide) (by decide)]; exact h16) (by rw [hF.2 8 (by decide) (by decide)]; exact h8) em' (by omega) (fun M5 f5 em5 => ?_)
        have m4 : M5 4 = M' 4 := f5 4 (by omega) (by omega) (by omega)
        have ng : q_ng (c :: W) = q_ng W + (if c = -25 ∨ c = -41 then 1 else 0) := rfl
        rw [ng] at hop'
        -- the place in the row of what waits goes down
        have low : ∀ (op' : Nat) (M6 : gx_M), (∀ q, q ≠ 4 → M6 q = M5 q) → (∀ j, j ≠ 3 → M6 4 j = M5 4 j) → M6 4 3 = nI op' → q_ng W ≤ op' → op' < 1000 → q_uw l W0 E0 op0 = q_uw l W (c :: E) op' → T_X5_unwind_62 Q (T_X5_unwind_15 Q (W.length + 1)) M6 (nI l) (nI W.length) := by
          intro op' M6 f6 g6 h63 hop6 hop62 hq6
          unfold T_X5_unwind_62
          rintro _ rfl x8 hx8
          refine ih (c :: E) op' _ ⟨fun q a b d e => ?_, fun j a b => ?_⟩ ?_ ?_ ?_ ?_ hop6 hop62 (by rw [List.length_cons]; omega) hq6 x8 hx8
          · rw [gu_ne a, f6 q a, f5 q b d e]; exact hF.1 q a b d e
          · rw [gu_eq, ub_ne a, g6 j b, m4]; exact hF.2 j a b
          · exact em5.kept (by rw [gu_ne (by omega)]; exact f6 o (by omega)) (by rw [gu_ne (by omega)]; exact f6 _ (by omega)) (by rw [gu_ne (by omega)]; exact f6 _ (by omega))
          · rw [gu_eq, ub_eq]
          · rw [gu_ne (by decide), f6 7 (by decide), f5 7 (by omega) (by omega) (by omega)]; exact hr'.2
          · rw [gu_eq, ub_ne (by decide)]; exact h63
        have down : (c = -25 ∨ c = -41) → T_X5_unwind_52 Q (T_X5_unwind_15 Q (W.length + 1)) M5 (nI l) (nI W.length) := by
          intro y
          rw [if_pos y] at hop' hq
          unfold T_X5_unwind_52
          rintro _ rfl
          refine low (op - 1) _ (fun q a => gu_ne a) (fun j a => by rw [gu_eq, ub_ne a]) ?_ (by omega) (by omega) hq
          rw [gu_eq, ub_eq, m4, h3']; exact pk_sub (b := 1) (by omega)
        refine qc (fun y => down (Or.inl y)) (fun y1 => qc (fun y => down (Or.inr y)) (fun y2 => ?_))
        have y : ¬ (c = -25 ∨ c = -41) := by rintro (x | x); exact y1 x; exact y2 x
        rw [if_neg y] at hop' hq
        exact low op M5 (fun _ _ => rfl) (fun _ _ => rfl) (by rw [m4]; exact h3') (by omega) hop2' hq
      · have eq : q_uw l (c :: W) E op = (c :: W, E, op) := if_neg z
        have hh := h M' hF
        rw [hq, eq] at hh
        exact qf (nI_ge (by omega) (by omega)) (hh em' h2' hr' h3')
  unfold T_X5_unwind
  rw [h2, if_neg (show ¬ (300 : Int32) < nI W0.length from nI_nlt (a := 300) (by omega) (by omega))]
  intro x1 hx1
  exact ⟨W0.length + 1, key W0 E0 op0 M ⟨fun _ _ _ _ _ => rfl, fun _ _ _ => rfl⟩ em h2 hr h3 hop hop2 hl rfl x1 (hx1.trans (Int32.sub_eq_add_neg _ _))⟩
/-! unwinding, worked out -/
theorem uw_yes {l : Nat} {c : Int32} {W E : List Int32} {o : Nat} (h : l ≤ q_sn c) : q_uw l (c :: W) E o = q_uw l W (c :: E) (if c = -25 ∨ c = -41 then o - 1 else o) := if_pos h
theorem uw_no {l : Nat} {c : Int32} {W E : List Int32} {o : Nat} (h : ¬ l ≤ q_sn c) : q_uw l (c :: W) E o = (c :: W, E, o) := if_neg h
theorem uw_rep {l : Nat} {k : Int32} (hk : k = -25 ∨ k = -41) (h : l ≤ q_sn k) : ∀ (j : Nat) (W E : List Int32) (o : Nat), q_uw l (List.replicate j k ++ W) E o = q_uw l W (List.replicate j k ++ E) (o - j) := by
  intro j
  induction j with
  | zero => intro W E o; rfl
  | succ j ih =>
    intro W E o
    rw [List.replicate_succ, List.cons_append, uw_yes h, if_pos hk, ih, rep_cons, List.replicate_succ, List.cons_append, show o - 1 - j = o - (j + 1) by omega]
theorem uw_ops {l r : Nat} {W : List Int32} {o : Nat} : ∀ (ops E : List Int32), (∀ c, c ∈ ops → (l ≤ q_sn c ↔ r ≤ q_rk c) ∧ ¬ (c = -25 ∨ c = -41)) → q_uw l (ops ++ W) E o = if (q_wk r ops E).1 = [] then q_uw l W (q_wk r ops E).2 o else ((q_wk r ops E).1 ++ W, (q_wk r ops E).2, o) := by
  intro ops
  induction ops with
  | nil => intro E _; rw [if_pos (show (q_wk r [] E).1 = [] from rfl)]; rfl
  | cons c ops ih =>
    intro E hm
    obtain ⟨m1, m2⟩ := hm c (by simp)
    by_cases z : r ≤ q_rk c
    · rw [wk_yes z, List.cons_append, uw_yes (m1.mpr z), if_neg m2, ih (c :: E) (fun d hd => hm d (by simp [hd]))]
    · rw [wk_no z, List.cons_append, uw_no (fun y => z (m1.mp y)), if_neg (show ¬ c :: ops = [] by simp)]
/-- a row that no sign of this strength is on top of -/
def q_low (l : Nat) (W : List Int32) : Prop := ∀ c W', W = c :: W' → ¬ l ≤ q_sn c
theorem uw_low {l : Nat} {W E : List Int32} {o : Nat} (h : q_low l W) : q_uw l W E o = (W, E, o) := by
  cases W with
  | nil => rfl
  | cons c W => exact uw_no (h c W rfl)
theorem snA {c : Int32} (h : q_isA c) : 5 ≤ q_sn c ∧ q_sn c ≤ 6 ∧ q_sn c = q_rk c + 2 ∧ ¬ (c = -25 ∨ c = -41) := by rcases h with rfl | rfl | rfl | rfl <;> decide
theorem snB {c : Int32} (h : c = -42 ∨ c = -43) : q_sn c = q_rk c ∧ q_sn c ≤ 2 ∧ 1 ≤ q_sn c ∧ ¬ (c = -25 ∨ c = -41) := by rcases h with rfl | rfl <;> decide
theorem snR {c : Int32} (h : q_isR c) : q_sn c = 4 := by rcases h with rfl | rfl | rfl | rfl | rfl | rfl <;> decide
theorem low_E {S : List q_F} (h : q_sE S) : q_low 4 (m_fl S) := by
  match S, h with
  | (k, ops) :: R, h =>
    rcases h with ⟨hk, hR, ho⟩ | ⟨hk, ho, hR⟩
    · have hk : k = 2 := hk
      have hR : R = [] := hR
      subst hk hR
      intro c W e
      have e : ops ++ [] = c :: W := e
      rw [List.append_nil] at e
      have := (snB ((oB_mem ho).2 c (by show c ∈ ops; rw [e]; simp))).2.1
      omega
    · have hk : k = -41 := hk
      have ho : ops = [] := ho
      subst hk ho
      intro c W e
      have e : -41 :: m_fl R = c :: W := e
      injection e with e _
      subst e
      decide
theorem low_mono {l l' : Nat} {W : List Int32} (h : q_low l W) (hl : l ≤ l') : q_low l' W := fun c W' e z => h c W' e (Nat.le_trans hl z)
theorem sE_brcp {S : List q_F} (h : q_sE S) : m_br S = 0 ∧ q_cp S = false := by
  induction S with
  | nil => cases h
  | cons f R ih =>
    obtain ⟨k, ops⟩ := f
    rcases h with ⟨rfl, rfl, -⟩ | ⟨rfl, -, hR⟩
    · exact ⟨rfl, rfl⟩
    · exact ih hR
theorem ng_app (A B : List Int32) : q_ng (A ++ B) = q_ng A + q_ng B := by
  induction A with
  | nil => simp [q_ng]
  | cons c A ih => rw [List.cons_append, q_ng, ih, q_ng]; omega
theorem ng_rep (j : Nat) : q_ng (List.replicate j (-25)) = j := by
  induction j with
  | zero => rfl
  | succ j ih => rw [List.replicate_succ, q_ng, ih, if_pos (Or.inl rfl)]
theorem ng_0 {l : List Int32} (h : ∀ c, c ∈ l → ¬ (c = -25 ∨ c = -41)) : q_ng l = 0 := by
  induction l with
  | nil => rfl
  | cons c l ih => rw [q_ng, ih (fun d hd => h d (by simp [hd])), if_neg (h c (by simp))]
theorem ng_E {S : List q_F} (h : q_sE S) : q_ng (m_fl S) ≤ q_op S := by
  induction S with
  | nil => cases h
  | cons f R ih =>
    obtain ⟨k, ops⟩ := f
    rcases h with ⟨rfl, rfl, ho⟩ | ⟨rfl, ho, hR⟩
    · show q_ng (ops ++ []) ≤ _
      rw [List.append_nil, ng_0 (fun c hc => (snB ((oB_mem ho).2 c hc)).2.2.2)]; exact Nat.zero_le _
    · have ho : ops = [] := ho
      subst ho
      have := ih hR
      show q_ng (m_fl R) + 1 ≤ q_op R + 1
      omega
theorem ng_A {bg : Bool} {S : List q_F} (h : q_sA bg S) : q_ng (m_fl S) ≤ q_op S := by
  induction S with
  | nil => cases h
  | cons f R ih =>
    obtain ⟨k, ops⟩ := f
    have e0 : q_ng ops = 0 := ng_0 (fun c hc => (snA ((oA_mem h.1).2 c hc)).2.2.2)
    have e1 : q_ng (m_fl ((k, ops) :: R)) = q_ng ops + q_ng (if k < 0 then k :: m_fl R else m_fl R) := ng_app _ _
    have e2 : q_op ((k, ops) :: R) = q_op R + (if k = -41 ∨ k = -51 ∨ k = -25 then 1 else 0) := rfl
    rw [e1, e0, e2]
    rcases h.2 with ⟨hk, rfl, -⟩ | ⟨hk | hk, -, hR⟩ | ⟨hk, hR⟩ | ⟨hk, -, hR⟩
    · have hk : k = 1 := hk
      subst hk; exact Nat.le_refl _
    · have hk : k = 4 := hk
      subst hk
      have := ng_E hR
      rw [if_neg (by decide)]; omega
    · have hn := R_neg hk
      have := ng_E hR
      rw [if_pos hn.1, if_neg hn.2.1, q_ng, if_neg (by rintro (z | z); exact hn.2.2.2.2.2.1 z; exact hn.2.2.2.2.2.2 z)]; omega
    · have hk : k = -51 := hk
      subst hk
      have := ih hR
      rw [if_pos (by decide), if_pos (by decide), q_ng, if_neg (by decide)]; omega
    · have hk : k = -25 := hk
      subst hk
      have := ih hR
      rw [if_pos (by decide), if_pos (by decide), q_ng, if_pos (by decide)]; omega
theorem BH_len (G : q_Gs) : (q_B G).length + (q_H G).length ≤ q_len G := by
  induction G with
  | nil => exact Nat.le_refl _
  | cons g G ih =>
    obtain ⟨b, l⟩ := g
    cases b with
    | false =>
      show (q_B G).length + (l ++ q_H G).length ≤ q_len G + l.length + 1
      rw [List.length_append]; omega
    | true =>
      have e : (q_B ((true, l) :: G)).length ≤ l.length + (q_B G).length + 1 := by
        show (match q_B G with | [] => l | c :: r => -43 :: (l ++ (c :: r))).length ≤ _
        cases h : q_B G with
        | nil => simp
        | cons c r => simp
      show (q_B ((true, l) :: G)).length + (q_H G).length ≤ q_len G + l.length + 1
      omega
