/-! the class takes a token -/
def q_cF (M0 M : gx_M) (o : Nat) : Prop := ∀ q, q ≠ 4 → q ≠ 5 → q ≠ 7 → q ≠ o → q ≠ 6 + o → q ≠ 12 + o → M q = M0 q
def q_cH (M0 M : gx_M) (o : Nat) (b : Nat → Nat) (n ph : Nat) (bg : Bool) (G : q_Gs) (p : Nat) : Prop :=
  (q_cF M0 M o ∧ q_by M b n ∧ M 5 2 = nI p) ∧ (M 4 16 = nI o ∧ M 4 13 = 0 ∧ M 4 14 = 0 ∧ M 4 15 = -1) ∧
  (M 4 5 = nI (G.length + (if ph = 4 then 0 else 1)) ∧ M 4 6 = b2i (q_hl G || (decide (ph ≠ 4) && !bg)) ∧ M 4 12 = b2i (q_asks G) ∧ M 4 7 = (if ph = 4 then 0 else 1))
def q_cW (M : gx_M) (o ph : Nat) (bg : Bool) (S : List q_F) (E : List Int32) (G : q_Gs) (j : Nat) (Ec : List Int32) : Prop :=
  (q_em M o bg Ec (q_B G) (q_H G) ∧ E = List.replicate j (-25) ++ Ec ∧ (ph ≠ 2 → j = 0)) ∧
  (M 4 2 = nI (List.replicate j (-25) ++ m_fl S).length ∧ q_row (M 7) (List.replicate j (-25) ++ m_fl S) ∧ M 4 3 = nI (q_op S + j) ∧ M 4 4 = nI (m_br S)) ∧
  (M 4 8 = b2i bg ∧ M 4 11 = b2i (q_cp S) ∧ M 4 9 = (if ph = 2 then 0 else 1) ∧ (ph = 0 → M 4 10 = 1) ∧ (ph = 1 → M 4 10 = 0))
def q_cS (M0 M : gx_M) (o : Nat) (b : Nat → Nat) (n ph : Nat) (bg : Bool) (S : List q_F) (E : List Int32) (G : q_Gs) (p j : Nat) (Ec : List Int32) : Prop :=
  q_cH M0 M o b n ph bg G p ∧ ((ph = 4 ∧ q_em M o bg [] (q_B G) (q_H G)) ∨ (ph ≠ 4 ∧ q_cW M o ph bg S E G j Ec))
/-- cells that a step inside a clause keeps -/
def FrK (o : Nat) (M M' : gx_M) : Prop := (∀ q, q ≠ 4 → q ≠ 7 → q ≠ o → q ≠ 6 + o → q ≠ 12 + o → M' q = M q) ∧ ∀ j, (j = 5 ∨ j = 6 ∨ j = 7 ∨ j = 12 ∨ j = 13 ∨ j = 14 ∨ j = 15 ∨ j = 16) → M' 4 j = M 4 j
theorem FrK.rf {o : Nat} {M : gx_M} : FrK o M M := ⟨fun _ _ _ _ _ _ => rfl, fun _ _ => rfl⟩
theorem FrK.tr {o : Nat} {A B C : gx_M} (h : FrK o A B) (k : FrK o B C) : FrK o A C := ⟨fun q a b c d e => (k.1 q a b c d e).trans (h.1 q a b c d e), fun j hj => (k.2 j hj).trans (h.2 j hj)⟩
theorem FrK.up {o : Nat} {M : gx_M} {j : Nat} (x : Int32) (hj : j = 2 ∨ j = 3 ∨ j = 4 ∨ j = 8 ∨ j = 9 ∨ j = 10 ∨ j = 11) : FrK o M (gx_up M 4 j x) := ⟨fun q a _ _ _ _ => gu_ne a, fun i hi => by rw [gu_eq, ub_ne (by omega)]⟩
theorem FrE.k {o : Nat} {M M' : gx_M} (h : FrE o M M') (ho : pk_Pr o) : FrK o M M' := ⟨fun q _ _ c d e => h q c d e, fun j _ => by unfold pk_Pr at ho; rw [h 4 (by omega) (by omega) (by omega)]⟩
theorem FrU.k {o : Nat} {M M' : gx_M} (h : FrU o M M') : FrK o M M' := ⟨fun q a _ c d e => h.1 q a c d e, fun j hj => h.2 j (by omega) (by omega)⟩
theorem q_cH.kept {M0 M M' : gx_M} {o : Nat} {b : Nat → Nat} {n ph : Nat} {bg : Bool} {G : q_Gs} {p : Nat} (h : q_cH M0 M o b n ph bg G p) (k : FrK o M M') (ho : pk_Pr o) : q_cH M0 M' o b n ph bg G p := by
  unfold pk_Pr at ho
  obtain ⟨⟨h1, h2, h3⟩, ⟨a1, a2, a3, a4⟩, b1, b2, b3, b4⟩ := h
  have m5 : M' 5 = M 5 := k.1 5 (by omega) (by omega) (by omega) (by omega) (by omega)
  have m6 : M' 6 = M 6 := k.1 6 (by omega) (by omega) (by omega) (by omega) (by omega)
  refine ⟨⟨fun q c1 c2 c3 c4 c5 c6 => (k.1 q c1 c3 c4 c5 c6).trans (h1 q c1 c2 c3 c4 c5 c6), ⟨h2.1, by rw [m5]; exact h2.2.1, by rw [m6]; exact h2.2.2⟩, by rw [m5]; exact h3⟩, ⟨?_, ?_, ?_, ?_⟩, ?_, ?_, ?_, ?_⟩
  · rw [k.2 16 (by omega)]; exact a1
  · rw [k.2 13 (by omega)]; exact a2
  · rw [k.2 14 (by omega)]; exact a3
  · rw [k.2 15 (by omega)]; exact a4
  · rw [k.2 5 (by omega)]; exact b1
  · rw [k.2 6 (by omega)]; exact b2
  · rw [k.2 12 (by omega)]; exact b3
  · rw [k.2 7 (by omega)]; exact b4
theorem q_cH.ph {M0 M : gx_M} {o : Nat} {b : Nat → Nat} {n ph : Nat} {bg : Bool} {G : q_Gs} {p : Nat} (h : q_cH M0 M o b n ph bg G p) {ph1 : Nat} (h4 : ph ≠ 4) (h41 : ph1 ≠ 4) : q_cH M0 M o b n ph1 bg G p := by
  obtain ⟨a1, a2, b1, b2, b3, b4⟩ := h
  rw [if_neg h4] at b1 b4
  rw [decide_eq_true h4] at b2
  refine ⟨a1, a2, ?_, ?_, b3, ?_⟩
  · rw [if_neg h41]; exact b1
  · rw [decide_eq_true h41]; exact b2
  · rw [if_neg h41]; exact b4
theorem c_fail {M : gx_M} {f : Int32} {Q : gx_M → Prop} (h : ∀ M' : gx_M, (∀ q, q ≠ 4 → M' q = M q) → M' 4 13 = 1 → M' 4 14 = f → M' 4 15 = M 5 3 → Q M') : T_X5_fail M f Q := by
  unfold T_X5_fail
  rintro _ rfl _ rfl _ rfl
  refine h _ (fun q a => by rw [gu_ne a, gu_ne a, gu_ne a]) (by rw [gu_eq, ub_eq]) ?_ ?_
  · rw [gu_eq, ub_ne (by decide), gu_eq, ub_ne (by decide), gu_eq, ub_eq]
  · rw [gu_eq, ub_ne (by decide), gu_eq, ub_eq, gu_ne (by decide)]
/-- a fault inside a clause -/
theorem c_bad {M0 M : gx_M} {o : Nat} {b : Nat → Nat} {n ph : Nat} {bg : Bool} {S : List q_F} {G : q_Gs} {sg : Int32} {nu p st : Nat} {f : Int32} {Q : gx_M → Prop} (hH : q_cH M0 M o b n ph bg G p) (h3 : M 5 3 = nI st) (hf : q_flt ph S G sg nu f)
    (hF : ∀ (f : Int32) (M' : gx_M), q_flt ph S G sg nu f → q_cF M0 M' o → M' 4 13 = 1 → M' 4 14 = f → M' 4 15 = nI st → Q M') : T_X5_fail M f Q :=
  c_fail (fun M' k a1 a2 a3 => hF f M' hf (fun q c1 c2 c3 c4 c5 c6 => (k q c1).trans (hH.1.1 q c1 c2 c3 c4 c5 c6)) a1 a2 (a3.trans h3))
/-- a sign that opens -/
theorem c_open {M : gx_M} {o : Nat} {W : List Int32} {op br : Nat} {t0 : Int32} {Q : gx_M → Prop} (ht : t0 = -51 ∨ t0 = -25 ∨ t0 = -41) (h2 : M 4 2 = nI W.length) (hr : q_row (M 7) W) (hl : W.length < 300) (h3 : M 4 3 = nI op) (hop : op ≤ 8) (h4 : M 4 4 = nI br)
    (hF : op = 8 → T_X5_fail M 3 Q)
    (hN : op < 8 → ∀ M' : gx_M, FrK o M M' → (∀ q, q ≠ 4 → q ≠ 7 → M' q = M q) → M' 4 2 = nI (t0 :: W).length → q_row (M' 7) (t0 :: W) → M' 4 3 = nI (op + 1) → M' 4 4 = nI (br + (if t0 = -51 then 1 else 0)) → M' 4 8 = M 4 8 → M' 4 9 = M 4 9 → M' 4 11 = M 4 11 → M' 4 10 = (if t0 = -41 then 1 else 0) → Q M') : T_X5_openUp M t0 Q := by
  have e3 : gx_up M 4 3 (M 4 3 + 1) 4 3 = nI (op + 1) := by rw [gu_eq, ub_eq, h3, nI_1]
  unfold T_X5_openUp
  refine qc (fun c => ?_) (fun c => hF ?_)
  · have c : op < 8 := by rw [h3] at c; exact (nI_ltI (b := 8) (by omega) (by omega)).mp c
    rintro _ rfl
    -- the brackets are counted
    have go : ∀ M1 : gx_M, (∀ q, q ≠ 4 → M1 q = M q) → (∀ j, j ≠ 3 → j ≠ 4 → M1 4 j = M 4 j) → M1 4 3 = nI (op + 1) → M1 4 4 = nI (br + (if t0 = -51 then 1 else 0)) → T_X5_openUp_41 Q M1 t0 := by
      intro M1 f1 g1 k3 k4
      unfold T_X5_openUp_41 T_X5_openUp_53
      have fin : ∀ x : Int32, x = (if t0 = -41 then 1 else 0) → T_X5_await (gx_up M1 4 10 x) t0 (fun M3 => Q M3) := by
        rintro _ rfl
        refine c_await (W := W) (by rw [gu_eq, ub_ne (by decide), g1 2 (by decide) (by decide)]; exact h2) (by rw [gu_ne (by decide), f1 7 (by decide)]; exact hr) hl (fun M3 f3 g3 k32 r3 => ?_)
        have s : ∀ j, j ≠ 2 → j ≠ 3 → j ≠ 4 → j ≠ 10 → M3 4 j = M 4 j := fun j a1 a2 a3 a4 => by rw [g3 j a1, gu_eq, ub_ne a4, g1 j a2 a3]
        have fr : ∀ q, q ≠ 4 → q ≠ 7 → M3 q = M q := fun q a1 a2 => by rw [f3 q a1 a2, gu_ne a1]; exact f1 q a1
        refine hN c M3 ⟨fun q a1 a2 _ _ _ => fr q a1 a2, fun j hj => s j (by omega) (by omega) (by omega) (by omega)⟩ fr k32 r3 ?_ ?_ (s 8 (by decide) (by decide) (by decide) (by decide)) (s 9 (by decide) (by decide) (by decide) (by decide)) (s 11 (by decide) (by decide) (by decide) (by decide)) ?_
        · rw [g3 3 (by decide), gu_eq, ub_ne (by decide)]; exact k3
        · rw [g3 4 (by decide), gu_eq, ub_ne (by decide)]; exact k4
        · rw [g3 10 (by decide), gu_eq, ub_eq]
      refine qc (fun e => ⟨Or.inr rfl, ?_⟩) (fun e => ⟨Or.inl rfl, ?_⟩)
      · rintro _ rfl
        exact fin 1 (by rw [if_pos e])
      · rintro _ rfl
        exact fin 0 (by rw [if_neg e])
    refine qc (fun e => ?_) (fun e => ?_)
    · rintro _ rfl
      refine go _ (fun q a => by rw [gu_ne a, gu_ne a]) (fun j a1 a2 => by rw [gu_eq, ub_ne a2, gu_eq, ub_ne a1]) ?_ ?_
      · rw [gu_eq, ub_ne (by decide)]; exact e3
      · rw [gu_eq, ub_eq, gu_eq, ub_ne (by decide), h4, nI_1, if_pos e]
    · refine go _ (fun q a => gu_ne a) (fun j a1 a2 => by rw [gu_eq, ub_ne a1]) e3 ?_
      rw [gu_eq, ub_ne (by decide), h4, if_neg e, Nat.add_zero]
  · rcases Nat.lt_or_ge op 8 with z | z
    · exact absurd (by rw [h3]; exact nI_lt (b := 8) z (by omega)) c
    · omega
/-- a token where an ask, or one, is wanted -/
theorem c_one {M0 M : gx_M} {o : Nat} {b : Nat → Nat} {n ph : Nat} {bg : Bool} {S : List q_F} {E Ec : List Int32} {G : q_Gs} {sg : Int32} {nu p p' st j : Nat} {Q : gx_M → Prop} (ho : pk_Pr o) (hok : q_ok ph bg S E G p) (hp3 : p < 300) (hph : ph = 0 ∨ ph = 1) (hH : q_cH M0 M o b n ph bg G p') (hW : q_cW M o ph bg S E G j Ec) (h3 : M 5 3 = nI st) (h5 : sg = -56 → M 5 5 = nI (min nu 10000))
    (hF : ∀ (f : Int32) (M' : gx_M), q_flt ph S G sg nu f → q_cF M0 M' o → M' 4 13 = 1 → M' 4 14 = f → M' 4 15 = nI st → Q M')
    (hN : ∀ (ph1 : Nat) (bg1 : Bool) (S1 : List q_F) (E1 : List Int32) (G1 : q_Gs) (j1 : Nat) (Ec1 : List Int32) (M' : gx_M), q_nx ph bg S E G sg nu ph1 bg1 S1 E1 G1 → q_cS M0 M' o b n ph1 bg1 S1 E1 G1 p' j1 Ec1 → Q M') : T_X5_takeOne M sg Q := by
  have ho' := ho
  unfold pk_Pr at ho'
  have ph4 : ph ≠ 4 := by omega
  have ph2 : ph ≠ 2 := by omega
  obtain ⟨⟨em, hE, hj⟩, ⟨w2, w7, w3, w4⟩, w8, w11, w9, w10, w10'⟩ := hW
  obtain rfl := hj ph2
  have hE : E = Ec := hE
  subst hE
  have w2 : M 4 2 = nI (m_fl S).length := w2
  have w7 : q_row (M 7) (m_fl S) := w7
  have w3 : M 4 3 = nI (q_op S) := w3
  rw [if_neg ph2] at w9
  have h16 := hH.2.1.1
  have hok0 := hok
  obtain ⟨⟨-, -, hop8, hs⟩, -, -⟩ := hok0
  rw [if_neg ph4] at hs
  have hBH := BH_len G
  obtain ⟨S0, hS0⟩ : ∃ S0, (ph = 0 ∧ S0 = (4, []) :: S) ∨ (ph = 1 ∧ S0 = S) := by
    rcases hph with e | e
    · exact ⟨_, Or.inl ⟨e, rfl⟩⟩
    · exact ⟨_, Or.inr ⟨e, rfl⟩⟩
  obtain ⟨sA, tE, f1, f2, f3, f4⟩ := sA_of hok hS0
  have bad : ∀ f, q_flt ph S G sg nu f → T_X5_fail M f Q := fun f hf => c_bad hH h3 hf hF
  -- a number or a word
  have val : ∀ v : Int32, ((sg = -56 ∧ nu ≤ 9999 ∧ v = nI nu) ∨ ((-17 ≤ sg ∧ sg ≤ -11) ∧ v = sg)) → T_X5_emit M v (fun M7 => ∀ M8, M8 = gx_up M7 4 9 0 → Q M8) := by
    intro v hv
    have hP : q_isP v := by
      rcases hv with ⟨-, hn, rfl⟩ | ⟨hv, rfl⟩
      · exact Or.inl ⟨nI_pos' (by omega), nI_le (b := 9999) hn (by omega)⟩
      · exact Or.inr hv
    obtain ⟨a1, a2, a3, j, b1, b2, b3, b4, b5⟩ := pk25 S0 (v :: E) sA ⟨_, tE, Or.inl ⟨hP, rfl⟩⟩
    refine c_emit ho h16 w8 em (by omega) (fun M7 k7 em7 => ?_)
    rintro _ rfl
    have m4 : M7 4 = M 4 := k7 4 (by omega) (by omega) (by omega)
    refine hN 2 bg _ _ G j (v :: E) _ (Or.inr (Or.inr (Or.inl ⟨S0, hS0, rfl, rfl, Or.inl ⟨v, hv, rfl, rfl, rfl⟩⟩))) ⟨(hH.kept ((k7.k ho).tr (FrK.up 0 (by omega))) ho).ph ph4 (by decide), Or.inr ⟨by decide, ⟨em7.kept (gu_ne (by omega)) (gu_ne (by omega)) (gu_ne (by omega)), b2, fun e => absurd rfl e⟩, ⟨?_, ?_, ?_, ?_⟩, ?_, ?_, ?_, ?_, ?_⟩⟩
    · rw [gu_eq, ub_ne (by decide), m4, ← b1, f1]; exact w2
    · rw [gu_ne (by decide), k7 7 (by omega) (by omega) (by omega), ← b1, f1]; exact w7
    · rw [gu_eq, ub_ne (by decide), m4, ← b3, f2]; exact w3
    · rw [gu_eq, ub_ne (by decide), m4, ← b4, f3]; exact w4
    · rw [gu_eq, ub_ne (by decide), m4]; exact w8
    · rw [gu_eq, ub_ne (by decide), m4, ← b5, f4]; exact w11
    · rw [gu_eq, ub_eq]; rfl
    · intro e; cases e
    · intro e; cases e
  -- a sign that opens
  have opn : ∀ k : Int32, ((sg = -51 ∧ k = -51) ∨ (sg = -22 ∧ k = -25)) → T_X5_openUp M k Q := by
    intro k hk
    have hne : ¬ (ph = 0 ∧ sg = -41) := by
      rintro ⟨-, e⟩
      rcases hk with ⟨e2, -⟩ | ⟨e2, -⟩ <;> (rw [e] at e2; exact absurd e2 (by decide))
    have hkk : k = -51 ∨ k = -25 ∨ k = -41 := by rcases hk with ⟨-, e⟩ | ⟨-, e⟩; exact Or.inl e; exact Or.inr (Or.inl e)
    have k41 : ¬ k = -41 := by rcases hk with ⟨-, e⟩ | ⟨-, e⟩ <;> (rw [e]; decide)
    have kfl : m_fl ((k, []) :: S0) = k :: m_fl S := by
      rw [← f1]
      rcases hk with ⟨-, rfl⟩ | ⟨-, rfl⟩ <;> rfl
    have kop : q_op ((k, []) :: S0) = q_op S + 1 := by
      rw [← f2]
      rcases hk with ⟨-, rfl⟩ | ⟨-, rfl⟩ <;> rfl
    have kbr : m_br ((k, []) :: S0) = m_br S + (if k = -51 then 1 else 0) := by rw [← f3]; rfl
    have kcp : q_cp ((k, []) :: S0) = q_cp S := by
      rw [← f4]
      rcases hk with ⟨-, rfl⟩ | ⟨-, rfl⟩ <;> rfl
    refine c_open (o := o) hkk w2 w7 (by omega) w3 hop8 w4 (fun e8 => bad 3 (Or.inr (Or.inr (Or.inl ⟨hph, hne, Or.inr (Or.inl ⟨?_, e8, rfl⟩)⟩)))) (fun lt M' fK fr k2 k7 k3 k4 k8 k9 k11 k10 => ?_)
    · rcases hk with ⟨e, -⟩ | ⟨e, -⟩
      · exact Or.inl e
      · exact Or.inr e
    · refine hN 1 bg _ E G 0 E M' (Or.inr (Or.inr (Or.inl ⟨S0, hS0, rfl, rfl, Or.inr ⟨k, hk, lt, rfl, rfl, rfl⟩⟩))) ⟨(hH.kept fK ho).ph ph4 (by decide), Or.inr ⟨by decide, ⟨em.kept (fr o (by omega) (by omega)) (fr _ (by omega) (by omega)) (fr _ (by omega) (by omega)), rfl, fun _ => rfl⟩, ⟨?_, ?_, ?_, ?_⟩, ?_, ?_, ?_, ?_, ?_⟩⟩
      · show M' 4 2 = nI (m_fl ((k, []) :: S0)).length
        rw [kfl]; exact k2
      · show q_row (M' 7) (m_fl ((k, []) :: S0))
        rw [kfl]; exact k7
      · show M' 4 3 = nI (q_op ((k, []) :: S0))
        rw [kop]; exact k3
      · rw [kbr]; exact k4
      · rw [k8]; exact w8
      · rw [kcp, k11]; exact w11
      · rw [k9]; exact w9
      · intro e; cases e
      · intro _; rw [k10, if_neg k41]
  -- not
  have nt : ph = 0 → sg = -41 → T_X5_openUp M (-41) Q := by
    intro e0 e
    subst e0
    refine c_open (o := o) (Or.inr (Or.inr rfl)) w2 w7 (by omega) w3 hop8 w4 (fun e8 => bad 3 (Or.inr (Or.inl ⟨rfl, e, e8, rfl⟩))) (fun lt M' fK fr k2 k7 k3 k4 k8 k9 k11 k10 => ?_)
    refine hN 0 bg _ E G 0 E M' (Or.inr (Or.inl ⟨rfl, e, lt, rfl, rfl, rfl, rfl, rfl⟩)) ⟨(hH.kept fK ho), Or.inr ⟨by decide, ⟨em.kept (fr o (by omega) (by omega)) (fr _ (by omega) (by omega)) (fr _ (by omega) (by omega)), rfl, fun _ => rfl⟩, ⟨k2, k7, k3, k4⟩, ?_, ?_, ?_, ?_, ?_⟩⟩
    · rw [k8]; exact w8
    · rw [k11]; exact w11
    · rw [k9]; exact w9
    · intro _; rw [k10, if_pos rfl]
    · intro e; cases e
  unfold T_X5_takeOne
  have t27 : (sg = -56 → nu ≤ 9999) → T_X5_takeOne_27 Q M sg := by
    intro hn
    unfold T_X5_takeOne_27
    refine qc (fun e => ?_) (fun e => ?_)
    · rw [h5 e, show min nu 10000 = nu from Nat.min_eq_left (by have := hn e; omega)]
      exact val _ (Or.inl ⟨e, hn e, rfl⟩)
    · refine gd_within (fun n1 => ?_) (fun y => val sg (Or.inr ⟨y, rfl⟩))
      unfold T_X5_takeOne_101 T_X5_takeOne_114 T_X5_takeOne_120
      refine qc (fun e1 => ?_) (fun e1 => qc (fun e2 => qt e2 (opn (-25) (Or.inr ⟨e2, rfl⟩))) (fun e2 => ?_))
      · exact qf (by rw [e1]; decide) (by rw [e1]; exact opn (-51) (Or.inl ⟨e1, rfl⟩))
      · have plain : ¬ (ph = 0 ∧ sg = -41) → T_X5_fail M 1 Q := fun z => bad 1 (Or.inr (Or.inr (Or.inl ⟨hph, z, Or.inr (Or.inr ⟨e, n1, e1, e2, rfl⟩)⟩)))
        refine qc (fun e3 => ?_) (fun e3 => plain (fun z => e3 z.2))
        rcases hph with z | z
        · refine qf (by rw [w10 z]; decide) (qf (by rw [e3]; decide) ?_)
          rw [e3]; exact nt z e3
        · exact qt (w10' z) (plain (fun y => by omega))
  refine qc (fun e => ?_) (fun e => t27 (fun z => absurd z e))
  rw [h5 e]
  refine qc (fun c => t27 (fun _ => ?_)) (fun c => bad 2 (Or.inr (Or.inr (Or.inl ⟨hph, fun z => by have := z.2; rw [e] at this; exact absurd this (by decide), Or.inl ⟨e, ?_, rfl⟩⟩))))
  · have := (nI_leI (b := 9999) (by omega) (by omega)).mp c
    omega
  · rcases Nat.lt_or_ge 9999 nu with z | z
    · exact z
    · exact absurd (nI_le (b := 9999) (by omega) (by omega)) c
