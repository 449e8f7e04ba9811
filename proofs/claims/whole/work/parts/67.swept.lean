/-! swept -/
theorem RR.cur {M N : gx_M} (h : RR M N) : ∃ G, q_core (N 1) G M ∧ q_rc N (N 1 1) G := by
  obtain ⟨⟨h1, h2, h3⟩, -, -, ht⟩ := h
  obtain ⟨n, hn, en⟩ := toNex 4 (by omega) h2.1.1.1 h2.1.1.2
  obtain ⟨a1, a2⟩ := h2.1.2.1
  by_cases c : N 1 1 = -1
  · exact ⟨[], ⟨h1, h2, h3, Or.inl ⟨c, rfl, ht.1⟩, trivial⟩, Or.inl ⟨c, rfl⟩⟩
  · have p0 : 0 ≤ N 1 1 := by
      have q := il a1
      rw [show (-1 : Int32).toInt = -1 from rfl] at q
      refine Int32.le_iff_toInt_le.mpr ?_
      rw [show (0 : Int32).toInt = 0 from rfl]
      have : (N 1 1).toInt ≠ -1 := fun z => c (Int32.toInt_inj.mp z)
      omega
    have e1 := toN p0
    have lt : (N 1 1).toNatClampNeg < n := by
      rw [en, Int32.lt_iff_toInt_lt, nI_toInt (by omega)] at a2
      have q := il p0
      rw [show (0 : Int32).toInt = 0 from rfl] at q
      show (N 1 1).toInt.toNat < n
      omega
    obtain ⟨G, g1, g2, g3⟩ := ht.2 (N 1 1).toNatClampNeg (by rw [en, nI_clamp (by omega)]; exact lt)
    exact ⟨G, ⟨h1, h2, h3, Or.inr ⟨_, by omega, e1, g2⟩, g1⟩, Or.inr ⟨_, by omega, e1, g3⟩⟩
theorem FrN.fc {M M' : gx_M} (h : FrN M M') : FC M M' := fun o a b c _ _ _ d e _ => h o a b c d e
theorem FrNs.fn {N N' : gx_M} (h : FrNs N N') : FN N N' := ⟨fun o a _ b c d _ _ _ => h.1 o a b c d, fun j a _ _ => h.2 j a⟩
theorem fn_lay {N N' : gx_M} (h : ∀ o, o ≠ 9 → N' o = N o) : FN N N' := ⟨fun o _ a _ _ _ _ _ _ => h o a, fun j _ _ _ => by rw [h 0 (by decide)]⟩
/-- the reference lays both outs and looks for the sweeps -/
theorem n_swp {N : gx_M} {G : List (Bool × List Int32)} {e : Nat} {Q : gx_M → Prop} (hok : okA (N 1)) (hp : q_rc N (N 1 1) G) (hg : q_wf G) (he : e ≤ 2000)
    (h : ∀ N' : gx_M, FN N N' → N' 1 = N 1 → (q_SL (N 1) G e 0 0 0).length ≤ 100 → N' 0 35 = nI (q_SL (N 1) G e 0 0 0).length → q_lst (N' 20) (q_SL (N 1) G e 0 0 0) → (∀ c, c < 2 → ∀ t, t < 2000 → N' 9 (2000 * c + t) = q_O (N 1) c t) → Q N') : T_X11_laysBoth N (fun M3 => T_X11_sweeps M3 (nI e) Q) := by
  refine n_laysBoth hok (fun N1 g1 g2 => ?_)
  have e1 : N1 1 = N 1 := g1 1 (by decide)
  refine n_sweeps (G := G) (by rw [e1]; exact hok) (by rw [e1]; exact hp.kept (fun o q1 q2 => g1 o (by omega))) hg (by rw [e1]; exact g2) he (fun N2 k1 k2 k3 k4 => ?_)
  rw [e1] at k2 k3 k4
  refine h N2 ((fn_lay g1).tr k1.fn) ((k1.1 1 (by decide) (by decide) (by decide) (by decide)).trans e1) k2 k3 k4 (fun c hc t ht => ?_)
  rw [k1.1 9 (by decide) (by decide) (by decide) (by decide)]; exact g2 c hc t ht
theorem ne_m1 {k : Nat} (hk : k < 2 ^ 31) : ¬ nI k = -1 := fun e => by
  have := nI_pos' hk
  rw [e] at this
  exact absurd this (by decide)
theorem q_SL_len {a : Nat → Int32} {G : List (Bool × List Int32)} : ∀ m t ready k, (q_SL a G m t ready k).length ≤ m := by
  intro m
  induction m with
  | zero => intro t ready k; exact Nat.le_refl _
  | succ m ih =>
    intro t ready k
    by_cases c : t < ready
    · rw [q_SL_lt c]; have := ih (t + 1) ready k; omega
    · cases h : q_tr a G t ready k with
      | false => rw [q_SL_no c h]; have := ih (t + 1) ready k; omega
      | true => rw [q_SL_yes c h, List.length_cons]; have := ih (t + 1) (t + (a 3).toNatClampNeg + 20 * (a 2).toNatClampNeg + q_ho a G t ready k) (k + 1); omega
def q_swept (L : List Nat) (i : Int32) : Int32 := if i = -1 then nI L.length else if nI L.length ≤ i then -1 else nI (L.getD i.toNatClampNeg 0)
theorem up6 (M : gx_M) : (gx_up (gx_up (gx_up M 1 6 0) 1 7 0) 1 8 0) 1 6 = nI 0 ∧ (gx_up (gx_up (gx_up M 1 6 0) 1 7 0) 1 8 0) 1 7 = nI 0 ∧ (gx_up (gx_up (gx_up M 1 6 0) 1 7 0) 1 8 0) 1 5 = M 1 5 := by
  simp only [gu_at]; simp; rfl
theorem q_coreL.restart {a : Nat → Int32} {G : List (Bool × List Int32)} {lo : Nat} {M : gx_M} (h : q_coreL a G lo M) : q_coreL a G lo (gx_up (gx_up (gx_up M 1 6 0) 1 7 0) 1 8 0) :=
  h.kept (fun q h1 h2 => by rw [gu_ne (by omega), gu_ne (by omega), gu_ne (by omega)]) (((h.2.2.1.up1 (by decide)).up1 (by decide)).up1 (by decide))
theorem FrN.restart (M : gx_M) : FrN M (gx_up (gx_up (gx_up M 1 6 0) 1 7 0) 1 8 0) := fun o a _ _ _ _ => by rw [gu_ne a, gu_ne a, gu_ne a]
theorem step_swept : st_swept RR := by
  intro M N h v1 v2
  unfold T_X10_swept
  refine gd_isSpan (fun n1 => ?_) (fun e e1 e2 ee => ?_)
  · unfold T_X11_swept
    exact gn_isEnd (fun _ => ⟨rfl, h⟩) (fun q => absurd q n1)
  subst ee
  have p1 := v_1 e1 e2
  refine qc (fun c => ?_) (fun c => ?_)
  · obtain ⟨G, hC, hrc⟩ := h.cur
    -- the reference's answer
    have fin : ∀ (r : Int32) (M' : gx_M), FrN M M' → q_core (N 1) G M' → r = q_swept (q_SL (N 1) G e 0 0 0) v2 → T_X11_swept N (nI e) v2 (fun r2 N1 => r = r2 ∧ RR M' N1) := by
      intro r M' hF hC' hr
      unfold T_X11_swept
      refine gn_isEnd (fun q => absurd p1 q) (fun _ => qt c ?_)
      refine n_swp h.1.2.1 hrc hC.2.2.2.2 e2 (fun N' f1 f2 f3 f4 f5 f6 => ?_)
      have hRR := h.frame hF.fc f1 hC'.2.2.1
      unfold q_swept at hr
      rw [f4]
      refine qc (fun c1 => ?_) (fun c1 => ?_)
      · rw [if_pos c1] at hr; exact ⟨hr, hRR⟩
      · rw [if_neg c1] at hr
        refine qc (fun c2 => ?_) (fun c2 => ?_)
        · rw [if_pos c2] at hr; exact ⟨hr, hRR⟩
        · rw [if_neg c2] at hr
          obtain ⟨j, hj, ej⟩ : ∃ j : Nat, j < 2 ^ 31 ∧ v2 = nI j := nI_of (fun q => by
            have a := il c
            rw [show (-1 : Int32).toInt = -1 from rfl] at a
            have b := Int32.lt_iff_toInt_lt.mp q
            rw [show (0 : Int32).toInt = 0 from rfl] at b
            exact c1 (Int32.toInt_inj.mp (by rw [show (-1 : Int32).toInt = -1 from rfl]; omega)))
          subst ej
          have hjl : j < (q_SL (N 1) G e 0 0 0).length := by
            rcases Nat.lt_or_ge j (q_SL (N 1) G e 0 0 0).length with z | z
            · exact z
            · exact absurd (nI_le z hj) c2
          refine ⟨vp_in_nI (by omega) (by omega), ?_, hRR⟩
          rw [nI_clamp hj] at hr ⊢
          rw [f5 j hjl]; exact hr
    unfold T_X1_restart
    rintro _ rfl _ rfl _ rfl
    have key : ∀ m k ready (M' : gx_M), k + m = e → FrN M M' → q_core (N 1) G M' → M' 1 6 = nI ready → M' 1 7 = nI k → 20 * k ≤ ready → ready ≤ 20000 → k ≤ (q_SL (N 1) G e 0 0 0).length → q_SL (N 1) G (e - ready) ready ready k = (q_SL (N 1) G e 0 0 0).drop k → (∀ i, i < k → v2 ≠ nI i) → T_X10_swept_23 (fun r1 M1 => T_X11_swept N (nI e) v2 (fun r2 N1 => r1 = r2 ∧ RR M1 N1)) (fun M9 v2_8 => T_X10_swept_58 (fun r1 M1 => T_X11_swept N (nI e) v2 (fun r2 N1 => r1 = r2 ∧ RR M1 N1)) M9 v2_8) (m + 1) M' (nI e) v2 (nI k) := by
      intro m
      -- behind the last sweep
      have over : ∀ k (M' : gx_M), FrN M M' → q_core (N 1) G M' → M' 1 7 = nI k → k = (q_SL (N 1) G e 0 0 0).length → (∀ i, i < k → v2 ≠ nI i) → T_X10_swept_58 (fun r1 M1 => T_X11_swept N (nI e) v2 (fun r2 N1 => r1 = r2 ∧ RR M1 N1)) M' v2 := by
        intro k M' hF hC' h7 hk hne
        unfold T_X10_swept_58
        refine qc (fun c1 => fin _ M' hF hC' ?_) (fun c1 => fin _ M' hF hC' ?_)
        · unfold q_swept
          rw [if_pos c1, h7, hk]
        · unfold q_swept
          rw [if_neg c1]
          by_cases c2 : nI (q_SL (N 1) G e 0 0 0).length ≤ v2
          · rw [if_pos c2]
          · exfalso
            obtain ⟨j, hj, ej⟩ : ∃ j : Nat, j < 2 ^ 31 ∧ v2 = nI j := nI_of (fun q => by
              have a := il c
              rw [show (-1 : Int32).toInt = -1 from rfl] at a
              have b := Int32.lt_iff_toInt_lt.mp q
              rw [show (0 : Int32).toInt = 0 from rfl] at b
              exact c1 (Int32.toInt_inj.mp (by rw [show (-1 : Int32).toInt = -1 from rfl]; omega)))
            subst ej
            refine hne j ?_ rfl
            rw [hk]
            rcases Nat.lt_or_ge j (q_SL (N 1) G e 0 0 0).length with z | z
            · exact z
            · exact absurd (nI_le z hj) c2
      have ended : ∀ k ready, k ≤ (q_SL (N 1) G e 0 0 0).length → q_SL (N 1) G (e - ready) ready ready k = (q_SL (N 1) G e 0 0 0).drop k → q_SL (N 1) G (e - ready) ready ready k = [] → k = (q_SL (N 1) G e 0 0 0).length := by
        intro k ready hk h1 h2
        rw [h2] at h1
        have := List.drop_eq_nil_iff.mp h1.symm
        omega
      induction m with
      | zero =>
        intro k ready M' hk hF hC' h6 h7 h20 hr hkl hL hne
        unfold T_X10_swept_23
        refine qt (nI_le (by omega) (by omega)) (over k M' hF hC' h7 (ended k ready hkl hL ?_) hne)
        rw [show e - ready = 0 by omega]; rfl
      | succ m ih =>
        intro k ready M' hk hF hC' h6 h7 h20 hr hkl hL hne
        unfold T_X10_swept_23
        refine qf (nI_ge (by omega) (by omega)) ?_
        refine s_next hC' h6 h7 e2 h20 hr (fun h0 M2 f2 C2 h72 => ?_) (fun b ready' M2 hl f2 C2 h8 h62 h72 h20' hr' hb hk100 => ?_)
        · exact qt rfl (over k M2 (hF.tr f2) C2 h72 (ended k ready hkl hL h0) hne)
        · have hd : (q_SL (N 1) G e 0 0 0).drop k = b :: q_SL (N 1) G (e - ready') ready' ready' (k + 1) := hL.symm.trans hl
          have hlt : k < (q_SL (N 1) G e 0 0 0).length := by
            rcases Nat.lt_or_ge k (q_SL (N 1) G e 0 0 0).length with z | z
            · exact z
            · rw [List.drop_eq_nil_of_le z] at hd; cases hd
          have hd2 := List.drop_eq_getElem_cons hlt
          rw [hd] at hd2
          injection hd2 with hb1 hb2
          refine qf (by decide) (qc (fun ek => fin _ M2 (hF.tr f2) C2 ?_) (fun ek => ?_))
          · unfold q_swept
            have hl2 := q_SL_len (a := N 1) (G := G) e 0 0 0
            rw [h8, ← ek, if_neg (ne_m1 (by omega)), if_neg (nI_ge hlt (by omega)), nI_clamp (by omega), hb1]
            rw [List.getD_eq_getElem?_getD, List.getElem?_eq_getElem hlt]; rfl
          · rintro _ rfl
            rw [nI_1]
            refine ih (k + 1) ready' M2 (by omega) (hF.tr f2) C2 h62 h72 h20' hr' (by omega) hb2 (fun i hi => ?_)
            by_cases e3 : i = k
            · subst e3; exact fun q => ek q.symm
            · exact hne i (by omega)
    obtain ⟨u6, u7, u5⟩ := up6 M
    refine ⟨e + 1, key e 0 0 _ (by omega) (FrN.restart M) hC.restart u6 u7 (by omega) (by omega) (Nat.zero_le _) rfl (fun i hi => absurd hi (Nat.not_lt_zero _))⟩
  · unfold T_X11_swept
    exact gn_isEnd (fun q => absurd p1 q) (fun _ => qf c ⟨rfl, h⟩)
