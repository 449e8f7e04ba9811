/-! the class goes on to the next sweep -/
theorem s_look {M : gx_M} {a : Nat → Int32} {t ready k : Nat} {Q : gx_M → Prop} (ht : t < 2000) (hO : ∀ c, c < 2 → ∀ t', t' ≤ t → M (13 + c) t' = q_O a c t') (h6 : M 1 6 = nI ready) (h7 : M 1 7 = nI k)
    (h : ∀ M' : gx_M, (∀ o, o ≠ 2 → M' o = M o) → q_ask M' (q_w a t ready k) → Q M') : T_X1_look M (nI t) Q := by
  have hw : (0 : Int32) ≤ nI t ∧ nI t ≤ 1999 := ⟨nI_pos' (by omega), show nI t ≤ nI 1999 from nI_le (by omega) (by omega)⟩
  have o0 := hO 0 (by omega) t (Nat.le_refl _)
  have o1 := hO 1 (by omega) t (Nat.le_refl _)
  have key : ∀ w : Int32, w = q_W a 0 t → T_X1_look_48 Q (gx_up M 2 1 (q_O a 0 t)) w (nI t) := by
    intro w hw
    unfold T_X1_look_48
    rintro _ rfl
    refine ⟨vp_in_nI (by omega) (by omega), ?_⟩
    rintro _ rfl _ rfl _ rfl _ rfl
    refine h _ (fun o ho => by rw [gu_ne ho, gu_ne ho, gu_ne ho, gu_ne ho, gu_ne ho, gu_ne ho]) ?_
    unfold q_ask
    rw [nI_clamp (by omega)]
    simp only [gu_at]
    refine ⟨?_, ?_, ?_, ?_, ?_, ?_, ?_⟩
    · simp [q_w]
    · simp [q_w, hw]
    · simp [q_w]; exact o1
    · simp [q_w]
    · simp [q_w]
    · simp [q_w]; exact h7
    · simp [q_w]; rw [h6]
  unfold T_X1_look
  refine gd_within (fun q => absurd hw q) (fun _ => ⟨vp_in_nI (by omega) (by omega), ?_⟩)
  rintro _ rfl
  rw [nI_clamp (by omega)]
  have o0' : M 13 t = q_O a 0 t := o0
  rw [o0']
  refine qc (fun e => ?_) (fun e => ⟨?_, ?_⟩)
  · have e' := (nI_leI (b := 0) (by omega) (by omega)).mp e
    obtain rfl : t = 0 := by omega
    exact key _ rfl
  · cases t with
    | zero => exact absurd (show nI 0 ≤ nI 0 from nI_le (by omega) (by omega)) e
    | succ t => rw [nI_pred]; exact vp_in_nI (by omega) (by omega)
  · cases t with
    | zero => exact absurd (show nI 0 ≤ nI 0 from nI_le (by omega) (by omega)) e
    | succ t =>
      rw [nI_pred, nI_clamp (by omega), gu_ne (by decide)]
      have o2 : M 13 t = q_O a 0 t := hO 0 (by omega) t (by omega)
      exact key _ (by rw [o2]; rfl)
theorem s_clamp {r : Int32} {v : Int} (h : r.toInt = v) : (if 0 < (if 9999 < r then 9999 else r) then (if 9999 < r then 9999 else r) else 0) = nI (q_clamp v) := by
  have z0 : (0 : Int32).toInt = 0 := rfl
  have z9 : (9999 : Int32).toInt = 9999 := rfl
  unfold q_clamp
  subst h
  by_cases c : 9999 < r
  · have c' := Int32.lt_iff_toInt_lt.mp c
    rw [if_pos c, if_pos (by decide), if_neg (by omega), if_pos (by omega)]; rfl
  · have c' : ¬ (9999 : Int32).toInt < r.toInt := fun q => c (Int32.lt_iff_toInt_lt.mpr q)
    rw [if_neg c]
    by_cases d : 0 < r
    · have d' := Int32.lt_iff_toInt_lt.mp d
      rw [if_pos d, if_neg (by omega), if_neg (by omega)]
      exact Int32.toInt_inj.mp (by rw [nI_toInt (by omega), Int.toNat_of_nonneg (by omega)])
    · have d' : ¬ (0 : Int32).toInt < r.toInt := fun q => d (Int32.lt_iff_toInt_lt.mpr q)
      rw [if_neg d]
      by_cases n : r.toInt < 0
      · rw [if_pos n]; rfl
      · rw [if_neg n, if_neg (by omega), show r.toInt.toNat = 0 by omega]; rfl
theorem s_heldBy {M : gx_M} {w : Nat → Int32} {o : Nat} {G : List (Bool × List Int32)} {Q : Int32 → gx_M → Prop} (ho : pk_Pr o) (hp : q_pc M o G) (hg : q_wf G) (hw : q_wd w) (ha : q_H G ≠ [] → q_ask M w)
    (h : ∀ M' : gx_M, (∀ q, q ≠ 3 → M' q = M q) → Q (nI (q_clamp (q_hv w G))) M') : T_X1_heldBy M o Q := by
  obtain ⟨-, h3, -, hrow, -, hL, -⟩ := hp
  obtain ⟨sp1, sp2⟩ := q_H_spec hw hg
  unfold T_X1_heldBy
  rw [h3]
  by_cases e : q_H G = []
  · rw [e]
    refine qt rfl ?_
    have := h M (fun _ _ => rfl)
    rw [sp1 e] at this
    exact this
  · have hlen : 0 < (q_H G).length := List.length_pos_iff.mpr e
    obtain ⟨t1, t2, t3⟩ := sp2 e
    refine qf (nI_ne0 hlen (by omega)) (s_answer (by unfold pk_Pr at ho; omega) hrow hL (ha e) hw t1 (by omega) t3 (fun M' r hf hr => ?_))
    rw [s_clamp hr]
    exact h M' hf
/-- what the class changes as it looks for a sweep -/
def FrN (M M' : gx_M) : Prop := ∀ o, o ≠ 1 → o ≠ 2 → o ≠ 3 → o ≠ 13 → o ≠ 14 → M' o = M o
theorem FrN.tr {A B C : gx_M} (h : FrN A B) (k : FrN B C) : FrN A C := fun o a b c d e => (k o a b c d e).trans (h o a b c d e)
def q_coreL (a : Nat → Int32) (G : List (Bool × List Int32)) (lo : Nat) (M : gx_M) : Prop := RS 0 a M ∧ okA a ∧ q_cacheL a lo M ∧ q_cc M (a 1) G ∧ q_wf G
abbrev q_core (a : Nat → Int32) (G : List (Bool × List Int32)) (M : gx_M) : Prop := q_coreL a G 0 M
theorem q_pc.kept {M M' : gx_M} {o : Nat} {G : List (Bool × List Int32)} (h : q_pc M o G) (ho : pk_Pr o) (hk : ∀ q, 16 ≤ q → q < 34 → M' q = M q) : q_pc M' o G := by
  unfold pk_Pr at ho
  unfold q_pc
  rw [hk o (by omega) (by omega), hk (6 + o) (by omega) (by omega), hk (12 + o) (by omega) (by omega)]
  exact h
theorem q_cc.kept {M M' : gx_M} {tx : Int32} {G : List (Bool × List Int32)} (h : q_cc M tx G) (hk : ∀ q, 16 ≤ q → q < 34 → M' q = M q) : q_cc M' tx G := by
  rcases h with ⟨a, b, c⟩ | ⟨t, a, b, c⟩
  · exact Or.inl ⟨a, b, c.kept (by unfold pk_Pr; omega) hk⟩
  · exact Or.inr ⟨t, a, b, c.kept (by unfold pk_Pr; omega) hk⟩
theorem q_coreL.kept {a : Nat → Int32} {G : List (Bool × List Int32)} {lo : Nat} {M M' : gx_M} (h : q_coreL a G lo M) (hk : ∀ q, 16 ≤ q → q < 110 → M' q = M q) (hc : q_cacheL a lo M') : q_coreL a G lo M' :=
  ⟨h.1.kept (by omega) h.2.1 (fun o h1 h2 => hk o (by omega) (by omega)), h.2.1, hc, h.2.2.2.1.kept (fun q h1 h2 => hk q h1 (by omega)), h.2.2.2.2⟩
theorem q_cacheL.kept {a : Nat → Int32} {lo : Nat} {M M' : gx_M} (h : q_cacheL a lo M) (h5 : M' 1 5 = M 1 5) (h13 : M' 13 = M 13) (h14 : M' 14 = M 14) : q_cacheL a lo M' := by
  obtain ⟨tr, h0, h1, h2, h3⟩ := h
  refine ⟨tr, h0, h1, h5.trans h2, fun c hc t ht => ?_⟩
  rcases Nat.lt_or_ge c 1 with z | z
  · obtain rfl : c = 0 := by omega
    show M' 13 t = _; rw [h13]; exact h3 0 (by omega) t ht
  · obtain rfl : c = 1 := by omega
    show M' 14 t = _; rw [h14]; exact h3 1 (by omega) t ht
theorem s_told {M : gx_M} {a : Nat → Int32} {G : List (Bool × List Int32)} {Q : Nat → Prop} (hR : RS 0 a M) (hc : q_cc M (a 1) G) (h : ∀ o, pk_Pr o → q_pc M o G → Q o) : T_X1_told M Q := by
  have e9 : M 34 9 = a 1 := hR.1.2.2
  unfold T_X1_told
  rw [e9]
  rcases hc with ⟨e, rfl, hp⟩ | ⟨t, ht, e, hp⟩
  · rw [e]
    exact gd_within (fun _ => h 20 (by unfold pk_Pr; omega) hp) (fun q => absurd q (by decide))
  · rw [e]
    have hw : (0 : Int32) ≤ nI t ∧ nI t ≤ 4 - 1 := ⟨nI_pos' (by omega), show nI t ≤ nI 3 from nI_le (by omega) (by omega)⟩
    refine gd_within (fun q => absurd hw q) (fun _ => ⟨vp_in_nI (by omega) (by omega), ?_⟩)
    rw [nI_clamp (by omega)]
    exact h (16 + t) (by unfold pk_Pr; omega) hp
theorem q_cacheL.up1 {a : Nat → Int32} {lo : Nat} {M : gx_M} {j : Nat} {x : Int32} (h : q_cacheL a lo M) (hj : j ≠ 5) : q_cacheL a lo (gx_up M 1 j x) :=
  h.kept (by rw [gu_eq, ub_ne (Ne.symm hj)]) (gu_ne (by decide)) (gu_ne (by decide))
theorem s_next {M : gx_M} {a : Nat → Int32} {G : List (Bool × List Int32)} {e ready k lo : Nat} {Q : Int32 → gx_M → Prop} (hC : q_coreL a G lo M) (h6 : M 1 6 = nI ready) (h7 : M 1 7 = nI k) (he : e ≤ 2000) (h20 : 20 * k ≤ ready) (hrd : ready ≤ 20000)
    (g0 : q_SL a G (e - ready) ready ready k = [] → ∀ M', FrN M M' → q_coreL a G lo M' → M' 1 7 = nI k → Q 0 M')
    (g1 : ∀ b ready' M', q_SL a G (e - ready) ready ready k = b :: q_SL a G (e - ready') ready' ready' (k + 1) → FrN M M' → q_coreL a G lo M' → M' 1 8 = nI b → M' 1 6 = nI ready' → M' 1 7 = nI (k + 1) → 20 * (k + 1) ≤ ready' → ready' ≤ 20000 → b ≤ 3000 → k < 100 → Q 1 M') : T_X1_next M (nI e) Q := by
  unfold T_X1_next
  refine s_told hC.1 hC.2.2.2.1 (fun o ho hpc => ⟨ho, ?_⟩)
  rintro _ rfl
  rw [h6]
  have hok := hC.2.1
  have hg := hC.2.2.2.2
  obtain ⟨⟨p1, p50, ep⟩, p3, e3⟩ := okP hok
  have ho' := ho
  unfold pk_Pr at ho'
  -- a sweep begins at t
  have fin : ∀ (t : Nat) (M' : gx_M), t < e → ready ≤ t → FrN M M' → q_coreL a G lo M' → M' 1 6 = nI ready → M' 1 7 = nI k → q_SL a G (e - ready) ready ready k = q_SL a G (e - (t + 1) + 1) t ready k → q_tr a G t ready k = true → (q_H G ≠ [] → q_ask M' (q_w a t ready k)) → T_X1_next_64 Q M' o (nI t) := by
    intro t M' ht hrt hf hC' h6' h7' hL htr hask
    have hw := q_w_wd hok (t := t) (ready := ready) (k := k) (by omega) hrt (by omega)
    have r4 : M' 34 4 = a 3 := (hC'.1.1.1 1 (by omega))
    have r3 : M' 34 3 = a 2 := (hC'.1.1.1 0 (by omega))
    have pc' : q_pc M' o G := hpc.kept ho (fun q h1 h2 => hf q (by omega) (by omega) (by omega) (by omega) (by omega))
    unfold T_X1_next_64
    rintro _ rfl
    refine s_heldBy (w := q_w a t ready k) ho (pc'.kept ho (fun q h1 h2 => gu_ne (by omega))) hg hw (fun z => by unfold q_ask; rw [gu_ne (by decide)]; exact hask z) (fun M2 k2 => ?_)
    rintro _ rfl _ rfl
    have m1 : M2 1 = upd (M' 1) 8 (nI t + M' 34 4) := by rw [k2 1 (by decide), gu_eq]
    have hcl := q_clamp_le (q_hv (q_w a t ready k) G)
    have hho : q_ho a G t ready k ≤ 9999 := hcl
    have eb : nI t + a 3 = nI (t + (a 3).toNatClampNeg) := by rw [← nI_add, ← e3]
    have er : ((nI t + a 3) + (20 * a 2)) + nI (q_clamp (q_hv (q_w a t ready k) G)) = nI (t + (a 3).toNatClampNeg + 20 * (a 2).toNatClampNeg + q_ho a G t ready k) := by
      rw [eb, show (20 : Int32) * a 2 = nI (20 * (a 2).toNatClampNeg) by rw [← pk_mul, ← ep]; rfl, nI_add, nI_add]; rfl
    refine g1 (t + (a 3).toNatClampNeg) (t + (a 3).toNatClampNeg + 20 * (a 2).toNatClampNeg + q_ho a G t ready k) _ ?_ ?_ ?_ ?_ ?_ ?_ (by omega) (by omega) (by omega) (by omega)
    · rw [hL, q_SL_yes (by omega) htr, q_SL_skip (t := t + 1) (by omega)]
      congr 2; omega
    · exact hf.tr (fun o a b c d e => by rw [gu_ne a, gu_ne a, k2 o c, gu_ne a])
    · refine hC'.kept (fun q h1 h2 => by rw [gu_ne (by omega), gu_ne (by omega), k2 q (by omega), gu_ne (by omega)]) (q_cacheL.up1 (q_cacheL.up1 (hC'.2.2.1.kept ?_ ?_ ?_) (by decide)) (by decide))
      · rw [m1, ub_ne (by decide)]
      · rw [k2 13 (by decide), gu_ne (by decide)]
      · rw [k2 14 (by decide), gu_ne (by decide)]
    · rw [gu_eq, ub_ne (by decide), gu_eq, ub_ne (by decide), m1, ub_eq, r4, eb]
    · rw [gu_eq, ub_ne (by decide), gu_eq, ub_eq, gu_eq, ub_eq, gu_ne (by decide), r4, r3]; exact er
    · rw [gu_eq, ub_eq, gu_eq, ub_ne (by decide), m1, ub_ne (by decide), h7', lit, nI_add]
  have key : ∀ m t (M' : gx_M), m = e - t → ready ≤ t → FrN M M' → q_coreL a G lo M' → M' 1 6 = nI ready → M' 1 7 = nI k → t ≤ 20000 → q_SL a G (e - ready) ready ready k = q_SL a G m t ready k → T_X1_next_10 Q (fun M15 o2_13 v3_14 => T_X1_next_64 Q M15 o2_13 v3_14) (fun M21 => Q 0 M21) (m + 1) M' (nI e) o (nI t) := by
    intro m
    induction m with
    | zero =>
      intro t M' hm hrt hf hC' h6' h7' htb hL
      unfold T_X1_next_10
      exact qt (nI_le (by omega) (by omega)) (g0 (by rw [hL]; rfl) M' hf hC' h7')
    | succ m ih =>
      intro t M' hm hrt hf hC' h6' h7' htb hL
      have pc' : q_pc M' o G := hpc.kept ho (fun q h1 h2 => hf q (by omega) (by omega) (by omega) (by omega) (by omega))
      have hw := q_w_wd hok (t := t) (ready := ready) (k := k) (by omega) hrt (by omega)
      obtain ⟨sB1, sB2⟩ := q_B_spec hw hg
      unfold T_X1_next_10
      refine qf (nI_ge (by omega) (by omega)) (qf (show ¬ nI 2000 ≤ nI t from nI_ge (by omega) (by omega)) ?_)
      have hL' : q_SL a G (e - ready) ready ready k = q_SL a G (e - (t + 1) + 1) t ready k := by rw [hL]; congr 1; omega
      -- the search, the words being looked at
      have go : ∀ M2 : gx_M, FrN M M2 → q_coreL a G lo M2 → M2 1 6 = nI ready → M2 1 7 = nI k → (q_B G ≠ [] ∨ q_H G ≠ [] → q_ask M2 (q_w a t ready k)) → T_X1_next_39 Q (T_X1_next_10 Q (fun M15 o2_13 v3_14 => T_X1_next_64 Q M15 o2_13 v3_14) (fun M21 => Q 0 M21) (m + 1)) (fun M15 o2_13 v3_14 => T_X1_next_64 Q M15 o2_13 v3_14) M2 (nI e) o (nI t) := by
        intro M2 hf2 hC2 h62 h72 hask
        have pc2 : q_pc M2 o G := hpc.kept ho (fun q h1 h2 => hf2 q (by omega) (by omega) (by omega) (by omega) (by omega))
        obtain ⟨q2, q3, q4, q5, q6, q7, q8⟩ := pc2
        unfold T_X1_next_39
        rw [q2]
        cases hak : q_asks G with
        | false =>
          obtain ⟨i1, i2⟩ := sB2 hak
          rw [i1]
          refine qt rfl (fin t M2 (by omega) hrt hf2 hC2 h62 h72 hL' ?_ (fun z => hask (Or.inr z)))
          show (q_some (q_w a t ready k) G || !q_asks G) = true
          rw [hak]; simp
        | true =>
          obtain ⟨i0, i1, i2⟩ := sB1 hak
          have hlen : 0 < (q_B G).length := List.length_pos_iff.mpr i0
          refine qf (nI_ne0 hlen (by omega)) (s_answer (by omega) q4 q6 (hask (Or.inl i0)) hw i1 q8 i2 (fun M3 r k3 hr => ?_))
          have hf3 : FrN M M3 := hf2.tr (fun o a b c d e => k3 o c)
          have hC3 : q_coreL a G lo M3 := hC2.kept (fun q h1 h2 => k3 q (by omega)) (hC2.2.2.1.kept (by rw [k3 1 (by decide)]) (k3 13 (by decide)) (k3 14 (by decide)))
          have h63 : M3 1 6 = nI ready := by rw [k3 1 (by decide)]; exact h62
          have h73 : M3 1 7 = nI k := by rw [k3 1 (by decide)]; exact h72
          have htr : q_tr a G t ready k = q_some (q_w a t ready k) G := by
            show (q_some (q_w a t ready k) G || !q_asks G) = _
            rw [hak]; simp
          cases hs : q_some (q_w a t ready k) G with
          | false =>
            rw [hs] at hr
            rw [z_of (show r.toInt = 0 from hr)]
            refine qt rfl ?_
            rintro _ rfl
            rw [nI_1]
            exact ih (t + 1) M3 (by omega) (by omega) hf3 hC3 h63 h73 (by omega) (by rw [hL, q_SL_no (by omega) (by rw [htr, hs])])
          | true =>
            rw [hs] at hr
            rw [o_of (show r.toInt = 1 from hr)]
            exact qf (by decide) (fin t M3 (by omega) hrt hf3 hC3 h63 h73 hL' (by rw [htr, hs]) (fun z => by unfold q_ask; rw [k3 2 (by decide)]; exact hask (Or.inr z)))
      have trace : T_X1_traceTo M' (nI t) (fun M10 => T_X1_look M10 (nI t) (fun M11 => T_X1_next_39 Q (T_X1_next_10 Q (fun M15 o2_13 v3_14 => T_X1_next_64 Q M15 o2_13 v3_14) (fun M21 => Q 0 M21) (m + 1)) (fun M15 o2_13 v3_14 => T_X1_next_64 Q M15 o2_13 v3_14) M11 (nI e) o (nI t))) := by
        refine s_traceTo hC'.1 hok hC'.2.2.1 (by omega) (fun M1 t1 t2 t3 t4 => ?_)
        have h61 : M1 1 6 = nI ready := by rw [t1.2 6 (by decide)]; exact h6'
        have h71 : M1 1 7 = nI k := by rw [t1.2 7 (by decide)]; exact h7'
        refine s_look (a := a) (by omega) t4 h61 h71 (fun M2 k2 hask => ?_)
        have hC2 : q_coreL a G lo M2 := hC'.kept (fun q h1 h2 => by rw [k2 q (by omega)]; exact t1.1 q (by omega) (by omega) (by omega)) (t3.kept (by rw [k2 1 (by decide)]) (k2 13 (by decide)) (k2 14 (by decide)))
        exact go M2 (hf.tr (fun o a b c d e => (k2 o b).trans (t1.1 o a d e))) hC2 (by rw [k2 1 (by decide)]; exact h61) (by rw [k2 1 (by decide)]; exact h71) (fun _ => hask)
      obtain ⟨q2, q3, -⟩ := pc'
      unfold T_X4_isEmpty
      rw [q2, q3]
      refine qc (fun c => qc (fun c2 => ?_) (fun c2 => qt rfl trace)) (fun c => qt rfl trace)
      refine qf (by decide) (go M' hf hC' h6' h7' (fun z => ?_))
      have b6 : (q_B G).length ≤ 300 := hpc.2.2.2.2.1
      have b7 : (q_H G).length ≤ 300 := hpc.2.2.2.2.2.1
      rcases z with z | z
      · exact absurd c (nI_ne0 (List.length_pos_iff.mpr z) (by omega))
      · exact absurd c2 (nI_ne0 (List.length_pos_iff.mpr z) (by omega))
  exact ⟨e - ready + 1, key (e - ready) ready M rfl (Nat.le_refl _) (fun _ _ _ _ _ _ => rfl) hC h6 h7 hrd rfl⟩
