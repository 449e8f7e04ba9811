/-! calls that ask, and the tape -/
/-- what a call may change on either side that the relation doesn't look at -/
def FC (M M' : gx_M) : Prop := ∀ o, o ≠ 1 → o ≠ 2 → o ≠ 3 → o ≠ 9 → o ≠ 10 → o ≠ 11 → o ≠ 13 → o ≠ 14 → o ≠ 110 → M' o = M o
def FN (N N' : gx_M) : Prop := (∀ o, o ≠ 0 → o ≠ 9 → o ≠ 18 → o ≠ 19 → o ≠ 20 → o ≠ 21 → o ≠ 22 → o ≠ 23 → N' o = N o) ∧ ∀ j, j ≠ 35 → j ≠ 39 → j ≠ 40 → N' 0 j = N 0 j
theorem FC.tr {A B C : gx_M} (h : FC A B) (k : FC B C) : FC A C := fun o a b c d e f g i j => (k o a b c d e f g i j).trans (h o a b c d e f g i j)
theorem FN.tr {A B C : gx_M} (h : FN A B) (k : FN B C) : FN A C := ⟨fun o a b c d e f g i => (k.1 o a b c d e f g i).trans (h.1 o a b c d e f g i), fun j a b c => (k.2 j a b c).trans (h.2 j a b c)⟩
theorem RRn.frame {M M' N N' : gx_M} (h : RRn M N) (hM : FC M M') (hN : FN N N') : RRn M' N' := by
  have e1 : N' 1 = N 1 := hN.1 1 (by decide) (by decide) (by decide) (by decide) (by decide) (by decide) (by decide) (by decide)
  have e2 : N' 2 = N 2 := hN.1 2 (by decide) (by decide) (by decide) (by decide) (by decide) (by decide) (by decide) (by decide)
  have m0 : M' 0 = M 0 := hM 0 (by decide) (by decide) (by decide) (by decide) (by decide) (by decide) (by decide) (by decide) (by decide)
  unfold RRn
  rw [e1, e2, m0, hN.2 4 (by decide) (by decide) (by decide), hN.2 5 (by decide) (by decide) (by decide)]
  refine ⟨⟨h.1.1.kept0 h.1.2 (fun o ho => hM o (by omega) (by omega) (by omega) (by omega) (by omega) (by omega) (by omega) (by omega) (by omega)), h.1.2⟩, ⟨h.2.1.1.kept1 h.2.1.2.1 (fun o ho => hM o (by omega) (by omega) (by omega) (by omega) (by omega) (by omega) (by omega) (by omega) (by omega)), h.2.1.2⟩, ⟨h.2.2.1.1.kept (by rw [m0]) (hN.2 3 (by decide) (by decide) (by decide)) (hM 6 (by decide) (by decide) (by decide) (by decide) (by decide) (by decide) (by decide) (by decide) (by decide)) (hN.1 3 (by decide) (by decide) (by decide) (by decide) (by decide) (by decide) (by decide) (by decide)), h.2.2.1.2⟩, h.2.2.2.kept h.1.2 (fun q q1 q2 => hM q (by omega) (by omega) (by omega) (by omega) (by omega) (by omega) (by omega) (by omega) (by omega)) (fun o q1 q2 => hN.1 o (by omega) (by omega) (by omega) (by omega) (by omega) (by omega) (by omega) (by omega)) (by rw [e1])⟩
theorem RR.frame {M M' N N' : gx_M} (h : RR M N) (hM : FC M M') (hN : FN N N') (hc : q_cache (N 1) M') : RR M' N' := by
  refine (h.n.frame hM hN).c ?_
  rw [hN.1 1 (by decide) (by decide) (by decide) (by decide) (by decide) (by decide) (by decide) (by decide)]
  exact hc
theorem FrT.fc {M M' : gx_M} (h : FrT M M') : FC M M' := fun o a _ _ _ _ _ b c _ => h.1 o a b c
theorem step_raw : st_raw RR := by
  intro M N h v1 v2
  unfold T_X10_raw T_X11_raw
  refine gd_isSignal (fun n1 => gn_isSignal (fun _ => ⟨rfl, h⟩) (fun q => absurd q n1)) (fun s hs es => ?_)
  have p1 : 0 ≤ v1 ∧ v1 ≤ 3 := by rw [es]; exact v_n (n := 3) (by omega) (by omega)
  refine gd_within (fun n2 => gn_isSignal (fun q => absurd p1 q) (fun _ => gd_in (fun _ => ⟨rfl, h⟩) (fun q => absurd q n2))) (fun p2 => ?_)
  subst es
  obtain ⟨t, ht, rfl⟩ := w_nI 9999 (by omega) p2
  refine ⟨vp_in_nI hs (by omega), ?_⟩
  rw [nI_clamp (by omega)]
  exact s_R h.1.1 h.1.2.1 hs (gn_isSignal (fun q => absurd p1 q) (fun _ => gd_in (fun q => absurd p2 q) (fun _ => n_R h.1.2.1 hs ⟨rfl, h⟩)))
theorem step_out : st_out RR := by
  intro M N h v1 v2
  unfold T_X10_out T_X11_out
  refine gd_isChannel (fun n1 => gn_isChannel (fun _ => ⟨rfl, h⟩) (fun q => absurd q n1)) (fun c hc ec => ?_)
  have p1 : 0 ≤ v1 ∧ v1 ≤ 1 := by rw [ec]; exact v_n (n := 1) (by omega) (by omega)
  refine gd_within (fun n2 => gn_isChannel (fun q => absurd p1 q) (fun _ => gd_in (fun _ => ⟨rfl, h⟩) (fun q => absurd q n2))) (fun p2 => ?_)
  subst ec
  obtain ⟨t, ht, rfl⟩ := w_nI 1999 (by omega) p2
  refine s_outAt h.1.1 h.1.2.1 h.1.2.2 hc (by omega) (fun M' hF hR hc' => ?_)
  refine gn_isChannel (fun q => absurd p1 q) (fun _ => gd_in (fun q => absurd p2 q) (fun _ => ?_))
  refine n_laysOut h.1.2.1 hc (fun N' g1 g2 g3 => ?_)
  simp (disch := omega) only [lit, nI_add, nI_clamp, vp_in_nI, true_and, pk_mul]
  refine ⟨(g2 t (by omega)).symm, h.frame hF.fc ⟨fun o _ b _ _ _ _ _ _ => g1 o b, fun j _ _ _ => by rw [g1 0 (by decide)]⟩ hc'⟩
theorem step_fault : st_fault RR := by
  intro M N h v1
  unfold T_X10_fault T_X11_fault
  exact qc (fun e => qt e ⟨h.2.2.1.2.1, h⟩) (fun e => qc (fun e1 => qf e (qt e1 ⟨h.2.2.1.2.2, h⟩)) (fun e1 => qf e (qf e1 ⟨rfl, h⟩)))
theorem RR.slot {M N : gx_M} {x : Int32} {n : Nat} (h : RR M N) (hn : x = nI n) (h3 : n ≤ 300) (ht : ∀ i, i < n → ∃ b : Nat, b < 256 ∧ M 6 i = nI b ∧ N 3 i = (nI b).toInt8.toInt32) : RR (gx_up M 0 9 x) (gx_up N 0 3 x) := by
  refine ⟨⟨?_, ?_, ?_⟩, ⟨?_, ?_, ?_⟩, ⟨?_, ?_, ?_⟩, ?_⟩
  · rw [gu_ne (by decide)]; exact h.1.1.kept0 h.1.2.1 (fun o ho => gu_ne (by omega))
  · rw [gu_ne (by decide)]; exact h.1.2.1
  · rw [gu_ne (by decide)]; exact h.1.2.2.kept (by rw [gu_ne (by decide)]) (gu_ne (by decide)) (gu_ne (by decide))
  · rw [gu_ne (by decide)]; exact h.2.1.1.kept1 h.2.1.2.1 (fun o ho => gu_ne (by omega))
  · rw [gu_ne (by decide)]; exact h.2.1.2.1
  · rw [gu_ne (by decide), gu_ne (by decide)]; exact h.2.1.2.2
  · refine ⟨n, h3, by rw [gu_eq, ub_eq]; exact hn, by rw [gu_eq, ub_eq]; exact hn, fun i hi => ?_⟩
    rw [gu_ne (by decide), gu_ne (by decide)]; exact ht i hi
  · rw [gu_eq, gu_eq, ub_ne (by decide), ub_ne (by decide)]; exact h.2.2.1.2.1
  · rw [gu_eq, gu_eq, ub_ne (by decide), ub_ne (by decide)]; exact h.2.2.1.2.2
  · exact h.2.2.2.kept h.1.2.1 (fun q q1 q2 => gu_ne (by omega)) (fun q q1 q2 => gu_ne (by omega)) (by rw [gu_ne (by decide)])
theorem step_end : st_end RR := by
  intro M N h v1
  obtain ⟨n, h3, hm, hn, ht⟩ := h.2.2.1.1
  unfold T_X10_end T_X11_end
  rw [hm, hn]
  refine gd_within (fun n1 => gd_in (fun _ => ⟨rfl, h⟩) (fun q => absurd q n1)) (fun p1 => ?_)
  rintro _ rfl
  refine gd_in (fun q => absurd p1 q) (fun _ => ?_)
  rintro _ rfl
  obtain ⟨k, hk, rfl⟩ := w_nI n (by omega) p1
  exact ⟨rfl, h.slot rfl (by omega) (fun i hi => ht i (by omega))⟩
theorem RRn.settext {M N : gx_M} {x : Int32} (h : RRn M N) (h1 : -1 ≤ x ∧ x < N 1 0) : RRn (gx_up M 34 9 x) (gx_up N 1 1 x) := by
  refine h.rest (by omega) (by omega) (RS_up h.1.1 h.1.2 (Or.inr (Or.inr (Or.inl (by omega))))) ?_
  have H : ∀ r : Nat, r ≠ 1 → upd (N 1) 1 x r = N 1 r := fun r g => ub_ne g
  have hok := h.1.2
  obtain ⟨⟨h0, -, h2, h3, h4, h5, h6'⟩, hc, hss, hp⟩ := hok
  refine ⟨by rw [H 0 (by omega), ub_eq, H 2 (by omega), H 3 (by omega), H 4 (by omega), H 5 (by omega), H 6 (by omega)]; exact ⟨h0, h1, h2, h3, h4, h5, h6'⟩, fun c c2 => by rw [H _ (by omega), H _ (by omega), H _ (by omega), H _ (by omega), H _ (by omega), H _ (by omega)]; exact hc c c2, fun s' hs' => ?_, fun c c2 => by rw [H _ (by omega)]; exact hp c c2⟩
  rw [H _ (by omega)]
  refine ⟨(hss s' hs').1, fun k hk => ?_⟩
  rw [H _ (by omega), H _ (by omega), H _ (by omega), H _ (by omega), H _ (by omega)]
  exact (hss s' hs').2 k hk
theorem RR.settext {M N : gx_M} {x : Int32} (h : RR M N) (h1 : -1 ≤ x ∧ x < N 1 0) : RR (gx_up M 34 9 x) (gx_up N 1 1 x) := by
  refine (h.n.settext h1).c ?_
  rw [gu_eq]
  exact (h.1.2.2.cong h.1.2.1 (q_sim_up (by omega))).kept (by rw [gu_ne (by decide)]) (gu_ne (by decide)) (gu_ne (by decide))
theorem step_by : st_by RR := by
  intro M N h v1
  have e8 : M 34 8 = N 1 0 := h.1.1.1.2.1
  obtain ⟨n, hn, en⟩ := toNex 4 (by omega) h.1.2.1.1.1.1 h.1.2.1.1.1.2
  have c0 : (0 : Int32).toNatClampNeg = 0 := rfl
  have c1 : (1 : Int32).toNatClampNeg = 1 := rfl
  have a1 : (nI n - 1).toInt = (n : Int) - 1 := pk_sub_toInt (b := 1) (by omega) (by omega)
  have a2 : (nI n + 1).toInt = (n : Int) + 1 := by rw [nI_1, nI_toInt (by omega)]; omega
  unfold T_X10_by T_X11_by
  rw [e8, c0, c1, en]
  refine gd_within (fun n1 => qf (fun e => n1 ?_) ⟨by unfold vp_in; decide, gd_in (fun _ => ⟨rfl, h⟩) (fun q => absurd ⟨Int32.le_trans (by decide) q.1, q.2⟩ n1)⟩) (fun p1 => ?_)
  · rw [e]
    refine ⟨by decide, Int32.le_iff_toInt_le.mpr ?_⟩
    rw [a1, show (-1 : Int32).toInt = -1 from rfl]; omega
  · rintro _ rfl
    have hlt : -1 ≤ v1 ∧ v1 < N 1 0 := by
      refine ⟨p1.1, Int32.lt_iff_toInt_lt.mpr ?_⟩
      have := il p1.2
      rw [a1] at this
      rw [en, nI_toInt (by omega)]; omega
    have fin := h.settext hlt
    refine qc (fun e => ⟨by unfold vp_in; decide, ?_⟩) (fun e => ⟨by unfold vp_in; decide, ?_⟩)
    · rintro _ rfl; exact ⟨rfl, fin⟩
    · have p2 : 0 ≤ v1 ∧ v1 ≤ nI n - 1 := by
        refine ⟨Int32.le_iff_toInt_le.mpr ?_, p1.2⟩
        have q1 := il p1.1
        rw [show (-1 : Int32).toInt = -1 from rfl] at q1
        rw [show (0 : Int32).toInt = 0 from rfl]
        have : v1.toInt ≠ -1 := fun z => e (Int32.toInt_inj.mp z)
        omega
      refine gd_in (fun q => absurd p2 q) (fun _ => ⟨by unfold vp_in; decide, ?_⟩)
      rintro _ rfl; exact ⟨rfl, fin⟩
