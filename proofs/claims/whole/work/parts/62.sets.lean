/-! the calls that set -/
def RRn (M N : gx_M) : Prop := (RS 0 (N 1) M ∧ okA (N 1)) ∧ (RS 1 (N 2) M ∧ okA (N 2) ∧ N 2 0 ≤ N 1 0) ∧ (q_tape M N ∧ M 0 10 = N 0 4 ∧ M 0 11 = N 0 5) ∧ q_texts M N
theorem RR.n {M N : gx_M} (h : RR M N) : RRn M N := ⟨⟨h.1.1, h.1.2.1⟩, h.2.1, h.2.2.1, h.2.2.2⟩
theorem RRn.c {M N : gx_M} (h : RRn M N) (hc : q_cache (N 1) M) : RR M N := ⟨⟨h.1.1, h.1.2, hc⟩, h.2.1, h.2.2.1, h.2.2.2⟩
theorem RS.kept1 {a : Nat → Int32} {M M' : gx_M} (h : RS 1 a M) (hok : okA a) (hk : ∀ o, (o = 35 ∨ o = 41 ∨ (46 ≤ o ∧ o < 50) ∨ (60 ≤ o ∧ o < 62) ∨ (86 ≤ o ∧ o < 110)) → M' o = M o) : RS 1 a M' := by
  obtain ⟨⟨h1, h2, h3⟩, h4, h5, h6⟩ := h
  refine ⟨⟨fun j hj => ?_, ?_, ?_⟩, fun c hc => ?_, fun c hc => ?_, fun s hs => ⟨?_, fun k hk2 j hj => ?_⟩⟩
  · rw [hk _ (by omega)]; exact h1 j hj
  · rw [hk _ (by omega)]; exact h2
  · rw [hk _ (by omega)]; exact h3
  · rw [hk _ (by omega)]; exact h4 c hc
  · rw [hk _ (by omega)]; exact h5 c hc
  · rw [hk _ (by omega)]; exact (h6 s hs).1
  · have := (okN hok hs).1
    rw [hk _ (by omega)]; exact (h6 s hs).2 k hk2 j hj
theorem RS.kept0 {a : Nat → Int32} {M M' : gx_M} (h : RS 0 a M) (hok : okA a) (hk : ∀ o, (o = 34 ∨ o = 40 ∨ (42 ≤ o ∧ o < 46) ∨ (58 ≤ o ∧ o < 60) ∨ (62 ≤ o ∧ o < 86)) → M' o = M o) : RS 0 a M' := by
  obtain ⟨⟨h1, h2, h3⟩, h4, h5, h6⟩ := h
  refine ⟨⟨fun j hj => ?_, ?_, ?_⟩, fun c hc => ?_, fun c hc => ?_, fun s hs => ⟨?_, fun k hk2 j hj => ?_⟩⟩
  · rw [hk _ (by omega)]; exact h1 j hj
  · rw [hk _ (by omega)]; exact h2
  · rw [hk _ (by omega)]; exact h3
  · rw [hk _ (by omega)]; exact h4 c hc
  · rw [hk _ (by omega)]; exact h5 c hc
  · rw [hk _ (by omega)]; exact (h6 s hs).1
  · have := (okN hok hs).1
    rw [hk _ (by omega)]; exact (h6 s hs).2 k hk2 j hj
theorem q_tape.kept {M M' N N' : gx_M} (h : q_tape M N) (h9 : M' 0 9 = M 0 9) (h3 : N' 0 3 = N 0 3) (h6 : M' 6 = M 6) (hn : N' 3 = N 3) : q_tape M' N' := by
  obtain ⟨n, a, b, c, d⟩ := h
  exact ⟨n, a, h9.trans b, h3.trans c, fun i hi => by rw [h6, hn]; exact d i hi⟩
theorem q_cs_o {i o j : Nat} (h : q_cs i o j) : o = 34 ∨ o = 40 ∨ (58 ≤ o ∧ o < 60) := by
  unfold q_cs at h
  rcases h with ⟨k', h⟩ | h | h | ⟨c', h⟩ | ⟨c', h⟩ <;> omega
/-- the image, the tape and the texts stay where a cell of the setup alone changes -/
theorem RRn.rest {M N : gx_M} {i o j : Nat} {x : Int32} (h : RRn M N) (ho : (34 ≤ o ∧ o < 110) ∧ ¬ (o = 35 ∨ o = 41 ∨ (46 ≤ o ∧ o < 50) ∨ (60 ≤ o ∧ o < 62) ∨ (86 ≤ o ∧ o < 110))) (hi : i ≠ 0) (hS : RS 0 (upd (N 1) i x) (gx_up M o j x)) (hok : okA (upd (N 1) i x)) : RRn (gx_up M o j x) (gx_up N 1 i x) := by
  have e1 : gx_up N 1 i x 1 = upd (N 1) i x := gu_eq _ _ _ _
  have e0 : gx_up N 1 i x 1 0 = N 1 0 := by rw [e1, ub_ne (Ne.symm hi)]
  refine ⟨by rw [e1]; exact ⟨hS, hok⟩, ⟨?_, ?_, ?_⟩, ⟨?_, ?_, ?_⟩, ?_⟩
  · rw [gu_ne (by decide)]; exact h.2.1.1.kept1 h.2.1.2.1 (fun q hq => gu_ne (by omega))
  · rw [gu_ne (by decide)]; exact h.2.1.2.1
  · rw [gu_ne (by decide), e0]; exact h.2.1.2.2
  · exact h.2.2.1.1.kept (by rw [gu_ne (by omega)]) (by rw [gu_ne (by decide)]) (gu_ne (by omega)) (gu_ne (by decide))
  · rw [gu_ne (by omega), gu_ne (by decide)]; exact h.2.2.1.2.1
  · rw [gu_ne (by omega), gu_ne (by decide)]; exact h.2.2.1.2.2
  · exact h.2.2.2.kept h.1.2 (fun q q1 q2 => gu_ne (by omega)) (fun q q1 q2 => gu_ne (by omega)) e0
theorem RRn.set {M N : gx_M} {i o j : Nat} {x : Int32} (h : RRn M N) (hi : q_cs i o j) (hr : (2 ≤ i ∧ i < 24) ∨ 150 ≤ i) (hx : okI i x) : RRn (gx_up M o j x) (gx_up N 1 i x) :=
  h.rest (by have := q_cs_o hi; omega) (by omega) (RS_up h.1.1 h.1.2 hi) (okA_up h.1.2 hr hx)
theorem RR.set {M N : gx_M} {i o j : Nat} {x : Int32} (h : RR M N) (hi : q_cs i o j) (hr : (2 ≤ i ∧ i < 24) ∨ 150 ≤ i) (hx : okI i x) (hs : ¬ (i = 10 ∨ i = 11 ∨ (16 ≤ i ∧ i < 150))) : RR (gx_up M o j x) (gx_up N 1 i x) := by
  have ho := q_cs_o hi
  refine (h.n.set hi hr hx).c ?_
  rw [gu_eq]
  exact (h.1.2.2.cong h.1.2.1 (q_sim_up hs)).kept (by rw [gu_ne (by omega)]) (gu_ne (by omega)) (gu_ne (by omega))
theorem RRn.forget {M N : gx_M} (h : RRn M N) : RR (gx_up M 1 5 0) N := by
  refine ⟨⟨h.1.1.kept0 h.1.2 (fun o ho => gu_ne (by omega)), h.1.2, q_cacheL.none (by rw [gu_eq, ub_eq])⟩, ⟨h.2.1.1.kept1 h.2.1.2.1 (fun o ho => gu_ne (by omega)), h.2.1.2⟩, ⟨h.2.2.1.1.kept (by rw [gu_ne (by decide)]) rfl (gu_ne (by decide)) rfl, by rw [gu_ne (by decide)]; exact h.2.2.1.2.1, by rw [gu_ne (by decide)]; exact h.2.2.1.2.2⟩, h.2.2.2.kept h.1.2 (fun q q1 q2 => gu_ne (by omega)) (fun _ _ _ => rfl) rfl⟩
theorem step_base : st_base RR := by
  intro M N h v1 v2 v3
  refine tt_base h (fun M1 N1 e1 e2 p1 p2 p3 => ?_)
  subst e1; subst e2
  have r1 := h.set (i := 2) (o := 34) (j := 3) (x := v1) (Or.inl ⟨0, by omega⟩) (by omega) ⟨fun _ => p1, by omega, by omega, by omega, by omega, by omega, by omega, by omega, by omega, by omega, by omega, by omega⟩ (by omega)
  have r2 := r1.set (i := 3) (o := 34) (j := 4) (x := v2) (Or.inl ⟨1, by omega⟩) (by omega) ⟨by omega, fun _ => p2, by omega, by omega, by omega, by omega, by omega, by omega, by omega, by omega, by omega, by omega⟩ (by omega)
  exact r2.set (i := 4) (o := 34) (j := 5) (x := v3) (Or.inl ⟨2, by omega⟩) (by omega) ⟨by omega, by omega, fun _ => p3, by omega, by omega, by omega, by omega, by omega, by omega, by omega, by omega, by omega⟩ (by omega)
theorem step_mode : st_mode RR := by
  intro M N h v1 v2
  unfold T_X10_mode T_X11_mode
  refine gd_within (fun n1 => gd_in (fun _ => ⟨rfl, h⟩) (fun q => absurd q n1)) (fun p1 => ?_)
  refine gd_within (fun n2 => gd_in (fun q => absurd p1 q) (fun _ => gd_in (fun _ => ⟨rfl, h⟩) (fun q => absurd q n2))) (fun p2 => ?_)
  rintro _ rfl _ rfl
  refine gd_in (fun q => absurd p1 q) (fun _ => gd_in (fun q => absurd p2 q) (fun _ => ?_))
  refine ⟨by unfold vp_in; decide, ?_⟩
  rintro _ rfl
  refine ⟨by unfold vp_in; decide, ?_⟩
  rintro _ rfl
  refine ⟨rfl, ?_⟩
  have r1 := h.set (i := 5) (o := 34) (j := 6) (x := v1) (Or.inl ⟨3, by omega⟩) (by omega) ⟨by omega, by omega, by omega, fun _ => p1, by omega, by omega, by omega, by omega, by omega, by omega, by omega, by omega⟩ (by omega)
  exact r1.set (i := 6) (o := 34) (j := 7) (x := v2) (Or.inl ⟨4, by omega⟩) (by omega) ⟨by omega, by omega, by omega, by omega, fun _ => p2, by omega, by omega, by omega, by omega, by omega, by omega, by omega⟩ (by omega)
theorem w_nI {v : Int32} (n : Nat) (hn : n < 2 ^ 31) (h : 0 ≤ v ∧ v ≤ nI n) : ∃ k, k ≤ n ∧ v = nI k := toNex n hn h.1 h.2
theorem gd_isChannel {M : gx_M} {v : Int32} {A B : Prop} (hf : ¬ (0 ≤ v ∧ v ≤ 1) → A) (ht : ∀ c, c < 2 → v = nI c → B) : T_X10_isChannel M v (fun r => if r = 0 then A else B) := by
  unfold T_X10_isChannel
  refine sp_within ⟨b01o, ?_⟩
  by_cases e : 0 ≤ v ∧ v ≤ 1
  · rw [if_pos e]
    obtain ⟨k, hk, hv⟩ := w_nI 1 (by omega) e
    exact qf (by decide) (ht k (by omega) hv)
  · rw [if_neg e]; exact qt rfl (hf e)
theorem gn_isChannel {M : gx_M} {v : Int32} {A B : Prop} (hf : ¬ (0 ≤ v ∧ v ≤ 1) → A) (ht : (0 ≤ v ∧ v ≤ 1) → B) : T_X11_isChannel M v (fun r => if r = 0 then A else B) := by
  unfold T_X11_isChannel
  refine sp_in ⟨b01o, ?_⟩
  by_cases e : 0 ≤ v ∧ v ≤ 1
  · rw [if_pos e]; exact qf (by decide) (ht e)
  · rw [if_neg e]; exact qt rfl (hf e)
theorem gd_isSignal {M : gx_M} {v : Int32} {A B : Prop} (hf : ¬ (0 ≤ v ∧ v ≤ 3) → A) (ht : ∀ c, c < 4 → v = nI c → B) : T_X10_isSignal M v (fun r => if r = 0 then A else B) := by
  unfold T_X10_isSignal
  refine sp_within ⟨b01o, ?_⟩
  by_cases e : 0 ≤ v ∧ v ≤ 3
  · rw [if_pos e]
    obtain ⟨k, hk, hv⟩ := w_nI 3 (by omega) e
    exact qf (by decide) (ht k (by omega) hv)
  · rw [if_neg e]; exact qt rfl (hf e)
theorem gn_isSignal {M : gx_M} {v : Int32} {A B : Prop} (hf : ¬ (0 ≤ v ∧ v ≤ 3) → A) (ht : (0 ≤ v ∧ v ≤ 3) → B) : T_X11_isSignal M v (fun r => if r = 0 then A else B) := by
  unfold T_X11_isSignal
  refine sp_in ⟨b01o, ?_⟩
  by_cases e : 0 ≤ v ∧ v ≤ 3
  · rw [if_pos e]; exact qf (by decide) (ht e)
  · rw [if_neg e]; exact qt rfl (hf e)
theorem gd_isSpan {M : gx_M} {v : Int32} {A B : Prop} (hf : ¬ (1 ≤ v ∧ v ≤ 2000) → A) (ht : ∀ e, 1 ≤ e → e ≤ 2000 → v = nI e → B) : T_X10_isSpan M v (fun r => if r = 0 then A else B) := by
  unfold T_X10_isSpan
  refine sp_within ⟨b01o, ?_⟩
  by_cases e : 1 ≤ v ∧ v ≤ 2000
  · rw [if_pos e]
    obtain ⟨k, hk, hv⟩ := w_nI 2000 (by omega) ⟨Int32.le_trans (by decide) e.1, e.2⟩
    refine qf (by decide) (ht k ?_ hk hv)
    have e1 := e.1
    rw [hv] at e1
    exact (nI_leI (a := 1) (by omega) (by omega)).mp e1
  · rw [if_neg e]; exact qt rfl (hf e)
theorem gn_isEnd {M : gx_M} {v : Int32} {A B : Prop} (hf : ¬ (1 ≤ v ∧ v ≤ 2000) → A) (ht : (1 ≤ v ∧ v ≤ 2000) → B) : T_X11_isEnd M v (fun r => if r = 0 then A else B) := by
  unfold T_X11_isEnd
  refine sp_in ⟨b01o, ?_⟩
  by_cases e : 1 ≤ v ∧ v ≤ 2000
  · rw [if_pos e]; exact qf (by decide) (ht e)
  · rw [if_neg e]; exact qt rfl (hf e)
theorem gn_isLight {M : gx_M} {v : Int32} {A B : Prop} (hf : ¬ (1 ≤ v ∧ v ≤ 999) → A) (ht : (1 ≤ v ∧ v ≤ 999) → B) : T_X11_isLight M v (fun r => if r = 0 then A else B) := by
  unfold T_X11_isLight
  refine sp_in ⟨b01o, ?_⟩
  by_cases e : 1 ≤ v ∧ v ≤ 999
  · rw [if_pos e]; exact qf (by decide) (ht e)
  · rw [if_neg e]; exact qt rfl (hf e)
theorem v_n {k n : Nat} (h : k ≤ n) (hn : n < 2 ^ 31) : (0 : Int32) ≤ nI k ∧ nI k ≤ nI n := ⟨nI_pos' (by omega), nI_le h hn⟩
theorem v_1 {k : Nat} (h1 : 1 ≤ k) (h : k ≤ 2000) : (1 : Int32) ≤ nI k ∧ nI k ≤ 2000 := ⟨show nI 1 ≤ nI k from nI_le h1 (by omega), show nI k ≤ nI 2000 from nI_le h (by omega)⟩
theorem step_probe : st_probe RR := by
  intro M N h v1 v2 v3 v4
  unfold T_X10_probe T_X11_probe
  refine gd_isChannel (fun n1 => gn_isChannel (fun _ => ⟨rfl, h⟩) (fun q => absurd q n1)) (fun c hc ec => ?_)
  have p1 : 0 ≤ v1 ∧ v1 ≤ 1 := by rw [ec]; exact v_n (n := 1) (by omega) (by omega)
  refine gd_within (fun n2 => gn_isChannel (fun q => absurd p1 q) (fun _ => gd_in (fun _ => ⟨rfl, h⟩) (fun q => absurd q n2))) (fun p2 => ?_)
  refine gd_within (fun n3 => gn_isChannel (fun q => absurd p1 q) (fun _ => gd_in (fun q => absurd p2 q) (fun _ => gd_in (fun _ => ⟨rfl, h⟩) (fun q => absurd q n3)))) (fun p3 => ?_)
  refine gd_within (fun n4 => gn_isChannel (fun q => absurd p1 q) (fun _ => gd_in (fun q => absurd p2 q) (fun _ => gd_in (fun q => absurd p3 q) (fun _ => gd_in (fun _ => ⟨rfl, h⟩) (fun q => absurd q n4))))) (fun p4 => ?_)
  subst ec
  refine ⟨vp_in_nI hc (by omega), ?_⟩
  unfold T_X2_setProbe T_X1_forget
  rintro _ rfl _ rfl _ rfl _ rfl
  refine gn_isChannel (fun q => absurd p1 q) (fun _ => gd_in (fun q => absurd p2 q) (fun _ => gd_in (fun q => absurd p3 q) (fun _ => gd_in (fun q => absurd p4 q) (fun _ => ?_))))
  simp (disch := omega) only [lit, nI_add, nI_clamp, vp_in_nI, true_and]
  rintro _ rfl _ rfl _ rfl
  refine RRn.forget ?_
  have r1 := h.n.set (i := 16 + c) (o := 58 + c) (j := 1) (x := v2) (Or.inr (Or.inr (Or.inr (Or.inr ⟨c, by omega⟩)))) (by omega) ⟨by omega, by omega, by omega, by omega, by omega, by omega, by omega, by omega, fun _ _ _ => p2, by omega, by omega, by omega⟩
  have r2 := r1.set (i := 18 + c) (o := 58 + c) (j := 2) (x := v3) (Or.inr (Or.inr (Or.inr (Or.inr ⟨c, by omega⟩)))) (by omega) ⟨by omega, by omega, by omega, by omega, by omega, by omega, by omega, by omega, by omega, fun _ _ _ => p3, by omega, by omega⟩
  exact r2.set (i := 20 + c) (o := 58 + c) (j := 3) (x := v4) (Or.inr (Or.inr (Or.inr (Or.inr ⟨c, by omega⟩)))) (by omega) ⟨by omega, by omega, by omega, by omega, by omega, by omega, by omega, by omega, by omega, by omega, fun _ _ _ => p4, by omega⟩
theorem step_channel : st_channel RR := by
  intro M N h v1 v2 v3 v4
  unfold T_X10_channel T_X11_channel
  refine gd_isChannel (fun n1 => gn_isChannel (fun _ => ⟨rfl, h⟩) (fun q => absurd q n1)) (fun c hc ec => ?_)
  have p1 : 0 ≤ v1 ∧ v1 ≤ 1 := by rw [ec]; exact v_n (n := 1) (by omega) (by omega)
  refine gd_isSignal (fun n2 => gn_isChannel (fun q => absurd p1 q) (fun _ => gn_isSignal (fun _ => ⟨rfl, h⟩) (fun q => absurd q n2))) (fun s hs es => ?_)
  have p2 : 0 ≤ v2 ∧ v2 ≤ 3 := by rw [es]; exact v_n (n := 3) (by omega) (by omega)
  refine gd_within (fun n3 => gn_isChannel (fun q => absurd p1 q) (fun _ => gn_isSignal (fun q => absurd p2 q) (fun _ => gd_in (fun _ => ⟨rfl, h⟩) (fun q => absurd q n3)))) (fun p3 => ?_)
  refine gd_within (fun n4 => gn_isChannel (fun q => absurd p1 q) (fun _ => gn_isSignal (fun q => absurd p2 q) (fun _ => gd_in (fun q => absurd p3 q) (fun _ => gd_in (fun _ => ⟨rfl, h⟩) (fun q => absurd q n4))))) (fun p4 => ?_)
  subst ec
  refine ⟨vp_in_nI hc (by omega), ?_⟩
  unfold T_X2_setView T_X1_forget
  rintro _ rfl _ rfl _ rfl _ rfl
  refine gn_isChannel (fun q => absurd p1 q) (fun _ => gn_isSignal (fun q => absurd p2 q) (fun _ => gd_in (fun q => absurd p3 q) (fun _ => gd_in (fun q => absurd p4 q) (fun _ => ?_))))
  simp (disch := omega) only [lit, nI_add, nI_clamp, vp_in_nI, true_and]
  rintro _ rfl _ rfl _ rfl
  refine RRn.forget ?_
  have r1 := h.n.set (i := 10 + c) (o := 58 + c) (j := 0) (x := v2) (Or.inr (Or.inr (Or.inr (Or.inr ⟨c, by omega⟩)))) (by omega) ⟨by omega, by omega, by omega, by omega, by omega, fun _ _ _ => p2, by omega, by omega, by omega, by omega, by omega, by omega⟩
  have r2 := r1.set (i := 12 + c) (o := 58 + c) (j := 4) (x := v3) (Or.inr (Or.inr (Or.inr (Or.inr ⟨c, by omega⟩)))) (by omega) ⟨by omega, by omega, by omega, by omega, by omega, by omega, fun _ _ _ => p3, by omega, by omega, by omega, by omega, by omega⟩
  exact r2.set (i := 14 + c) (o := 58 + c) (j := 5) (x := v4) (Or.inr (Or.inr (Or.inr (Or.inr ⟨c, by omega⟩)))) (by omega) ⟨by omega, by omega, by omega, by omega, by omega, by omega, by omega, fun _ _ _ => p4, by omega, by omega, by omega, by omega⟩
theorem step_photo : st_photo RR := by
  intro M N h v1 v2
  unfold T_X10_photo T_X11_photo
  refine gd_within (fun n1 => gd_in (fun _ => ⟨rfl, h⟩) (fun q => absurd q n1)) (fun p1 => ?_)
  refine gd_within (fun n2 => gd_in (fun q => absurd p1 q) (fun _ => gd_in (fun _ => ⟨rfl, h⟩) (fun q => absurd q n2))) (fun p2 => ?_)
  obtain ⟨c, hc, rfl⟩ := w_nI 19 (by omega) p1
  refine ⟨vp_in_nI (by omega) (by omega), ?_⟩
  rintro _ rfl
  refine gd_in (fun q => absurd p1 q) (fun _ => gd_in (fun q => absurd p2 q) (fun _ => ?_))
  simp (disch := omega) only [lit, nI_add, nI_clamp, vp_in_nI, true_and]
  rintro _ rfl
  exact h.set (i := 150 + c) (o := 40) (j := c) (x := v2) (Or.inr (Or.inr (Or.inr (Or.inl ⟨c, by omega⟩)))) (by omega) ⟨by omega, by omega, by omega, by omega, by omega, by omega, by omega, by omega, by omega, by omega, by omega, fun _ _ _ => p2⟩ (by omega)
