/-! sweeps: where they begin, for both sides -/
def q_w (a : Nat → Int32) (t ready k : Nat) : Nat → Int32
  | 0 => q_O a 0 t
  | 1 => q_W a 0 t
  | 2 => q_O a 1 t
  | 3 => nI t
  | 4 => nI t - nI t / 40 * 40
  | 5 => nI k
  | 6 => nI t - nI ready
  | _ => 0
theorem q_w_wd {a : Nat → Int32} (hok : okA a) {t ready k : Nat} (ht : t < 2000) (hr : ready ≤ t) (hk : k ≤ 2000) : q_wd (q_w a t ready k) := by
  intro i hi
  match i, hi with
  | 0, _ => have := q_W_bd hok (c := 0) (by omega) (t + 1); exact ⟨by show _ ≤ (q_W a 0 (t + 1)).toInt; omega, by show (q_W a 0 (t + 1)).toInt ≤ _; omega⟩
  | 1, _ => have := q_W_bd hok (c := 0) (by omega) t; exact ⟨by show _ ≤ (q_W a 0 t).toInt; omega, by show (q_W a 0 t).toInt ≤ _; omega⟩
  | 2, _ => have := q_W_bd hok (c := 1) (by omega) (t + 1); exact ⟨by show _ ≤ (q_W a 1 (t + 1)).toInt; omega, by show (q_W a 1 (t + 1)).toInt ≤ _; omega⟩
  | 3, _ => show -1000000 ≤ (nI t).toInt ∧ (nI t).toInt ≤ 1000000; rw [nI_toInt (by omega)]; omega
  | 4, _ =>
    show -1000000 ≤ (nI t - nI t / 40 * 40).toInt ∧ (nI t - nI t / 40 * 40).toInt ≤ 1000000
    have e : nI t - nI t / 40 * 40 = nI (t % 40) := pk_rem (d := 40) (by omega) (by omega) (by omega)
    rw [e, nI_toInt (by omega)]; omega
  | 5, _ => show -1000000 ≤ (nI k).toInt ∧ (nI k).toInt ≤ 1000000; rw [nI_toInt (by omega)]; omega
  | 6, _ => show -1000000 ≤ (nI t - nI ready).toInt ∧ (nI t - nI ready).toInt ≤ 1000000; rw [pk_sub_toInt (by omega) (by omega)]; omega
def q_rl (tr : Nat → Nat → Nat → Bool) (ho : Nat → Nat → Nat → Nat) (dl pc : Nat) : Nat → Nat → Nat → Nat → List Nat
  | 0, _, _, _ => []
  | m + 1, t, ready, k => if t < ready then q_rl tr ho dl pc m (t + 1) ready k else if tr t ready k = true then (t + dl) :: q_rl tr ho dl pc m (t + 1) (t + dl + 20 * pc + ho t ready k) (k + 1) else q_rl tr ho dl pc m (t + 1) ready k
theorem q_rl_skip {tr : Nat → Nat → Nat → Bool} {ho : Nat → Nat → Nat → Nat} {dl pc : Nat} (ready k : Nat) : ∀ m t, t ≤ ready → q_rl tr ho dl pc m t ready k = q_rl tr ho dl pc (m - (ready - t)) ready ready k := by
  intro m
  induction m with
  | zero => intro t ht; rw [Nat.zero_sub]; rfl
  | succ m ih =>
    intro t ht
    by_cases c : t < ready
    · show (if t < ready then q_rl tr ho dl pc m (t + 1) ready k else _) = _
      rw [if_pos c, ih (t + 1) (by omega), show m - (ready - (t + 1)) = m + 1 - (ready - t) by omega]
    · obtain rfl : t = ready := by omega
      rw [Nat.sub_self, Nat.sub_zero]
def q_tr (a : Nat → Int32) (G : List (Bool × List Int32)) (t ready k : Nat) : Bool := q_trig (q_w a t ready k) G
def q_ho (a : Nat → Int32) (G : List (Bool × List Int32)) (t ready k : Nat) : Nat := q_clamp (q_hv (q_w a t ready k) G)
def q_SL (a : Nat → Int32) (G : List (Bool × List Int32)) (m t ready k : Nat) : List Nat := q_rl (q_tr a G) (q_ho a G) (a 3).toNatClampNeg (a 2).toNatClampNeg m t ready k
theorem q_SL_0 (a : Nat → Int32) (G : List (Bool × List Int32)) (t ready k : Nat) : q_SL a G 0 t ready k = [] := rfl
theorem q_SL_lt {a : Nat → Int32} {G : List (Bool × List Int32)} {m t ready k : Nat} (h : t < ready) : q_SL a G (m + 1) t ready k = q_SL a G m (t + 1) ready k := if_pos h
theorem q_SL_no {a : Nat → Int32} {G : List (Bool × List Int32)} {m t ready k : Nat} (h : ¬ t < ready) (h2 : q_tr a G t ready k = false) : q_SL a G (m + 1) t ready k = q_SL a G m (t + 1) ready k := by
  refine (if_neg h).trans (if_neg ?_)
  rw [h2]; decide
theorem q_SL_yes {a : Nat → Int32} {G : List (Bool × List Int32)} {m t ready k : Nat} (h : ¬ t < ready) (h2 : q_tr a G t ready k = true) : q_SL a G (m + 1) t ready k = (t + (a 3).toNatClampNeg) :: q_SL a G m (t + 1) (t + (a 3).toNatClampNeg + 20 * (a 2).toNatClampNeg + q_ho a G t ready k) (k + 1) := (if_neg h).trans (if_pos h2)
theorem q_SL_skip {a : Nat → Int32} {G : List (Bool × List Int32)} {m t ready k : Nat} (h : t ≤ ready) : q_SL a G m t ready k = q_SL a G (m - (ready - t)) ready ready k := q_rl_skip ready k m t h
theorem q_clamp_le (v : Int) : q_clamp v ≤ 9999 := by
  unfold q_clamp
  by_cases h : v < 0
  · rw [if_pos h]; omega
  · rw [if_neg h]
    by_cases h2 : 9999 < v
    · rw [if_pos h2]; omega
    · rw [if_neg h2]; omega
theorem okP {a : Nat → Int32} (hok : okA a) : (1 ≤ (a 2).toNatClampNeg ∧ (a 2).toNatClampNeg ≤ 50 ∧ a 2 = nI (a 2).toNatClampNeg) ∧ ((a 3).toNatClampNeg ≤ 999 ∧ a 3 = nI (a 3).toNatClampNeg) := by
  obtain ⟨⟨-, -, ⟨h1, h2⟩, ⟨h3, h4⟩, -⟩, -⟩ := hok
  have z : (0 : Int32) ≤ a 2 := Int32.le_trans (by decide) h1
  refine ⟨⟨?_, toNle 50 (by omega) z h2, toN z⟩, toNle 999 (by omega) h3 h4, toN h3⟩
  have e := toN z
  rw [e] at h1
  have : (1 : Nat) ≤ (a 2).toNatClampNeg := (nI_leI (a := 1) (by omega) (by have := toNle 50 (by omega) z h2; omega)).mp h1
  exact this
theorem n_words {N : gx_M} {a : Nat → Int32} {t ready k : Nat} {Q : gx_M → Prop} (ht : t < 2000) (ho : ∀ c, c < 2 → ∀ t, t < 2000 → N 9 (2000 * c + t) = q_O a c t) (hk : N 0 35 = nI k)
    (h : ∀ N' : gx_M, (∀ o, o ≠ 18 → N' o = N o) → (∀ i, i < 7 → N' 18 i = q_w a t ready k i) → Q N') : T_X11_words N (nI t) (nI ready) Q := by
  have o0 := ho 0 (by omega) t ht
  have o1 := ho 1 (by omega) t ht
  rw [Nat.mul_zero, Nat.zero_add] at o0
  rw [Nat.mul_one] at o1
  have key : ∀ w : Int32, w = q_W a 0 t → T_X11_words_33 Q (gx_up N 18 0 (q_O a 0 t)) w 1 (nI t) (nI ready) := by
    intro w hw
    unfold T_X11_words_33
    refine ⟨by unfold vp_in; decide, ?_⟩
    rintro _ rfl
    refine ⟨show vp_in (nI 2000 + nI t) 4000 from by rw [nI_add]; exact vp_in_nI (by omega) (by omega), by unfold vp_in; decide, ?_⟩
    rintro _ rfl
    refine ⟨by unfold vp_in; decide, ?_⟩
    rintro _ rfl
    refine ⟨by unfold vp_in; decide, ?_⟩
    rintro _ rfl
    refine ⟨by unfold vp_in; decide, ?_⟩
    rintro _ rfl
    refine ⟨by unfold vp_in; decide, ?_⟩
    rintro _ rfl
    have e2 : (2000 + nI t).toNatClampNeg = 2000 + t := by
      show (nI 2000 + nI t).toNatClampNeg = _
      rw [nI_add, nI_clamp (by omega)]
    refine h _ (fun o ho => by rw [gu_ne ho, gu_ne ho, gu_ne ho, gu_ne ho, gu_ne ho, gu_ne ho, gu_ne ho]) (fun i hi => ?_)
    have c1 : (1 : Int32).toNatClampNeg = 1 := rfl
    have c2 : (2 : Int32).toNatClampNeg = 2 := rfl
    have c3 : (3 : Int32).toNatClampNeg = 3 := rfl
    have c4 : (4 : Int32).toNatClampNeg = 4 := rfl
    have c5 : (5 : Int32).toNatClampNeg = 5 := rfl
    have c6 : (6 : Int32).toNatClampNeg = 6 := rfl
    simp only [gu_at, c1, c2, c3, c4, c5, c6, e2]
    match i, hi with
    | 0, _ => simp [q_w]
    | 1, _ => simp [q_w, hw]
    | 2, _ => simp [q_w, o1]
    | 3, _ => simp [q_w]
    | 4, _ => simp [q_w]
    | 5, _ => simp [q_w, hk]
    | 6, _ => simp [q_w]
  unfold T_X11_words
  refine ⟨vp_in_nI (by omega) (by omega), by unfold vp_in; decide, ?_⟩
  rintro _ rfl
  rw [nI_clamp (by omega), o0]
  have c0 : (0 : Int32).toNatClampNeg = 0 := rfl
  rw [c0]
  refine qc (fun e => ?_) (fun e => ?_)
  · have : t = 0 := (nI_eq (b := 0) (by omega) (by omega)).mp e
    subst this
    exact key _ rfl
  · obtain ⟨t', rfl⟩ : ∃ t', t = t' + 1 := by
      cases t with
      | zero => exact absurd rfl e
      | succ t => exact ⟨t, rfl⟩
    rw [nI_pred]
    refine ⟨vp_in_nI (by omega) (by omega), ?_⟩
    have o2 := ho 0 (by omega) t' (by omega)
    rw [Nat.mul_zero, Nat.zero_add] at o2
    refine key _ ?_
    rw [nI_clamp (by omega), gu_ne (by decide), o2]; rfl
/-- what the reference changes as it looks for sweeps -/
def FrNs (N N' : gx_M) : Prop := (∀ o, o ≠ 0 → o ≠ 18 → o ≠ 19 → o ≠ 20 → N' o = N o) ∧ ∀ j, j ≠ 35 → N' 0 j = N 0 j
theorem FrNs.tr {A B C : gx_M} (h : FrNs A B) (k : FrNs B C) : FrNs A C := ⟨fun o a b c d => (k.1 o a b c d).trans (h.1 o a b c d), fun j hj => (k.2 j hj).trans (h.2 j hj)⟩
theorem q_rc.kept {N N' : gx_M} {tx : Int32} {G : List (Bool × List Int32)} (h : q_rc N tx G) (hk : ∀ o, 4 ≤ o → o ≤ 8 → N' o = N o) : q_rc N' tx G := by
  rcases h with h | ⟨t, ht, hx, h4, hG, hL, hr⟩
  · exact Or.inl h
  · exact Or.inr ⟨t, ht, hx, by rw [hk 4 (by omega) (by omega)]; exact h4, hG, hL, q_ref_cong hr (fun k _ => by rw [hk 5 (by omega) (by omega)]) (fun k _ => by rw [hk 6 (by omega) (by omega)]) (fun k _ _ => by rw [hk 7 (by omega) (by omega), hk 8 (by omega) (by omega)]; exact ⟨rfl, rfl⟩)⟩
def q_lst (r : Nat → Int32) (D : List Nat) : Prop := ∀ i, i < D.length → r i = nI (D.getD i 0)
theorem q_lst_add {r : Nat → Int32} {D : List Nat} (h : q_lst r D) (b : Nat) : q_lst (upd r D.length (nI b)) (D ++ [b]) := by
  intro i hi
  rw [List.length_append, List.length_singleton] at hi
  by_cases e : i = D.length
  · subst e; rw [ub_eq]; simp
  · rw [ub_ne e, h i (by omega)]
    rw [List.getD_eq_getElem?_getD, List.getD_eq_getElem?_getD, List.getElem?_append_left (by omega)]
theorem n_sweeps {N : gx_M} {G : List (Bool × List Int32)} {e : Nat} {Q : gx_M → Prop} (hok : okA (N 1)) (hp : q_rc N (N 1 1) G) (hg : q_wf G) (ho : ∀ c, c < 2 → ∀ t, t < 2000 → N 9 (2000 * c + t) = q_O (N 1) c t) (he : e ≤ 2000)
    (h : ∀ N' : gx_M, FrNs N N' → (q_SL (N 1) G e 0 0 0).length ≤ 100 → N' 0 35 = nI (q_SL (N 1) G e 0 0 0).length → q_lst (N' 20) (q_SL (N 1) G e 0 0 0) → Q N') : T_X11_sweeps N (nI e) Q := by
  obtain ⟨⟨p1, p50, ep⟩, p3, e3⟩ := okP hok
  have key : ∀ m t ready (N' : gx_M) (D : List Nat), t + m = e → FrNs N N' → 20 * D.length ≤ ready → ready ≤ t + 20000 → D.length ≤ 100 → (q_lst (N' 20) D) → N' 0 35 = nI D.length → D ++ q_SL (N 1) G m t ready D.length = q_SL (N 1) G e 0 0 0 → T_X11_sweeps_9 Q (m + 1) N' (nI e) (nI ready) (nI t) := by
    intro m
    induction m with
    | zero =>
      intro t ready N' D ht hf h20 hr hD hl h35 hL
      unfold T_X11_sweeps_9
      rw [q_SL_0, List.append_nil] at hL
      refine qt (nI_le (by omega) (by omega)) (h N' hf (hL ▸ hD) (hL ▸ h35) (hL ▸ hl))
    | succ m ih =>
      intro t ready N' D ht hf h20 hr hD hl h35 hL
      unfold T_X11_sweeps_9
      refine qf (nI_ge (by omega) (by omega)) ?_
      have n1 : N' 1 = N 1 := hf.1 1 (by decide) (by decide) (by decide) (by decide)
      refine qc (fun c => ?_) (fun c => ?_)
      · have c := (nI_ltI (by omega) (by omega)).mp c
        unfold T_X11_sweeps_83
        rintro _ rfl
        rw [lit, nI_add]
        rw [q_SL_lt c] at hL
        exact ih (t + 1) ready N' D (by omega) hf h20 (by omega) hD hl h35 hL
      · have c : ¬ t < ready := fun q => c (nI_lt q (by omega))
        refine n_words (a := N 1) (k := D.length) (by omega) (fun c hc t' ht' => by rw [hf.1 9 (by decide) (by decide) (by decide) (by decide)]; exact ho c hc t' ht') h35 (fun N1 w1 w2 => ?_)
        have hw := q_w_wd hok (t := t) (ready := ready) (k := D.length) (by omega) (by omega) (by omega)
        have n11 : N1 1 = N 1 := (w1 1 (by decide)).trans n1
        have rc1 : q_rc N1 (N1 1 1) G := by
          rw [n11]
          exact hp.kept (fun o q1 q2 => (w1 o (by omega)).trans (hf.1 o (by omega) (by omega) (by omega) (by omega)))
        refine n_triggers (w := q_w (N 1) t ready D.length) rc1 hg w2 hw (fun N2 k2 => ?_)
        have n12 : N2 1 = N 1 := (k2 1 (by decide)).trans n11
        have f2 : FrNs N N2 := hf.tr ⟨fun o a b c d => (k2 o c).trans (w1 o b), fun j hj => by rw [k2 0 (by decide), w1 0 (by decide)]⟩
        have c35 : N2 0 35 = nI D.length := by rw [k2 0 (by decide), w1 0 (by decide)]; exact h35
        have l2 : q_lst (N2 20) D := by rw [k2 20 (by decide), w1 20 (by decide)]; exact hl
        cases ht2 : q_trig (q_w (N 1) t ready D.length) G with
        | false =>
          refine qt rfl ?_
          unfold T_X11_sweeps_83
          rintro _ rfl
          rw [lit, nI_add]
          rw [q_SL_no c ht2] at hL
          exact ih (t + 1) ready N2 D (by omega) f2 h20 (by omega) hD l2 c35 hL
        | true =>
          refine qf (by decide) ⟨by unfold vp_in; decide, by unfold vp_in; decide, ?_⟩
          refine n_hold (w := q_w (N 1) t ready D.length) (by rw [n12]; exact hp.kept (fun o q1 q2 => f2.1 o (by omega) (by omega) (by omega) (by omega))) hg (fun i hi => by rw [k2 18 (by decide)]; exact w2 i hi) hw (fun N3 k3 => ?_)
          have n13 : N3 1 = N 1 := (k3 1 (by decide)).trans n12
          rintro _ rfl
          refine ⟨by unfold vp_in; decide, by rw [k3 0 (by decide), c35]; exact vp_in_nI (by omega) (by omega), ?_⟩
          rintro _ rfl _ rfl
          unfold T_X11_sweeps_83
          rintro _ rfl
          have d3 : (3 : Int32).toNatClampNeg = 3 := rfl
          have d2 : (2 : Int32).toNatClampNeg = 2 := rfl
          rw [gu_ne (by decide), k3 0 (by decide), c35, n12, n13, d2, d3, nI_clamp (by omega)]
          have hcl := q_clamp_le (q_hv (q_w (N 1) t ready D.length) G)
          have eb : nI t + (N 1) 3 = nI (t + (N 1 3).toNatClampNeg) := by rw [← nI_add, ← e3]
          have er : ((nI t + (N 1) 3) + (20 * (N 1) 2)) + nI (q_clamp (q_hv (q_w (N 1) t ready D.length) G)) = nI (t + (N 1 3).toNatClampNeg + 20 * (N 1 2).toNatClampNeg + q_ho (N 1) G t ready D.length) := by
            rw [eb, show (20 : Int32) * (N 1) 2 = nI (20 * (N 1 2).toNatClampNeg) by rw [← pk_mul, ← ep]; rfl, nI_add, nI_add]; rfl
          rw [er, eb, lit, nI_add, nI_add]
          rw [q_SL_yes c ht2] at hL
          have hho : q_ho (N 1) G t ready D.length ≤ 9999 := hcl
          refine ih (t + 1) _ _ (D ++ [t + (N 1 3).toNatClampNeg]) (by omega) ?_ (by rw [List.length_append, List.length_singleton]; omega) (by omega) (by rw [List.length_append, List.length_singleton]; omega) ?_ ?_ ?_
          · refine f2.tr ⟨fun o a b c d => by rw [gu_ne a, gu_ne d, k3 o c], fun j hj => ?_⟩
            rw [gu_eq, ub_ne hj, gu_ne (by decide), k3 0 (by decide)]
          · rw [gu_ne (by decide), gu_eq, k3 20 (by decide)]
            exact q_lst_add l2 _
          · rw [gu_eq, ub_eq, List.length_append, List.length_singleton]
          · rw [List.length_append, List.length_singleton, List.append_assoc]; exact hL
  unfold T_X11_sweeps
  rintro _ rfl
  refine ⟨e + 1, key e 0 0 (gx_up N 0 35 0) [] (by omega) ⟨fun o a _ _ _ => by rw [gu_ne a], fun j hj => by rw [gu_eq, ub_ne hj]⟩ (by simp) (by omega) (by simp) (fun i hi => absurd hi (by simp)) (by rw [gu_eq, ub_eq]; rfl) rfl⟩
