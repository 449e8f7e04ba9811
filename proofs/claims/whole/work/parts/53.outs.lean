/-! the outs: laid by the reference, kept by the class -/
theorem toN {x : Int32} (h : 0 ≤ x) : x = nI x.toNatClampNeg := by
  obtain ⟨j, hj, e⟩ := nI_of (x := x) (fun c => absurd h (Int32.not_le.mpr c))
  rw [e, nI_clamp hj]
theorem toNle {x : Int32} (k : Nat) (hk : k < 2 ^ 31) (h0 : 0 ≤ x) (h : x ≤ nI k) : x.toNatClampNeg ≤ k := by
  obtain ⟨j, hj, e⟩ := nI_of (x := x) (fun c => absurd h0 (Int32.not_le.mpr c))
  rw [e] at h ⊢
  rw [nI_clamp hj]
  exact (nI_leI hj hk).mp h
theorem toNex {x : Int32} (k : Nat) (hk : k < 2 ^ 31) (h0 : 0 ≤ x) (h : x ≤ nI k) : ∃ n, n ≤ k ∧ x = nI n := ⟨_, toNle k hk h0 h, toN h0⟩
def q_o (r : Nat → Int32) (u d s : Int32) : Nat → Int32
  | 0 => 0
  | t + 1 => q_o r u d s t + (r t * u / d - q_o r u d s t) * s / 16
theorem q_o_cong {r r' : Nat → Int32} {u d s : Int32} (h : ∀ t, r t = r' t) (t : Nat) : q_o r u d s t = q_o r' u d s t := by
  have e : r = r' := funext h
  rw [e]
def q_R (a : Nat → Int32) (s t : Nat) : Int32 := q_raw (fun k j => a (30 + 30 * s + 5 * k + j)) (nI t) (a (24 + s)).toNatClampNeg
def q_W (a : Nat → Int32) (c t : Nat) : Int32 := q_o (q_R a (a (10 + c)).toNatClampNeg) (a (16 + c)) (a (18 + c)) (a (20 + c)) t
def q_O (a : Nat → Int32) (c t : Nat) : Int32 := q_W a c (t + 1)
theorem q_W_succ (a : Nat → Int32) (c t : Nat) : q_O a c t = q_W a c t + (q_R a (a (10 + c)).toNatClampNeg t * a (16 + c) / a (18 + c) - q_W a c t) * a (20 + c) / 16 := rfl
theorem n_R {N : gx_M} {s t : Nat} {Q : Int32 → Prop} (hok : okA (N 1)) (hs : s < 4) (h : Q (q_R (N 1) s t)) : T_X11_rawAt N (nI s) (nI t) Q := by
  obtain ⟨⟨h0, h6⟩, hp⟩ := hok.2.2.1 s hs
  refine n_raw (n := (N 1 (24 + s)).toNatClampNeg) hs (toN h0) (toNle 6 (by omega) h0 h6) (fun k hk => (hp k hk).2.2.1.1) h
theorem n_laysOut {N : gx_M} {c : Nat} {Q : gx_M → Prop} (hok : okA (N 1)) (hc : c < 2)
    (h : ∀ N' : gx_M, (∀ o, o ≠ 9 → N' o = N o) → (∀ t, t < 2000 → N' 9 (2000 * c + t) = q_O (N 1) c t) → (∀ j, j < 2000 * c ∨ 2000 * c + 2000 ≤ j → N' 9 j = N 9 j) → Q N') : T_X11_laysOut N (nI c) Q := by
  have key : ∀ m t (N' : gx_M), t + m = 2000 → (∀ o, o ≠ 9 → N' o = N o) → (∀ t', t' < t → N' 9 (2000 * c + t') = q_O (N 1) c t') → (∀ j, j < 2000 * c ∨ 2000 * c + 2000 ≤ j → N' 9 j = N 9 j) → T_X11_laysOut_4 Q (m + 1) N' (nI c) (q_W (N 1) c t) (nI t) := by
    intro m
    induction m with
    | zero =>
      intro t N' ht h1 h2 h3
      unfold T_X11_laysOut_4
      obtain rfl : t = 2000 := by omega
      exact qt (show nI 2000 ≤ nI 2000 from nI_le (by omega) (by omega)) (h N' h1 h2 h3)
    | succ m ih =>
      intro t N' ht h1 h2 h3
      unfold T_X11_laysOut_4
      obtain ⟨⟨hg0, hg3⟩, -, -, -, ⟨hd1, -⟩, -⟩ := hok.2.1 c hc
      have e1 : N' 1 = N 1 := h1 1 (by decide)
      refine qf (show ¬ nI 2000 ≤ nI t from nI_ge (by omega) (by omega)) ?_
      simp (disch := omega) only [lit, nI_add, nI_clamp, vp_in_nI, true_and, pk_mul]
      rw [e1, toN hg0]
      refine n_R (by rw [e1]; exact hok) (by have := toNle 3 (by omega) hg0 hg3; omega) ?_
      rw [e1]
      refine ⟨p1n0 hd1, ?_⟩
      rintro _ rfl _ rfl _ rfl _ rfl
      have hw : q_W (N 1) c (t + 1) = _ := q_W_succ (N 1) c t
      simp only [lit] at hw
      rw [← hw]
      refine ih (t + 1) _ (by omega) (fun o ho => by rw [gu_ne ho]; exact h1 o ho) (fun t' ht' => ?_) (fun j hj => ?_)
      · rw [gu_eq]
        by_cases e : t' = t
        · subst e; rw [ub_eq]; rfl
        · rw [ub_ne (by omega)]; exact h2 t' (by omega)
      · rw [gu_eq, ub_ne (by omega)]; exact h3 j hj
  exact ⟨2001, key 2000 0 N (by omega) (fun o _ => rfl) (fun t ht => absurd ht (by omega)) (fun j _ => rfl)⟩
theorem n_laysBoth {N : gx_M} {Q : gx_M → Prop} (hok : okA (N 1))
    (h : ∀ N' : gx_M, (∀ o, o ≠ 9 → N' o = N o) → (∀ c, c < 2 → ∀ t, t < 2000 → N' 9 (2000 * c + t) = q_O (N 1) c t) → Q N') : T_X11_laysBoth N Q := by
  unfold T_X11_laysBoth
  refine n_laysOut (c := 0) hok (by omega) (fun N1 g1 g2 g3 => ?_)
  have e1 : N1 1 = N 1 := g1 1 (by decide)
  refine n_laysOut (c := 1) (by rw [e1]; exact hok) (by omega) (fun N2 k1 k2 k3 => ?_)
  refine h N2 (fun o ho => (k1 o ho).trans (g1 o ho)) (fun c hc t ht => ?_)
  rcases Nat.lt_or_ge c 1 with z | z
  · obtain rfl : c = 0 := by omega
    rw [k3 _ (by omega)]; exact g2 t ht
  · obtain rfl : c = 1 := by omega
    rw [k2 t ht, e1]
/-- the outs that the class keeps -/
def q_cacheL (a : Nat → Int32) (lo : Nat) (M : gx_M) : Prop := ∃ tr : Nat, lo ≤ tr ∧ tr ≤ 2000 ∧ M 1 5 = nI tr ∧ ∀ c, c < 2 → ∀ t, t < tr → M (13 + c) t = q_O a c t
abbrev q_cache (a : Nat → Int32) (M : gx_M) : Prop := q_cacheL a 0 M
def FrT (M M' : gx_M) : Prop := (∀ o, o ≠ 1 → o ≠ 13 → o ≠ 14 → M' o = M o) ∧ ∀ j, j ≠ 5 → M' 1 j = M 1 j
theorem FrT.rf {M : gx_M} : FrT M M := ⟨fun _ _ _ _ => rfl, fun _ _ => rfl⟩
theorem FrT.tr {A B C : gx_M} (h : FrT A B) (k : FrT B C) : FrT A C := ⟨fun o a b c => (k.1 o a b c).trans (h.1 o a b c), fun j hj => (k.2 j hj).trans (h.2 j hj)⟩
theorem okN {a : Nat → Int32} (hok : okA a) {s : Nat} (hs : s < 4) : (a (24 + s)).toNatClampNeg ≤ 6 ∧ a (24 + s) = nI (a (24 + s)).toNatClampNeg := by
  obtain ⟨⟨h0, h6⟩, hp⟩ := hok.2.2.1 s hs
  exact ⟨toNle 6 (by omega) h0 h6, toN h0⟩
theorem okS {a : Nat → Int32} (hok : okA a) {c : Nat} (hc : c < 2) : (a (10 + c)).toNatClampNeg < 4 ∧ a (10 + c) = nI (a (10 + c)).toNatClampNeg := by
  obtain ⟨⟨hg0, hg3⟩, -⟩ := hok.2.1 c hc
  exact ⟨by have := toNle 3 (by omega) hg0 hg3; omega, toN hg0⟩
theorem RS.kept {b : Nat} {a : Nat → Int32} {M M' : gx_M} (h : RS b a M) (hb : b < 2) (hok : okA a) (hk : ∀ o, 34 ≤ o → o < 110 → M' o = M o) : RS b a M' := by
  obtain ⟨⟨h1, h2, h3⟩, h4, h5, h6⟩ := h
  refine ⟨⟨fun j hj => ?_, ?_, ?_⟩, fun c hc => ?_, fun c hc => ?_, fun s hs => ⟨?_, fun k hk2 j hj => ?_⟩⟩
  · rw [hk _ (by omega) (by omega)]; exact h1 j hj
  · rw [hk _ (by omega) (by omega)]; exact h2
  · rw [hk _ (by omega) (by omega)]; exact h3
  · rw [hk _ (by omega) (by omega)]; exact h4 c hc
  · rw [hk _ (by omega) (by omega)]; exact h5 c hc
  · rw [hk _ (by omega) (by omega)]; exact (h6 s hs).1
  · have := (okN hok hs).1
    rw [hk _ (by omega) (by omega)]; exact (h6 s hs).2 k hk2 j hj
theorem s_R {M : gx_M} {a : Nat → Int32} {s t : Nat} {Q : Int32 → Prop} (hR : RS 0 a M) (hok : okA a) (hs : s < 4) (h : Q (q_R a s t)) : T_X9_heightAt M (42 + s) (nI t) Q := by
  obtain ⟨h6, hn⟩ := okN hok hs
  obtain ⟨e1, e2⟩ := hR.2.2.2 s hs
  simp only [Nat.mul_zero, Nat.zero_add, Nat.add_zero] at e1 e2
  refine s_raw (n := (a (24 + s)).toNatClampNeg) (by rw [e1]; exact hn) h6 (fun k hk => ?_) ?_
  · rw [e2 k hk 2 (by omega)]; exact ((hok.2.2.1 s hs).2 k hk).2.2.1.1
  · rw [q_raw_cong (P' := fun k j => a (30 + 30 * s + 5 * k + j)) (fun k hk j hj => e2 k hk j hj)]; exact h
theorem s_outBehind {M : gx_M} {o : Nat} {r w : Int32} {Q : Int32 → Prop} (hd : 1 ≤ M o 2) (h : Q (w + (r * M o 1 / M o 2 - w) * M o 3 / 16)) : T_X2_outBehind M o w r Q := by
  unfold T_X2_outBehind T_X2_outBehind_23
  exact qt hd ⟨p1n0 hd, h⟩
/-- one channel of one tick -/
theorem s_trace1 {M : gx_M} {a : Nat → Int32} {c t : Nat} {v1 : Int32} {n : Nat} {Q : gx_M → Prop} {K : gx_M → Int32 → Int32 → Prop} (hR : RS 0 a M) (hok : okA a) (hc : c < 2) (ht : t < 2000) (hO : ∀ t', t' < t → M (13 + c) t' = q_O a c t')
    (h : T_X1_traceTo_19 Q K n (gx_up M (13 + c) t (q_O a c t)) v1 (nI t) (nI (c + 1))) : T_X1_traceTo_19 Q K (n + 1) M v1 (nI t) (nI c) := by
  obtain ⟨hs4, hs⟩ := okS hok hc
  obtain ⟨r0, r1, r2, r3, -⟩ := hR.2.2.1 c hc
  simp only [Nat.mul_zero, Nat.zero_add, Nat.add_zero] at r0 r1 r2 r3
  have hd : 1 ≤ a (18 + c) := (hok.2.1 c hc).2.2.2.2.1.1
  have key : ∀ w : Int32, w = q_W a c t → T_X1_traceTo_53 Q (T_X1_traceTo_19 Q K n) M w v1 (nI t) (nI c) (58 + c) := by
    intro w ew
    unfold T_X1_traceTo_53 T_X10_isSignal
    rw [r0, hs]
    have hv : (0 : Int32) ≤ nI (a (10 + c)).toNatClampNeg ∧ nI (a (10 + c)).toNatClampNeg ≤ 3 := ⟨nI_pos' (by omega), show nI (a (10 + c)).toNatClampNeg ≤ nI 3 from nI_le (by omega) (by omega)⟩
    refine sp_within ?_
    rw [if_pos hv]
    refine ⟨Or.inr rfl, qf (by decide) ⟨vp_in_nI hs4 (by omega), ?_⟩⟩
    rw [nI_clamp (by omega)]
    refine s_R hR hok hs4 ?_
    unfold T_X1_traceTo_87
    refine ⟨vp_in_nI hc (by omega), s_outBehind (by rw [r2]; exact hd) ?_⟩
    rw [r1, r2, r3, ew, ← q_W_succ]
    refine ⟨vp_in_nI (by omega) (by omega), ?_⟩
    rintro _ rfl _ rfl
    simp (disch := omega) only [lit, nI_add, nI_clamp]
    exact h
  unfold T_X1_traceTo_19
  refine qf (show ¬ nI 2 ≤ nI c from nI_ge (by omega) (by omega)) ⟨vp_in_nI (by omega) (by omega), ?_⟩
  rw [nI_clamp (by omega)]
  refine qc (fun e => key _ ?_) (fun e => ⟨vp_in_nI (by omega) (by omega), ?_⟩)
  · have : t = 0 := by
      have := (nI_leI (b := 0) (a := t) (by omega) (by omega)).mp e
      omega
    rw [this]; rfl
  · obtain ⟨t', rfl⟩ : ∃ t', t = t' + 1 := by
      cases t with
      | zero => exact absurd (show nI 0 ≤ nI 0 from nI_le (by omega) (by omega)) e
      | succ t => exact ⟨t, rfl⟩
    rw [nI_pred]
    refine ⟨vp_in_nI (by omega) (by omega), key _ ?_⟩
    rw [nI_clamp (by omega)]
    exact hO t' (by omega)
theorem s_traceTo2 {M : gx_M} {a : Nat → Int32} {last lo : Nat} {Q : gx_M → Prop} (hR : RS 0 a M) (hok : okA a) (hc : q_cacheL a lo M) (hl : last < 2000)
    (h : ∀ M' : gx_M, FrT M M' → RS 0 a M' → q_cacheL a lo M' → (∀ c, c < 2 → ∀ t, t ≤ last → M' (13 + c) t = q_O a c t) → q_cacheL a (last + 1) M' → Q M') : T_X1_traceTo M (nI last) Q := by
  obtain ⟨tr, hlo, htr, h5, hO⟩ := hc
  unfold T_X1_traceTo
  rintro _ rfl
  rw [h5]
  have key : ∀ m t (M' : gx_M), t + m = 2000 → tr ≤ t → FrT M M' → RS 0 a M' → M' 1 5 = nI t → (∀ c, c < 2 → ∀ t', t' < t → M' (13 + c) t' = q_O a c t') → T_X1_traceTo_5 Q (fun M19 => Q M19) (m + 1) M' (nI last) (nI t) := by
    intro m
    induction m with
    | zero =>
      intro t M' ht htt hF hR' h5' hO'
      unfold T_X1_traceTo_5
      have hq : Q M' := h M' hF hR' ⟨t, by omega, by omega, h5', hO'⟩ (fun c hc t' ht' => hO' c hc t' (by omega)) ⟨t, by omega, by omega, h5', hO'⟩
      exact qt (nI_lt (by omega) (by omega)) hq
    | succ m ih =>
      intro t M' ht htt hF hR' h5' hO'
      unfold T_X1_traceTo_5
      refine qc (fun e => ?_) (fun e => ?_)
      · have e' := (nI_ltI (by omega) (by omega)).mp e
        exact h M' hF hR' ⟨t, by omega, by omega, h5', hO'⟩ (fun c hc t' ht' => hO' c hc t' (by omega)) ⟨t, by omega, by omega, h5', hO'⟩
      · have e' : ¬ last < t := fun q => e (nI_lt q (by omega))
        refine qf (show ¬ nI 2000 ≤ nI t from nI_ge (by omega) (by omega)) ⟨3, ?_⟩
        refine s_trace1 (c := 0) hR' hok (by omega) (by omega) (hO' 0 (by omega)) ?_
        refine s_trace1 (c := 1) (hR'.kept (by omega) hok (fun o h1 h2 => by rw [gu_ne (by omega)])) hok (by omega) (by omega) (fun t' ht' => ?_) ?_
        · rw [gu_ne (by omega)]; exact hO' 1 (by omega) t' ht'
        unfold T_X1_traceTo_19
        refine qt (show nI 2 ≤ nI 2 from nI_le (by omega) (by omega)) ?_
        rintro _ rfl _ rfl
        rw [lit, nI_add]
        refine ih (t + 1) _ (by omega) (by omega) (hF.tr ⟨fun o q1 q2 q3 => ?_, fun j hj => ?_⟩) (hR'.kept (by omega) hok (fun o h1 h2 => ?_)) ?_ (fun c hc t' ht' => ?_)
        · rw [gu_ne q1, gu_ne (by omega), gu_ne (by omega)]
        · rw [gu_eq, ub_ne hj, gu_ne (by decide), gu_ne (by decide)]
        · rw [gu_ne (by omega), gu_ne (by omega), gu_ne (by omega)]
        · rw [gu_eq, ub_eq]
        · rw [gu_ne (by omega)]
          simp only [gu_at]
          rcases Nat.lt_or_ge c 1 with z | z
          · obtain rfl : c = 0 := by omega
            by_cases e : t' = t
            · subst e; simp
            · simp [e]; exact hO' 0 (by omega) t' (by omega)
          · obtain rfl : c = 1 := by omega
            by_cases e : t' = t
            · subst e; simp
            · simp [e]; exact hO' 1 (by omega) t' (by omega)
  exact ⟨2000 - tr + 1, key (2000 - tr) tr M (by omega) (Nat.le_refl _) FrT.rf hR h5 hO⟩
theorem s_traceTo {M : gx_M} {a : Nat → Int32} {last lo : Nat} {Q : gx_M → Prop} (hR : RS 0 a M) (hok : okA a) (hc : q_cacheL a lo M) (hl : last < 2000)
    (h : ∀ M' : gx_M, FrT M M' → RS 0 a M' → q_cacheL a lo M' → (∀ c, c < 2 → ∀ t, t ≤ last → M' (13 + c) t = q_O a c t) → Q M') : T_X1_traceTo M (nI last) Q :=
  s_traceTo2 hR hok hc hl (fun M' h1 h2 h3 h4 _ => h M' h1 h2 h3 h4)
theorem s_outAt {M : gx_M} {a : Nat → Int32} {c t : Nat} {Q : Int32 → gx_M → Prop} (hR : RS 0 a M) (hok : okA a) (hc : q_cache a M) (hc2 : c < 2) (hl : t < 2000)
    (h : ∀ M' : gx_M, FrT M M' → RS 0 a M' → q_cache a M' → Q (q_O a c t) M') : T_X1_outAt M (nI c) (nI t) Q := by
  unfold T_X1_outAt T_X10_isChannel
  have hv : (0 : Int32) ≤ nI c ∧ nI c ≤ 1 := ⟨nI_pos' (by omega), show nI c ≤ nI 1 from nI_le (by omega) (by omega)⟩
  have hw : (0 : Int32) ≤ nI t ∧ nI t ≤ 1999 := ⟨nI_pos' (by omega), show nI t ≤ nI 1999 from nI_le (by omega) (by omega)⟩
  refine sp_within ?_
  rw [if_pos hv]
  refine ⟨Or.inr rfl, qf (by decide) ?_⟩
  refine gd_within (fun q => absurd hw q) (fun _ => ?_)
  refine s_traceTo hR hok hc hl (fun M' hF hR' hc' hO => ⟨vp_in_nI hc2 (by omega), vp_in_nI hl (by omega), ?_⟩)
  rw [nI_clamp (by omega), nI_clamp (by omega), hO c hc2 t (Nat.le_refl _)]
  exact h M' hF hR' hc'
