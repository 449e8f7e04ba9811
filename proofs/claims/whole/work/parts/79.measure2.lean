/-! measure: the reference and the call -/
def q_ms (a : Nat → Int32) (c f b w : Nat) : Int32 :=
  let lo := q_lo (q_O a c) (b - f) f (q_O a c f)
  let hi := q_hi (q_O a c) (b - f) f (q_O a c f)
  match w with
  | 0 => lo
  | 1 => hi
  | 2 => q_nov (q_far (q_O a c) lo hi b 1 f)
  | 3 => q_wi (q_O a c) (lo + hi) (b - f) f 0
  | 4 => match q_far (q_O a c) lo hi b (a 2).toNatClampNeg f with
    | none => -1000000
    | some d => if 0 ≤ (d - a 2) + 1 then (d - a 2) + 1 else 0
  | _ => match q_far (q_O a c) lo hi b (a 2).toNatClampNeg f with
    | none => -1000000
    | some d => (d + a 2) - 1
theorem n_m250 {N : gx_M} {O : Nat → Int32} {c f b st w : Nat} {lo hi : Int32} {Q : Int32 → gx_M → Prop} (hO : ∀ t, t < 2000 → N 9 (2000 * c + t) = O t) (hc : c < 2) (hf : f < b) (hb : b ≤ 2000) (hst : 1 ≤ st) (hst2 : st ≤ 50) (hlo : N 0 39 = lo) (hhi : N 0 40 = hi) (himp : ∀ t, q_up 9 O lo hi t = true → q_up 1 O lo hi t = true)
    (h0 : q_far O lo hi b st f = none → Q (-1000000) N) (h1 : ∀ d, q_far O lo hi b st f = some d → (if nI w = 2 then Q d N else if nI w = 4 then Q (if 0 ≤ (d - nI st) + 1 then (d - nI st) + 1 else 0) N else Q ((d + nI st) - 1) N)) : T_X11_measure_250 Q N (nI st) (nI c) (nI f) (nI b) (nI w) := by
  unfold T_X11_measure_250
  refine n_risen hO hc hf hb hst hst2 hlo hhi (n_risen hO hc hf hb hst hst2 hlo hhi ?_)
  unfold q_far at h0 h1
  cases e1 : q_ri (q_up 1 O lo hi) b st b f with
  | none =>
    rw [e1] at h0
    refine qt rfl (h0 ?_)
    cases q_ri (q_up 9 O lo hi) b st b f <;> rfl
  | some s =>
    have hs := q_ri_lt _ _ _ e1
    refine qf (ne_m1 (k := s) (by omega)) ?_
    cases e9 : q_ri (q_up 9 O lo hi) b st b f with
    | none =>
      rw [e9] at h0
      exact qt rfl (h0 rfl)
    | some e =>
      have he := q_ri_lt _ _ _ e9
      refine qf (ne_m1 (k := e) (by omega)) ?_
      have h := h1 (nI e - nI s) (by rw [e1, e9]; rfl)
      rintro _ rfl _ rfl
      refine qc (fun z => by rw [if_pos z] at h; exact h) (fun z => ?_)
      rw [if_neg z] at h
      refine qc (fun y => ?_) (fun y => by rw [if_neg y] at h; exact h)
      rw [if_pos y] at h
      exact qi (Q := fun z => Q z N) h
theorem n_measure {N : gx_M} {c f b w : Nat} {Q : Int32 → gx_M → Prop} (hok : okA (N 1)) (hc : c < 2) (hf : f < b) (hb : b ≤ 2000) (hw : w ≤ 5)
    (himp : ∀ t, q_up 9 (q_O (N 1) c) (q_lo (q_O (N 1) c) (b - f) f (q_O (N 1) c f)) (q_hi (q_O (N 1) c) (b - f) f (q_O (N 1) c f)) t = true → q_up 1 (q_O (N 1) c) (q_lo (q_O (N 1) c) (b - f) f (q_O (N 1) c f)) (q_hi (q_O (N 1) c) (b - f) f (q_O (N 1) c f)) t = true)
    (h : ∀ N' : gx_M, FN N N' → Q (q_ms (N 1) c f b w) N') : T_X11_measure N (nI c) (nI f) (nI b) (nI w) Q := by
  obtain ⟨⟨p1, p50, ep⟩, -⟩ := okP hok
  have c2 : (2 : Int32).toNatClampNeg = 2 := rfl
  have w1 : (0 : Int32) ≤ nI c ∧ nI c ≤ 1 := v_n (n := 1) (by omega) (by omega)
  have w2 : (0 : Int32) ≤ nI f ∧ nI f ≤ 1999 := v_n (n := 1999) (by omega) (by omega)
  have w3 : nI f + 1 ≤ nI b ∧ nI b ≤ 2000 := ⟨by rw [nI_1]; exact nI_le (by omega) (by omega), show nI b ≤ nI 2000 from nI_le (by omega) (by omega)⟩
  have w4 : (0 : Int32) ≤ nI w ∧ nI w ≤ 5 := v_n (n := 5) (by omega) (by omega)
  have ix : ∀ t, (2000 : Int32) * nI c + nI t = nI (2000 * c + t) := fun t => by rw [show (2000 : Int32) * nI c = nI (2000 * c) from pk_mul 2000 c, nI_add]
  unfold T_X11_measure
  refine gn_isChannel (fun q => absurd w1 q) (fun _ => gd_in (fun q => absurd w2 q) (fun _ => gd_in (fun q => absurd w3 q) (fun _ => gd_in (fun q => absurd w4 q) (fun _ => ?_))))
  refine n_laysOut hok hc (fun N1 g1 g2 g3 => ?_)
  rw [ix]
  refine ⟨vp_in_nI (by omega) (by omega), ?_⟩
  rintro _ rfl _ rfl
  rw [nI_clamp (by omega), g2 f (by omega)]
  have key : ∀ m t (lo hi : Int32) (N' : gx_M), t + m = b → (∀ o, o ≠ 0 → N' o = N1 o) → (∀ j, j ≠ 39 → j ≠ 40 → N' 0 j = N1 0 j) → N' 0 39 = lo → N' 0 40 = hi → q_lo (q_O (N 1) c) (b - f) f (q_O (N 1) c f) = q_lo (q_O (N 1) c) m t lo → q_hi (q_O (N 1) c) (b - f) f (q_O (N 1) c f) = q_hi (q_O (N 1) c) m t hi → T_X11_measure_76 Q (fun M21 v1_17 v2_18 v3_19 v4_20 => (if 2 ≤ v4_20 then (if v4_20 = 3 then (∃ k30, T_X11_measure_182 Q k30 M21 v1_17 v3_19 0 v2_18) else (if v4_20 = 2 then T_X11_measure_250 Q M21 1 v1_17 v2_18 v3_19 v4_20 else vp_in 2 170 ∧ T_X11_measure_250 Q M21 (M21 1 (2 : Int32).toNatClampNeg) v1_17 v2_18 v3_19 v4_20)) else (if v4_20 = 0 then Q (M21 0 39) M21 else Q (M21 0 40) M21))) (m + 1) N' (nI c) (nI f) (nI b) (nI w) (nI t) := by
    intro m
    induction m with
    | zero =>
      intro t lo hi N' ht hF hF0 hlo hhi eqlo eqhi
      have eqlo : q_lo (q_O (N 1) c) (b - f) f (q_O (N 1) c f) = lo := eqlo
      have eqhi : q_hi (q_O (N 1) c) (b - f) f (q_O (N 1) c f) = hi := eqhi
      rw [eqlo, eqhi] at himp
      have FNN : FN N N' := ⟨fun o a0 a9 _ _ _ _ _ _ => (hF o a0).trans (g1 o a9), fun j _ b2 b3 => (hF0 j b2 b3).trans (by rw [g1 0 (by decide)])⟩
      have hQ := h N' FNN
      have hO : ∀ t, t < 2000 → N' 9 (2000 * c + t) = q_O (N 1) c t := fun t ht => by rw [hF 9 (by decide)]; exact g2 t ht
      have e12 : N' 1 2 = N 1 2 := by rw [hF 1 (by decide), g1 1 (by decide)]
      unfold T_X11_measure_76
      refine qt (nI_le (by omega) (by omega)) ?_
      unfold q_ms at hQ
      simp only [eqlo, eqhi] at hQ
      match w, hw, hQ with
      | 0, _, hQ => exact qf (by decide) (qt rfl (by rw [hlo]; exact hQ))
      | 1, _, hQ => exact qf (by decide) (qf (by decide) (by rw [hhi]; exact hQ))
      | 2, _, hQ =>
        refine qt (by decide) (qf (by decide) (qt rfl ?_))
        refine n_m250 (st := 1) (w := 2) hO hc hf hb (by omega) (by omega) hlo hhi himp (fun e => ?_) (fun d e => ?_)
        · simp only [e] at hQ; exact hQ
        · simp only [e] at hQ; exact qt rfl hQ
      | 3, _, hQ =>
        refine qt (by decide) (qt rfl ⟨b - f + 1, ?_⟩)
        have wide : ∀ m t (x : Int32), t + m = b → q_wi (q_O (N 1) c) (lo + hi) (b - f) f 0 = q_wi (q_O (N 1) c) (lo + hi) m t x → T_X11_measure_182 Q (m + 1) N' (nI c) (nI b) x (nI t) := by
          intro m
          induction m with
          | zero =>
            intro t x ht hq
            unfold T_X11_measure_182
            refine qt (nI_le (by omega) (by omega)) ?_
            rw [hq] at hQ
            exact hQ
          | succ m ih =>
            intro t x ht hq
            have st : q_wi (q_O (N 1) c) (lo + hi) (m + 1) t x = q_wi (q_O (N 1) c) (lo + hi) m (t + 1) (if 2 * q_O (N 1) c t < lo + hi then x else x + 1) := rfl
            rw [st] at hq
            unfold T_X11_measure_182 T_X11_measure_222
            refine qf (nI_ge (by omega) (by omega)) ?_
            rw [ix]
            refine ⟨vp_in_nI (by omega) (by omega), ?_⟩
            rw [nI_clamp (by omega), hO t (by omega), hlo, hhi]
            refine qc (fun z => ?_) (fun z => ?_)
            · rintro _ rfl _ rfl
              rw [if_pos z] at hq
              rw [nI_1, Int32.add_zero]
              exact ih (t + 1) _ (by omega) hq
            · rintro _ rfl _ rfl
              rw [if_neg z] at hq
              rw [nI_1]
              exact ih (t + 1) _ (by omega) hq
        exact wide (b - f) f 0 (by omega) rfl
      | 4, _, hQ =>
        refine qt (by decide) (qf (by decide) (qf (by decide) ⟨by unfold vp_in; decide, ?_⟩))
        rw [c2, e12, ep]
        rw [ep, nI_clamp (by omega)] at hQ
        refine n_m250 (st := (N 1 2).toNatClampNeg) (w := 4) hO hc hf hb p1 p50 hlo hhi himp (fun e => ?_) (fun d e => ?_)
        · simp only [e] at hQ; exact hQ
        · simp only [e] at hQ; exact qf (by decide) (qt rfl hQ)
      | 5, _, hQ =>
        refine qt (by decide) (qf (by decide) (qf (by decide) ⟨by unfold vp_in; decide, ?_⟩))
        rw [c2, e12, ep]
        rw [ep, nI_clamp (by omega)] at hQ
        refine n_m250 (st := (N 1 2).toNatClampNeg) (w := 5) hO hc hf hb p1 p50 hlo hhi himp (fun e => ?_) (fun d e => ?_)
        · simp only [e] at hQ; exact hQ
        · simp only [e] at hQ; exact qf (by decide) (qf (by decide) hQ)
    | succ m ih =>
      intro t lo hi N' ht hF hF0 hlo hhi eqlo eqhi
      have sl : q_lo (q_O (N 1) c) (m + 1) t lo = q_lo (q_O (N 1) c) m (t + 1) (if q_O (N 1) c t < lo then q_O (N 1) c t else lo) := rfl
      have sh : q_hi (q_O (N 1) c) (m + 1) t hi = q_hi (q_O (N 1) c) m (t + 1) (if hi < q_O (N 1) c t then q_O (N 1) c t else hi) := rfl
      rw [sl] at eqlo
      rw [sh] at eqhi
      have hOt : N' 9 (2000 * c + t) = q_O (N 1) c t := by rw [hF 9 (by decide)]; exact g2 t (by omega)
      unfold T_X11_measure_76
      refine qf (nI_ge (by omega) (by omega)) ?_
      rw [ix]
      refine ⟨vp_in_nI (by omega) (by omega), ?_⟩
      rw [nI_clamp (show 2000 * c + t < 2 ^ 31 by omega), hOt, hlo]
      rintro _ rfl
      have go2 : ∀ lo' hi' : Int32, (if q_O (N 1) c t < lo then q_O (N 1) c t else lo) = lo' → (if hi < q_O (N 1) c t then q_O (N 1) c t else hi) = hi' → T_X11_measure_138 Q (T_X11_measure_76 Q (fun M21 v1_17 v2_18 v3_19 v4_20 => (if 2 ≤ v4_20 then (if v4_20 = 3 then (∃ k30, T_X11_measure_182 Q k30 M21 v1_17 v3_19 0 v2_18) else (if v4_20 = 2 then T_X11_measure_250 Q M21 1 v1_17 v2_18 v3_19 v4_20 else vp_in 2 170 ∧ T_X11_measure_250 Q M21 (M21 1 (2 : Int32).toNatClampNeg) v1_17 v2_18 v3_19 v4_20)) else (if v4_20 = 0 then Q (M21 0 39) M21 else Q (M21 0 40) M21))) (m + 1)) (gx_up N' 0 39 lo') hi' (nI c) (nI f) (nI b) (nI w) (nI t) := by
        intro lo' hi' el eh
        rw [el] at eqlo
        rw [eh] at eqhi
        unfold T_X11_measure_138
        rintro _ rfl _ rfl
        rw [nI_1]
        refine ih (t + 1) lo' hi' _ (by omega) (fun o ho => by rw [gu_ne ho, gu_ne ho]; exact hF o ho) (fun j b2 b3 => by rw [gu_eq, ub_ne b3, gu_eq, ub_ne b2]; exact hF0 j b2 b3) (by rw [gu_eq, ub_ne (by decide), gu_eq, ub_eq]) (by rw [gu_eq, ub_eq]) eqlo eqhi
      have go1 : ∀ lo' : Int32, (if q_O (N 1) c t < lo then q_O (N 1) c t else lo) = lo' → T_X11_measure_116 Q (T_X11_measure_76 Q (fun M21 v1_17 v2_18 v3_19 v4_20 => (if 2 ≤ v4_20 then (if v4_20 = 3 then (∃ k30, T_X11_measure_182 Q k30 M21 v1_17 v3_19 0 v2_18) else (if v4_20 = 2 then T_X11_measure_250 Q M21 1 v1_17 v2_18 v3_19 v4_20 else vp_in 2 170 ∧ T_X11_measure_250 Q M21 (M21 1 (2 : Int32).toNatClampNeg) v1_17 v2_18 v3_19 v4_20)) else (if v4_20 = 0 then Q (M21 0 39) M21 else Q (M21 0 40) M21))) (m + 1)) N' lo' (nI c) (nI f) (nI b) (nI w) (nI t) (q_O (N 1) c t) := by
        intro lo' el
        unfold T_X11_measure_116
        rintro _ rfl
        have e40 : gx_up N' 0 39 lo' 0 40 = hi := by rw [gu_eq, ub_ne (by decide)]; exact hhi
        rw [e40]
        exact qc (fun z => go2 lo' _ el (by rw [if_neg (Int32.not_lt.mpr z)])) (fun z => go2 lo' _ el (by rw [if_pos (Int32.not_le.mp z)]))
      exact qc (fun z => go1 _ (by rw [if_neg (Int32.not_lt.mpr z)])) (fun z => go1 _ (by rw [if_pos (Int32.not_le.mp z)]))
  refine ⟨b - f + 1, key (b - f) f (q_O (N 1) c f) (q_O (N 1) c f) _ (by omega) (fun o ho => by rw [gu_ne ho, gu_ne ho]) (fun j b2 b3 => by rw [gu_eq, ub_ne b3, gu_eq, ub_ne b2]) (by rw [gu_eq, ub_ne (by decide), gu_eq, ub_eq]) (by rw [gu_eq, ub_eq, gu_eq, ub_eq]) rfl rfl⟩
theorem q_O_bd {a : Nat → Int32} (hok : okA a) {c : Nat} (hc : c < 2) (t : Nat) : -119880 ≤ (q_O a c t).toInt ∧ (q_O a c t).toInt ≤ 119880 := q_W_bd hok hc (t + 1)
theorem q_rr_bd {O : Nat → Int32} {lo hi d : Int32} {b st f : Nat} (hb : b ≤ 2000) (h : q_far O lo hi b st f = some d) : ¬ d = -1000000 := by
  unfold q_far at h
  cases e9 : q_ri (q_up 9 O lo hi) b st b f with
  | none => rw [e9] at h; cases h
  | some e =>
    cases e1 : q_ri (q_up 1 O lo hi) b st b f with
    | none => rw [e9, e1] at h; cases h
    | some s =>
      rw [e9, e1] at h
      have h9 := q_ri_lt _ _ _ e9
      have h1 := q_ri_lt _ _ _ e1
      have h : some (nI e - nI s) = some d := h
      injection h with h
      intro z
      rw [← h] at z
      have := congrArg Int32.toInt z
      rw [pk_sub_toInt (by omega) (by omega), show (-1000000 : Int32).toInt = -1000000 from rfl] at this
      omega
theorem step_measure : st_measure RR := by
  intro M N h v1 v2 v3 v4
  have no : ∀ M' : gx_M, RR M' N → (¬ (0 ≤ v1 ∧ v1 ≤ 1) ∨ ¬ (0 ≤ v2 ∧ v2 ≤ 1999) ∨ ¬ (v2 + 1 ≤ v3 ∧ v3 ≤ 2000) ∨ ¬ (0 ≤ v4 ∧ v4 ≤ 5)) → T_X11_measure N v1 v2 v3 v4 (fun r2 N1 => -1000000 = r2 ∧ RR M' N1) := fun M' h' z => by
    unfold T_X11_measure
    exact gn_isChannel (fun _ => ⟨rfl, h'⟩) (fun q1 => gd_in (fun _ => ⟨rfl, h'⟩) (fun q2 => gd_in (fun _ => ⟨rfl, h'⟩) (fun q3 => gd_in (fun _ => ⟨rfl, h'⟩) (fun q4 => absurd z (by rintro (a | a | a | a); exact a q1; exact a q2; exact a q3; exact a q4)))))
  have z0 : (0 : Int32).toInt = 0 := rfl
  have z1 : (1 : Int32).toInt = 1 := rfl
  have z19 : (1999 : Int32).toInt = 1999 := rfl
  unfold T_X10_measure
  refine gd_isChannel (fun n1 => no M h (Or.inl n1)) (fun c hc ec => ?_)
  refine qc (fun l0 => no M h (Or.inr (Or.inl (fun q => Int32.not_lt.mpr q.1 l0)))) (fun l0 => ?_)
  obtain ⟨f, hf, rfl⟩ := nI_of l0
  refine qc (fun l1 => no M h ?_) (fun l1 => ?_)
  · by_cases q : nI f ≤ 1999
    · refine Or.inr (Or.inr (Or.inl (fun r => ?_)))
      have a1 := il q
      have a2 := il l1
      have a3 := il r.1
      rw [nI_toInt hf] at a1 a2
      rw [ti_add (by rw [nI_toInt hf, z1]; omega) (by rw [nI_toInt hf, z1]; omega), nI_toInt hf, z1] at a3
      omega
    · exact Or.inr (Or.inl (fun r => q r.2))
  refine qc (fun l2 => ?_) (fun l2 => no M h (Or.inr (Or.inr (Or.inl (fun r => l2 r.2)))))
  have l1' : ¬ v3.toInt ≤ (nI f).toInt := fun q => l1 (Int32.le_iff_toInt_le.mpr q)
  have l2' := il l2
  rw [nI_toInt hf] at l1'
  rw [show (2000 : Int32).toInt = 2000 from rfl] at l2'
  obtain ⟨b, hb, eb⟩ := toNex (x := v3) 2000 (by omega) (Int32.le_iff_toInt_le.mpr (by rw [z0]; omega)) l2
  have hfb : f < b := by rw [eb, nI_toInt (by omega)] at l1'; omega
  subst eb
  subst ec
  have hok := h.1.2.1
  have hO := q_O_bd hok hc
  have bl := q_lo_bd hO (b - f) f (q_O (N 1) c f) (hO f).1
  have bh := q_hi_bd hO (b - f) f (q_O (N 1) c f) (hO f).2
  have himp := q_up_imp (lo := q_lo (q_O (N 1) c) (b - f) f (q_O (N 1) c f)) (hi := q_hi (q_O (N 1) c) (b - f) f (q_O (N 1) c f)) hO bl.1 (by omega) bh.2
  obtain ⟨⟨p1, p50, ep⟩, -⟩ := okP hok
  refine s_lowest h.1.1 hok h.1.2.2 hc hfb hb (fun M1 f1 r1 c1 => s_highest r1 hok c1 hc hfb hb (fun M2 f2 r2 c2 => ?_))
  have F2 : FC M M2 := (f1.tr f2).fc
  have ref : ∀ (w : Nat) (x : Int32) (M' : gx_M), w ≤ 5 → v4 = nI w → FC M M' → q_cache (N 1) M' → x = q_ms (N 1) c f b w → T_X11_measure N (nI c) (nI f) (nI b) v4 (fun r2 N1 => x = r2 ∧ RR M' N1) := by
    rintro w x M' hw rfl fM cM rfl
    exact n_measure hok hc hfb hb hw himp (fun N' fN => ⟨rfl, h.frame fM fN cM⟩)
  have m3 : M2 34 3 = N 1 2 := r2.1.1 0 (by omega)
  refine qc (fun e => ref 0 _ M2 (by omega) e F2 c2 rfl) (fun e0 => qc (fun e => ref 1 _ M2 (by omega) e F2 c2 rfl) (fun e1 => qc (fun e => ?_) (fun e2 => qc (fun e => ?_) (fun e3 => qc (fun e => ?_) (fun e4 => qc (fun e => ?_) (fun e5 => ?_))))))
  · exact s_rise (st := 1) r2 hok c2 hc hfb hb (by omega) (by omega) himp (fun M3 f3 r3 c3 => ref 2 _ M3 (by omega) e (F2.tr f3.fc) c3 rfl)
  · exact s_wide r2 hok c2 hc hfb hb (fun M3 f3 r3 c3 => ref 3 _ M3 (by omega) e (F2.tr f3.fc) c3 rfl)
  · rw [m3, ep]
    refine s_rise r2 hok c2 hc hfb hb p1 p50 himp (fun M3 f3 r3 c3 => ?_)
    have m33 : M3 34 3 = N 1 2 := r3.1.1 0 (by omega)
    unfold T_X10_leastRise
    cases hq : q_far (q_O (N 1) c) (q_lo (q_O (N 1) c) (b - f) f (q_O (N 1) c f)) (q_hi (q_O (N 1) c) (b - f) f (q_O (N 1) c f)) b (N 1 2).toNatClampNeg f with
    | none =>
      refine qt rfl (ref 4 _ M3 (by omega) e (F2.tr f3.fc) c3 ?_)
      unfold q_ms
      simp only [hq]
    | some d =>
      refine qf (q_rr_bd hb hq) (ref 4 _ M3 (by omega) e (F2.tr f3.fc) c3 ?_)
      unfold q_ms
      simp only [hq]
      rw [m33]
      show (if 0 < d - N 1 2 + 1 then d - N 1 2 + 1 else 0) = if 0 ≤ d - N 1 2 + 1 then d - N 1 2 + 1 else 0
      generalize d - N 1 2 + 1 = y
      by_cases a1 : 0 < y
      · rw [if_pos a1, if_pos (Int32.le_of_lt a1)]
      · rw [if_neg a1]
        by_cases a2 : 0 ≤ y
        · rw [if_pos a2]
          have b1 := il a2
          have b2 : ¬ (0 : Int32).toInt < y.toInt := fun q => a1 (Int32.lt_iff_toInt_lt.mpr q)
          exact Int32.toInt_inj.mp (by omega)
        · rw [if_neg a2]
  · rw [m3, ep]
    refine s_rise r2 hok c2 hc hfb hb p1 p50 himp (fun M3 f3 r3 c3 => ?_)
    have m33 : M3 34 3 = N 1 2 := r3.1.1 0 (by omega)
    unfold T_X10_greatestRise
    cases hq : q_far (q_O (N 1) c) (q_lo (q_O (N 1) c) (b - f) f (q_O (N 1) c f)) (q_hi (q_O (N 1) c) (b - f) f (q_O (N 1) c f)) b (N 1 2).toNatClampNeg f with
    | none =>
      refine qt rfl (ref 5 _ M3 (by omega) e (F2.tr f3.fc) c3 ?_)
      unfold q_ms
      simp only [hq]
    | some d =>
      refine qf (q_rr_bd hb hq) (ref 5 _ M3 (by omega) e (F2.tr f3.fc) c3 ?_)
      unfold q_ms
      simp only [hq]
      rw [m33]; rfl
  · refine no M2 (h.frame F2 ⟨fun _ _ _ _ _ _ _ _ _ => rfl, fun _ _ _ _ => rfl⟩ c2) (Or.inr (Or.inr (Or.inr (fun r => ?_))))
    obtain ⟨w, hw, rfl⟩ := w_nI 5 (by omega) r
    match w, hw with
    | 0, _ => exact e0 rfl
    | 1, _ => exact e1 rfl
    | 2, _ => exact e2 rfl
    | 3, _ => exact e3 rfl
    | 4, _ => exact e4 rfl
    | 5, _ => exact e5 rfl
