/-! otherwise -/
def q_fx (a : Nat → Int32) (c tick : Nat) (h : Int32) (p w f : Nat) : Bool := q_fit (q_S a c tick) (q_gs a tick h p w f) 20 0
theorem nI_lt1 {n : Nat} {m : Nat} (h : ¬ nI m ≤ nI n) (hm : n < 2 ^ 31) : n < m := by
  rcases Nat.lt_or_ge n m with z | z
  · exact z
  · exact absurd (nI_le z hm) h
theorem s_else3 {M2 : gx_M} {a : Nat → Int32} {c tick p w : Nat} {h i : Int32} {Q : Int32 → gx_M → Prop} {K : gx_M → Int32 → Int32 → Int32 → Int32 → Int32 → Int32 → Prop} (hR : RS 0 a M2) (hok : okA a) (ht : tick ≤ 1000) (hp : 1 ≤ p) (hp2 : p < 100) (hs : ∀ k, k < 20 → M2 10 k = q_S a c tick k) : ∀ m f (n : Int32) (M' : gx_M), f + m = p → (∀ o, o ≠ 110 → M' o = M2 o) → (∀ x M3, q_e3 (q_fx a c tick h) i p w m f n = .inl x → (∀ o, o ≠ 110 → M3 o = M2 o) → Q x M3) → (∀ n' M3, q_e3 (q_fx a c tick h) i p w m f n = .inr n' → (∀ o, o ≠ 110 → M3 o = M2 o) → K M3 (nI tick) i h n' (nI p) (nI w)) → T_X10_otherwise_75 Q K (m + 1) M' (nI tick) i h n (nI p) (nI w) (nI f) := by
  intro m
  induction m with
  | zero =>
    intro f n M' hf hfr hin hout
    unfold T_X10_otherwise_75
    exact qt (nI_le (by omega) (by omega)) (hout n M' rfl hfr)
  | succ m ih =>
    intro f n M' hf hfr hin hout
    unfold T_X10_otherwise_75
    refine qf (nI_ge (by omega) (by omega)) ?_
    unfold T_X3_set
    rintro _ rfl _ rfl _ rfl _ rfl _ rfl
    have fr2 : ∀ o, o ≠ 110 → gx_up (gx_up (gx_up (gx_up (gx_up M' 110 0 1) 110 1 h) 110 2 (nI p)) 110 3 (nI w)) 110 4 (nI f) o = M2 o := fun o ho => by rw [gu_ne ho, gu_ne ho, gu_ne ho, gu_ne ho, gu_ne ho]; exact hfr o ho
    refine s_fits (a := a) (c := c) (p := p) (w := w) (f := f) (h := h) (hR.kept0 hok (fun o ho => fr2 o (by omega))) hok ht hp hp2 (fun k hk => by rw [fr2 10 (by decide)]; exact hs k hk) (by simp [gu_at]) (by simp [gu_at]) (by simp [gu_at]) (by simp [gu_at]) (by simp [gu_at]) ?_
    have eq1 : q_e3 (q_fx a c tick h) i p w (m + 1) f n = if q_fx a c tick h p w f = true then (if n = i then .inl (10000 * nI p + 100 * nI w + nI f) else q_e3 (q_fx a c tick h) i p w m (f + 1) (n + 1)) else q_e3 (q_fx a c tick h) i p w m (f + 1) n := rfl
    rw [eq1] at hin hout
    show if b2i (q_fx a c tick h p w f) = 0 then _ else _
    unfold T_X10_otherwise_131
    cases hb : q_fx a c tick h p w f with
    | false =>
      rw [hb, if_neg (by decide)] at hin hout
      refine qt rfl ?_
      rintro _ rfl
      rw [nI_1]
      exact ih (f + 1) n _ (by omega) fr2 hin hout
    | true =>
      rw [hb, if_pos rfl] at hin hout
      refine qf (by decide) (qc (fun e => ?_) (fun e => ?_))
      · rw [if_pos e] at hin
        exact hin _ _ rfl fr2
      · rw [if_neg e] at hin hout
        rintro _ rfl _ rfl
        rw [nI_1]
        exact ih (f + 1) (n + 1) _ (by omega) fr2 hin hout
theorem s_else2 {M2 : gx_M} {a : Nat → Int32} {c tick p : Nat} {h i : Int32} {Q : Int32 → gx_M → Prop} {K : gx_M → Int32 → Int32 → Int32 → Int32 → Int32 → Prop} (hR : RS 0 a M2) (hok : okA a) (ht : tick ≤ 1000) (hp : 1 ≤ p) (hp2 : p < 100) (hs : ∀ k, k < 20 → M2 10 k = q_S a c tick k) : ∀ m w (n : Int32) (M' : gx_M), w + m = p → (∀ o, o ≠ 110 → M' o = M2 o) → (∀ x M3, q_e2 (q_fx a c tick h) i p m w n = .inl x → (∀ o, o ≠ 110 → M3 o = M2 o) → Q x M3) → (∀ n' M3, q_e2 (q_fx a c tick h) i p m w n = .inr n' → (∀ o, o ≠ 110 → M3 o = M2 o) → K M3 (nI tick) i h n' (nI p)) → T_X10_otherwise_65 Q K (m + 1) M' (nI tick) i h n (nI p) (nI w) := by
  intro m
  induction m with
  | zero =>
    intro w n M' hf hfr hin hout
    unfold T_X10_otherwise_65
    exact qt (nI_le (by omega) (by omega)) (hout n M' rfl hfr)
  | succ m ih =>
    intro w n M' hf hfr hin hout
    unfold T_X10_otherwise_65
    have eq1 : q_e2 (q_fx a c tick h) i p (m + 1) w n = match q_e3 (q_fx a c tick h) i p w p 0 n with | .inl x => .inl x | .inr n' => q_e2 (q_fx a c tick h) i p m (w + 1) n' := rfl
    rw [eq1] at hin hout
    refine qf (nI_ge (by omega) (by omega)) ⟨p + 1, ?_⟩
    refine s_else3 hR hok ht hp hp2 hs p 0 n M' (by omega) hfr (fun x M3 e f3 => ?_) (fun n' M3 e f3 => ?_)
    · rw [e] at hin; exact hin x M3 rfl f3
    · rw [e] at hin hout
      rintro _ rfl
      rw [nI_1]
      exact ih (w + 1) n' M3 (by omega) f3 hin hout
theorem s_else1 {M2 : gx_M} {a : Nat → Int32} {c tick : Nat} {h i : Int32} {Q : Int32 → gx_M → Prop} {K : gx_M → Int32 → Int32 → Prop} (hR : RS 0 a M2) (hok : okA a) (ht : tick ≤ 1000) (hs : ∀ k, k < 20 → M2 10 k = q_S a c tick k) : ∀ m p (n : Int32) (M' : gx_M), p + m = 25 → 1 ≤ p → (∀ o, o ≠ 110 → M' o = M2 o) → (∀ x M3, q_e1 (q_fx a c tick h) i m p n = .inl x → (∀ o, o ≠ 110 → M3 o = M2 o) → Q x M3) → (∀ n' M3, q_e1 (q_fx a c tick h) i m p n = .inr n' → (∀ o, o ≠ 110 → M3 o = M2 o) → K M3 i n') → T_X10_otherwise_55 Q K (m + 1) M' (nI tick) i h n (nI p) := by
  intro m
  induction m with
  | zero =>
    intro p n M' hp hp1 hfr hin hout
    unfold T_X10_otherwise_55
    exact qt (show nI 24 < nI p from nI_lt (by omega) (by omega)) (hout n M' rfl hfr)
  | succ m ih =>
    intro p n M' hp hp1 hfr hin hout
    unfold T_X10_otherwise_55
    have eq1 : q_e1 (q_fx a c tick h) i (m + 1) p n = match q_e2 (q_fx a c tick h) i p (p - 1) 1 n with | .inl x => .inl x | .inr n' => q_e1 (q_fx a c tick h) i m (p + 1) n' := rfl
    rw [eq1] at hin hout
    refine qf (show ¬ nI 24 < nI p from nI_nlt (by omega) (by omega)) ⟨p - 1 + 1, ?_⟩
    refine s_else2 hR hok ht hp1 (by omega) hs (p - 1) 1 n M' (by omega) hfr (fun x M3 e f3 => ?_) (fun n' M3 e f3 => ?_)
    · rw [e] at hin; exact hin x M3 rfl f3
    · rw [e] at hin hout
      rintro _ rfl
      rw [nI_1]
      exact ih (p + 1) n' M3 (by omega) (by omega) f3 hin hout
theorem n_else3 {N : gx_M} {c tick p w : Nat} {h i : Int32} {Q : Int32 → gx_M → Prop} {K : gx_M → Int32 → Int32 → Int32 → Int32 → Int32 → Int32 → Prop} (hok : okA (N 1)) (ht : tick ≤ 1000) (hp : 1 ≤ p) (hp2 : p < 100) (hs : ∀ k, k < 20 → N 22 k = q_S (N 1) c tick k) : ∀ m f (n : Int32), f + m = p → (∀ x, q_e3 (q_fx (N 1) c tick h) i p w m f n = .inl x → Q x N) → (∀ n', q_e3 (q_fx (N 1) c tick h) i p w m f n = .inr n' → K N (nI tick) i h n' (nI p) (nI w)) → T_X11_otherwise_135 Q K (m + 1) N (nI tick) i h n (nI p) (nI w) (nI f) := by
  intro m
  induction m with
  | zero =>
    intro f n hf hin hout
    unfold T_X11_otherwise_135
    exact qt (nI_le (by omega) (by omega)) (hout n rfl)
  | succ m ih =>
    intro f n hf hin hout
    unfold T_X11_otherwise_135
    refine qf (nI_ge (by omega) (by omega)) (n_isAs (c := c) hok ht hp hp2 hs ?_)
    have eq1 : q_e3 (q_fx (N 1) c tick h) i p w (m + 1) f n = if q_fx (N 1) c tick h p w f = true then (if n = i then .inl (10000 * nI p + 100 * nI w + nI f) else q_e3 (q_fx (N 1) c tick h) i p w m (f + 1) (n + 1)) else q_e3 (q_fx (N 1) c tick h) i p w m (f + 1) n := rfl
    rw [eq1] at hin hout
    show if b2i (q_fx (N 1) c tick h p w f) = 0 then _ else _
    unfold T_X11_otherwise_183
    cases hb : q_fx (N 1) c tick h p w f with
    | false =>
      rw [hb, if_neg (by decide)] at hin hout
      refine qt rfl ?_
      rintro _ rfl
      rw [nI_1]
      exact ih (f + 1) n (by omega) hin hout
    | true =>
      rw [hb, if_pos rfl] at hin hout
      refine qf (by decide) (qc (fun e => ?_) (fun e => ?_))
      · rw [if_pos e] at hin
        exact hin _ rfl
      · rw [if_neg e] at hin hout
        rintro _ rfl _ rfl
        rw [nI_1]
        exact ih (f + 1) (n + 1) (by omega) hin hout
theorem n_else2 {N : gx_M} {c tick p : Nat} {h i : Int32} {Q : Int32 → gx_M → Prop} {K : gx_M → Int32 → Int32 → Int32 → Int32 → Int32 → Prop} (hok : okA (N 1)) (ht : tick ≤ 1000) (hp : 1 ≤ p) (hp2 : p < 100) (hs : ∀ k, k < 20 → N 22 k = q_S (N 1) c tick k) : ∀ m w (n : Int32), w + m = p → (∀ x, q_e2 (q_fx (N 1) c tick h) i p m w n = .inl x → Q x N) → (∀ n', q_e2 (q_fx (N 1) c tick h) i p m w n = .inr n' → K N (nI tick) i h n' (nI p)) → T_X11_otherwise_125 Q K (m + 1) N (nI tick) i h n (nI p) (nI w) := by
  intro m
  induction m with
  | zero =>
    intro w n hf hin hout
    unfold T_X11_otherwise_125
    exact qt (nI_le (by omega) (by omega)) (hout n rfl)
  | succ m ih =>
    intro w n hf hin hout
    unfold T_X11_otherwise_125
    have eq1 : q_e2 (q_fx (N 1) c tick h) i p (m + 1) w n = match q_e3 (q_fx (N 1) c tick h) i p w p 0 n with | .inl x => .inl x | .inr n' => q_e2 (q_fx (N 1) c tick h) i p m (w + 1) n' := rfl
    rw [eq1] at hin hout
    refine qf (nI_ge (by omega) (by omega)) ⟨p + 1, ?_⟩
    refine n_else3 hok ht hp hp2 hs p 0 n (by omega) (fun x e => ?_) (fun n' e => ?_)
    · rw [e] at hin; exact hin x rfl
    · rw [e] at hin hout
      rintro _ rfl
      rw [nI_1]
      exact ih (w + 1) n' (by omega) hin hout
theorem n_else1 {N : gx_M} {c tick : Nat} {h i : Int32} {Q : Int32 → gx_M → Prop} {K : gx_M → Int32 → Int32 → Prop} (hok : okA (N 1)) (ht : tick ≤ 1000) (hs : ∀ k, k < 20 → N 22 k = q_S (N 1) c tick k) (hh : ¬ h ≤ 0) : ∀ m p (n : Int32), p + m = 25 → 1 ≤ p → (∀ x, q_e1 (q_fx (N 1) c tick h) i m p n = .inl x → Q x N) → (∀ n', q_e1 (q_fx (N 1) c tick h) i m p n = .inr n' → K N i n') → T_X11_otherwise_110 Q K (m + 1) N (nI tick) i h n (nI p) := by
  intro m
  induction m with
  | zero =>
    intro p n hp hp1 hin hout
    unfold T_X11_otherwise_110
    exact qt (show nI 25 ≤ nI p from nI_le (by omega) (by omega)) (hout n rfl)
  | succ m ih =>
    intro p n hp hp1 hin hout
    unfold T_X11_otherwise_110
    have eq1 : q_e1 (q_fx (N 1) c tick h) i (m + 1) p n = match q_e2 (q_fx (N 1) c tick h) i p (p - 1) 1 n with | .inl x => .inl x | .inr n' => q_e1 (q_fx (N 1) c tick h) i m (p + 1) n' := rfl
    rw [eq1] at hin hout
    refine qf (show ¬ nI 25 ≤ nI p from nI_ge (by omega) (by omega)) (qf hh ⟨p - 1 + 1, ?_⟩)
    refine n_else2 hok ht hp1 (by omega) hs (p - 1) 1 n (by omega) (fun x e => ?_) (fun n' e => ?_)
    · rw [e] at hin; exact hin x rfl
    · rw [e] at hin hout
      rintro _ rfl
      rw [nI_1]
      exact ih (p + 1) n' (by omega) (by omega) hin hout
theorem step_otherwise : st_otherwise RR := by
  intro M N h v1 v2 v3
  have no : (¬ (0 ≤ v1 ∧ v1 ≤ 1) ∨ ¬ (0 ≤ v2 ∧ v2 ≤ 1000) ∨ ¬ (-1 ≤ v3)) → T_X11_otherwise N v1 v2 v3 (fun r2 N1 => -1 = r2 ∧ RR M N1) := fun z => by
    unfold T_X11_otherwise
    exact gn_isChannel (fun _ => ⟨rfl, h⟩) (fun q1 => gd_in (fun _ => ⟨rfl, h⟩) (fun q2 => qc (fun q3 => absurd z (by rintro (a | a | a); exact a q1; exact a q2; exact a q3)) (fun _ => ⟨rfl, h⟩)))
  unfold T_X10_otherwise
  refine gd_isChannel (fun n1 => no (Or.inl n1)) (fun c hc ec => ?_)
  have p1 : 0 ≤ v1 ∧ v1 ≤ 1 := by rw [ec]; exact v_n (n := 1) (by omega) (by omega)
  refine gd_within (fun n2 => no (Or.inr (Or.inl n2))) (fun p2 => qc (fun p3 => ?_) (fun n3 => no (Or.inr (Or.inr n3))))
  subst ec
  obtain ⟨tick, ht, rfl⟩ := w_nI 1000 (by omega) p2
  have hok := h.1.2.1
  refine s_take h.1.1 hok h.1.2.2 hc ht (fun M1 f1 r1 c1 s1 => ?_)
  have c2 : (2 : Int32).toNatClampNeg = 2 := rfl
  -- the reference, its samples taken
  have ref : ∀ (x : Int32) (M' : gx_M), FC M M' → q_cache (N 1) M' → (∀ N' : gx_M, N' 1 = N 1 → (∀ k, k < 20 → N' 22 k = q_S (N 1) c tick k) → ∀ P : Int32 → gx_M → Prop, P x N' → ∃ k34, T_X11_otherwise_110 P (fun M37 v3_35 v5_36 => T_X11_otherwise_201 P M37 v3_35 v5_36) k34 N' (nI tick) v3 (q_mx (q_S (N 1) c tick) 20 0) 0 2) → T_X11_otherwise N (nI c) (nI tick) v3 (fun r2 N1 => x = r2 ∧ RR M' N1) := by
    intro x M' fM cM hx
    unfold T_X11_otherwise
    refine gn_isChannel (fun q => absurd p1 q) (fun _ => gd_in (fun q => absurd p2 q) (fun _ => qt p3 ?_))
    refine n_laysOut hok hc (fun N1 g1 g2 g3 => ?_)
    have e1 : N1 1 = N 1 := g1 1 (by decide)
    have key : ∀ m k (N' : gx_M), k + m = 20 → (∀ o, o ≠ 22 → N' o = N1 o) → (∀ k', k' < k → N' 22 k' = q_S (N 1) c tick k') → T_X11_otherwise_36 (fun r2 N1 => x = r2 ∧ RR M' N1) (fun M12 v2_9 v3_10 v4_11 => (∃ k34, T_X11_otherwise_110 (fun r2 N1 => x = r2 ∧ RR M' N1) (fun M37 v3_35 v5_36 => T_X11_otherwise_201 (fun r2 N1 => x = r2 ∧ RR M' N1) M37 v3_35 v5_36) k34 M12 v2_9 v3_10 v4_11 0 2)) (m + 1) N' (nI c) (nI tick) v3 (q_mx (q_S (N 1) c tick) k 0) (nI k) := by
      intro m
      induction m with
      | zero =>
        intro k N' hk hf h1
        obtain rfl : k = 20 := by omega
        unfold T_X11_otherwise_36
        refine qt (show nI 20 ≤ nI 20 from nI_le (by omega) (by omega)) (hx N' ((hf 1 (by decide)).trans e1) h1 _ ⟨rfl, ?_⟩)
        exact h.frame fM ((fn_lay g1).tr ⟨fun o _ _ _ _ _ _ a _ => hf o a, fun j _ _ _ => by rw [hf 0 (by decide)]⟩) cM
      | succ m ih =>
        intro k N' hk hf h1
        obtain ⟨t1, t2⟩ := tk hok ht (k := k) (by omega)
        have ix : (2000 : Int32) * nI c + nI tick + nI k * N 1 2 = nI (2000 * c + (tick + k * (N 1 2).toNatClampNeg)) := by
          rw [show (2000 : Int32) * nI c = nI (2000 * c) from pk_mul 2000 c, Int32.add_assoc, t2, nI_add]
        have go : ∀ y : Int32, y = q_mx (q_S (N 1) c tick) (k + 1) 0 → T_X11_otherwise_96 (fun r2 N1 => x = r2 ∧ RR M' N1) (T_X11_otherwise_36 (fun r2 N1 => x = r2 ∧ RR M' N1) (fun M12 v2_9 v3_10 v4_11 => (∃ k34, T_X11_otherwise_110 (fun r2 N1 => x = r2 ∧ RR M' N1) (fun M37 v3_35 v5_36 => T_X11_otherwise_201 (fun r2 N1 => x = r2 ∧ RR M' N1) M37 v3_35 v5_36) k34 M12 v2_9 v3_10 v4_11 0 2)) (m + 1)) (gx_up N' 22 k (q_S (N 1) c tick k)) y (nI c) (nI tick) v3 (nI k) := by
          rintro _ rfl
          unfold T_X11_otherwise_96
          rintro _ rfl
          rw [nI_1]
          refine ih (k + 1) _ (by omega) (fun o ho => by rw [gu_ne ho]; exact hf o ho) (fun k' hk' => ?_)
          rw [gu_eq]
          by_cases z : k' = k
          · subst z; rw [ub_eq]
          · rw [ub_ne z]; exact h1 k' (by omega)
        unfold T_X11_otherwise_36
        refine qf (show ¬ nI 20 ≤ nI k from nI_ge (by omega) (by omega)) ⟨by unfold vp_in; decide, ?_⟩
        have n9 : N' 9 (2000 * c + (tick + k * (N 1 2).toNatClampNeg)) = q_S (N 1) c tick k := by rw [hf 9 (by decide)]; exact g2 _ t1
        rw [c2, hf 1 (by decide), e1, ix]
        refine ⟨vp_in_nI (by omega) (by omega), vp_in_nI (by omega) (by omega), ?_⟩
        rw [nI_clamp (show 2000 * c + (tick + k * (N 1 2).toNatClampNeg) < 2 ^ 31 by omega), nI_clamp (show k < 2 ^ 31 by omega), n9]
        rintro _ rfl
        refine ⟨vp_in_nI (by omega) (by omega), ?_⟩
        rw [gu_eq, ub_eq]
        refine qc (fun q => go _ ?_) (fun q => ⟨vp_in_nI (by omega) (by omega), go _ ?_⟩)
        · show _ = if q_mx (q_S (N 1) c tick) k 0 < q_S (N 1) c tick k then q_S (N 1) c tick k else q_mx (q_S (N 1) c tick) k 0
          rw [if_neg (Int32.not_lt.mpr q)]
        · show _ = if q_mx (q_S (N 1) c tick) k 0 < q_S (N 1) c tick k then q_S (N 1) c tick k else q_mx (q_S (N 1) c tick) k 0
          rw [if_pos (Int32.not_le.mp q)]
    exact ⟨21, key 20 0 N1 (by omega) (fun _ _ => rfl) (fun k' hk' => absurd hk' (Nat.not_lt_zero _))⟩
  have rel := q_mx_rel (q_S (N 1) c tick) 19
  refine qc (fun pos => ?_) (fun neg => ?_)
  · rw [if_pos pos] at rel
    generalize hg : q_mx (q_S (N 1) c tick) 20 (q_S (N 1) c tick 0) = g at pos rel
    have rel : q_mx (q_S (N 1) c tick) 20 0 = g := rel
    refine ⟨24, s_else1 r1 hok ht s1 23 2 0 M1 (by omega) (by omega) (fun _ _ => rfl) (fun x M3 e f3 => ?_) (fun n' M3 e f3 => ?_)⟩
    · refine ref x M3 (f1.tr (fun o _ _ _ _ _ _ _ _ a => f3 o a)) (c1.kept (by rw [f3 1 (by decide)]) (f3 13 (by decide)) (f3 14 (by decide))) (fun N' e1 s2 P hP => ⟨24, ?_⟩)
      rw [rel]
      refine n_else1 (c := c) (by rw [e1]; exact hok) ht (by rw [e1]; exact s2) (Int32.not_le.mpr pos) 23 2 0 (by omega) (by omega) (fun y ey => ?_) (fun n' ey => ?_)
      · rw [e1, e] at ey; injection ey with ey; rw [← ey]; exact hP
      · rw [e1, e] at ey; cases ey
    · have fin : ∀ x : Int32, x = (if v3 = -1 then n' else -1) → T_X11_otherwise N (nI c) (nI tick) v3 (fun r2 N1 => x = r2 ∧ RR M3 N1) := by
        rintro _ rfl
        refine ref _ M3 (f1.tr (fun o _ _ _ _ _ _ _ _ a => f3 o a)) (c1.kept (by rw [f3 1 (by decide)]) (f3 13 (by decide)) (f3 14 (by decide))) (fun N' e1 s2 P hP => ⟨24, ?_⟩)
        rw [rel]
        refine n_else1 (c := c) (by rw [e1]; exact hok) ht (by rw [e1]; exact s2) (Int32.not_le.mpr pos) 23 2 0 (by omega) (by omega) (fun y ey => ?_) (fun n2 ey => ?_)
        · rw [e1, e] at ey; cases ey
        · rw [e1, e] at ey; injection ey with ey; rw [← ey]
          unfold T_X11_otherwise_201
          exact qc (fun q => by rw [if_pos q] at hP; exact hP) (fun q => by rw [if_neg q] at hP; exact hP)
      exact qc (fun q => fin _ (by rw [if_pos q])) (fun q => fin _ (by rw [if_neg q]))
  · rw [if_neg neg] at rel
    have rel : q_mx (q_S (N 1) c tick) 20 0 = 0 := rel
    have fin : ∀ x : Int32, x = (if v3 = -1 then 0 else -1) → T_X11_otherwise N (nI c) (nI tick) v3 (fun r2 N1 => x = r2 ∧ RR M1 N1) := by
      rintro _ rfl
      refine ref _ M1 f1 c1 (fun N' e1 s2 P hP => ⟨1, ?_⟩)
      rw [rel]
      unfold T_X11_otherwise_110 T_X11_otherwise_201
      refine qf (by decide) (qt (by decide) ?_)
      exact qc (fun q => by rw [if_pos q] at hP; exact hP) (fun q => by rw [if_neg q] at hP; exact hP)
    exact qc (fun q => fin _ (by rw [if_pos q])) (fun q => fin _ (by rw [if_neg q]))
