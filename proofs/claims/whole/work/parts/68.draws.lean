/-! glow of dots, for both sides -/
def q_dm (g : Nat → Int32) (f : Int32) : Nat → Int32 := fun d => g d * f / 16
def q_br (g : Nat → Int32) (d : Nat) : Nat → Int32 := upd g d (if g d + 16 ≤ 999 then g d + 16 else 999)
def q_turn (a : Nat → Int32) (s t : Nat) : Nat := if a 5 = 1 then s % 2 else if a 5 = 2 then t / (a 6).toNatClampNeg % 2 else 0
def q_y (a : Nat → Int32) (c t : Nat) : Int32 := q_fl (q_O a c t) (a (12 + c)) + 8 + a (14 + c)
def q_x (a : Nat → Int32) (t : Nat) : Int32 := q_fl (q_O a 0 t) (a 12) + 10 + a 14
def q_dot (a : Nat → Int32) (s c t : Nat) : Option Nat :=
  if a 5 = 3 then (if (0 ≤ q_x a t ∧ q_x a t ≤ 19) ∧ (0 ≤ q_y a 1 t ∧ q_y a 1 t ≤ 15) then some (16 * (q_x a t).toNatClampNeg + (q_y a 1 t).toNatClampNeg) else none)
  else if 0 ≤ q_y a (q_turn a s t) t ∧ q_y a (q_turn a s t) t ≤ 15 then some (16 * c + (q_y a (q_turn a s t) t).toNatClampNeg) else none
def q_put (a : Nat → Int32) (e s b c : Nat) (g : Nat → Int32) : Nat → Int32 :=
  if b + c * (a 2).toNatClampNeg < e then (match q_dot a s c (b + c * (a 2).toNatClampNeg) with | none => g | some d => q_br g d) else g
def q_cols (a : Nat → Int32) (e s b : Nat) : Nat → Nat → (Nat → Int32) → (Nat → Int32)
  | 0, _, g => g
  | m + 1, c, g => q_cols a e s b m (c + 1) (q_put a e s b c g)
def q_gl (a : Nat → Int32) (e : Nat) : List Nat → Nat → (Nat → Int32) → (Nat → Int32)
  | [], _, g => g
  | b :: L, s, g => q_gl a e L (s + 1) (q_cols a e s b 20 0 (if b < e then q_dm g (a 4) else g))
/-- the glow of all dots, swept up to e -/
def q_G (a : Nat → Int32) (G : List (Bool × List Int32)) (e : Nat) : Nat → Int32 := q_gl a e (q_SL a G e 0 0 0) 0 (fun _ => 0)
theorem q_cols_far {a : Nat → Int32} {e s b : Nat} (h : e ≤ b) : ∀ m c (g : Nat → Int32), q_cols a e s b m c g = g := by
  intro m
  induction m with
  | zero => intro c g; rfl
  | succ m ih =>
    intro c g
    show q_cols a e s b m (c + 1) (q_put a e s b c g) = g
    have : q_put a e s b c g = g := if_neg (by omega)
    rw [this]; exact ih (c + 1) g
theorem okV {a : Nat → Int32} (hok : okA a) {c : Nat} (hc : c < 2) : (1 ≤ (a (12 + c)).toInt ∧ (a (12 + c)).toInt ≤ 999) ∧ (-15 ≤ (a (14 + c)).toInt ∧ (a (14 + c)).toInt ≤ 15) := by
  obtain ⟨-, ⟨g1, g2⟩, ⟨p1, p2⟩, -⟩ := hok.2.1 c hc
  exact ⟨⟨il g1, il g2⟩, ⟨il p1, il p2⟩⟩
theorem okC {a : Nat → Int32} (hok : okA a) : (a 6).toNatClampNeg ≤ 50 ∧ 1 ≤ (a 6).toNatClampNeg ∧ a 6 = nI (a 6).toNatClampNeg := by
  obtain ⟨⟨-, -, -, -, -, -, ⟨h1, h2⟩⟩, -⟩ := hok
  have z : (0 : Int32) ≤ a 6 := Int32.le_trans (by decide) h1
  refine ⟨toNle 50 (by omega) z h2, ?_, toN z⟩
  have e := toN z
  rw [e] at h1
  have : (1 : Nat) ≤ (a 6).toNatClampNeg := (nI_leI (a := 1) (by omega) (by have := toNle 50 (by omega) z h2; omega)).mp h1
  exact this
theorem q_turn_lt (a : Nat → Int32) (s t : Nat) : q_turn a s t < 2 := by
  unfold q_turn
  by_cases h : a 5 = 1
  · rw [if_pos h]; omega
  · rw [if_neg h]
    by_cases h2 : a 5 = 2
    · rw [if_pos h2]; omega
    · rw [if_neg h2]; omega
theorem q_dot_lt {a : Nat → Int32} {s c t d : Nat} (hc : c < 20) (h : q_dot a s c t = some d) : d < 320 := by
  unfold q_dot at h
  by_cases h3 : a 5 = 3
  · rw [if_pos h3] at h
    by_cases h4 : (0 ≤ q_x a t ∧ q_x a t ≤ 19) ∧ (0 ≤ q_y a 1 t ∧ q_y a 1 t ≤ 15)
    · rw [if_pos h4] at h
      injection h with h
      have a1 := toNle 19 (by omega) h4.1.1 h4.1.2
      have a2 := toNle 15 (by omega) h4.2.1 h4.2.2
      omega
    · rw [if_neg h4] at h; cases h
  · rw [if_neg h3] at h
    by_cases h4 : 0 ≤ q_y a (q_turn a s t) t ∧ q_y a (q_turn a s t) t ≤ 15
    · rw [if_pos h4] at h
      injection h with h
      have a2 := toNle 15 (by omega) h4.1 h4.2
      omega
    · rw [if_neg h4] at h; cases h
theorem n_rowOf {N : gx_M} {c t : Nat} {Q : Int32 → Prop} (hok : okA (N 1)) (hc : c < 2) (ht : t < 2000) (ho : ∀ c, c < 2 → ∀ t, t < 2000 → N 9 (2000 * c + t) = q_O (N 1) c t)
    (h : Q (if 0 ≤ q_y (N 1) c t ∧ q_y (N 1) c t ≤ 15 then q_y (N 1) c t else -1)) : T_X11_rowOf N (nI c) (nI t) Q := by
  obtain ⟨⟨g1, g2⟩, -⟩ := okV hok hc
  have hb := q_W_bd hok hc (t + 1)
  have hO : q_O (N 1) c t = q_W (N 1) c (t + 1) := rfl
  unfold T_X11_rowOf
  have e1 : (2000 : Int32) * nI c + nI t = nI (2000 * c + t) := by rw [show (2000 : Int32) * nI c = nI (2000 * c) from pk_mul 2000 c, nI_add]
  have e2 : (12 : Int32) + nI c = nI (12 + c) := nI_add 12 c
  have e3 : (14 : Int32) + nI c = nI (14 + c) := nI_add 14 c
  rw [e1, e2, e3]
  refine ⟨vp_in_nI (by omega) (by omega), vp_in_nI (by omega) (by omega), ?_⟩
  rw [nI_clamp (show 2000 * c + t < 2 ^ 31 by omega), nI_clamp (show 12 + c < 2 ^ 31 by omega), nI_clamp (show 14 + c < 2 ^ 31 by omega), ho c hc t ht]
  refine n_down g1 (by rw [hO]; omega) (by omega) ⟨vp_in_nI (by omega) (by omega), ?_⟩
  refine nm_e ?_
  unfold q_y at h
  exact gd_in (fun q => by rw [if_neg q] at h; exact h) (fun q => by rw [if_pos q] at h; exact h)
theorem par2 (n : Nat) (hn : n < 2 ^ 31) : nI n - nI n / 2 * 2 = nI (n % 2) := pk_rem (d := 2) hn (by omega) (by omega)
theorem n_turnOf {N : gx_M} {s t : Nat} {Q : Int32 → Prop} (hok : okA (N 1)) (hs : s < 200) (ht : t < 2000) (h : Q (nI (q_turn (N 1) s t))) : T_X11_turnOf N (nI s) (nI t) Q := by
  obtain ⟨k50, k1, ek⟩ := okC hok
  have c5 : (5 : Int32).toNatClampNeg = 5 := rfl
  have c6 : (6 : Int32).toNatClampNeg = 6 := rfl
  unfold T_X11_turnOf
  rw [c5, c6]
  unfold q_turn at h
  refine ⟨by unfold vp_in; decide, qc (fun c => ?_) (fun c => ⟨by unfold vp_in; decide, qc (fun c2 => ⟨by unfold vp_in; decide, ?_, ?_⟩) (fun c2 => ?_)⟩)⟩
  · rw [if_pos c] at h; rw [par2 s (by omega)]; exact h
  · rw [ek]; exact nI_ne0 (by omega) (by omega)
  · rw [if_neg c, if_pos c2] at h
    rw [ek, pk_div (by omega) (by omega) (by omega), par2 _ (Nat.lt_of_le_of_lt (Nat.div_le_self _ _) (by omega))]; exact h
  · rw [if_neg c, if_neg c2] at h; exact h
theorem n_dotOf {N : gx_M} {s c t : Nat} {Q : Int32 → Prop} (hok : okA (N 1)) (hs : s < 200) (hc : c < 20) (ht : t < 2000) (ho : ∀ c, c < 2 → ∀ t, t < 2000 → N 9 (2000 * c + t) = q_O (N 1) c t)
    (h0 : q_dot (N 1) s c t = none → Q (-1)) (h1 : ∀ d, q_dot (N 1) s c t = some d → Q (nI d)) : T_X11_dotOf N (nI s) (nI c) (nI t) Q := by
  have c5 : (5 : Int32).toNatClampNeg = 5 := rfl
  have c12 : (12 : Int32).toNatClampNeg = 12 := rfl
  have c14 : (14 : Int32).toNatClampNeg = 14 := rfl
  unfold T_X11_dotOf
  rw [c5, c12, c14]
  unfold q_dot at h0 h1
  refine ⟨by unfold vp_in; decide, qc (fun c3 => ⟨vp_in_nI (by omega) (by omega), by unfold vp_in; decide, ?_⟩) (fun c3 => ?_)⟩
  · rw [if_pos c3] at h0
    obtain ⟨⟨g1, g2⟩, -⟩ := okV hok (c := 0) (by omega)
    have hb := q_W_bd hok (c := 0) (by omega) (t + 1)
    have hO : q_O (N 1) 0 t = q_W (N 1) 0 (t + 1) := rfl
    have o0 := ho 0 (by omega) t ht
    rw [Nat.mul_zero, Nat.zero_add] at o0
    rw [nI_clamp (by omega), o0]
    refine n_down g1 (by rw [hO]; omega) (Int.le_trans g2 (by decide)) ⟨by unfold vp_in; decide, ?_⟩
    refine nm_e ?_
    refine n_rowOf (c := 1) hok (by omega) ht ho ?_
    refine gd_in (fun q => h0 (if_neg (fun z => q z.1))) (fun q => ?_)
    by_cases y : 0 ≤ q_y (N 1) 1 t ∧ q_y (N 1) 1 t ≤ 15
    · rw [if_pos y]
      obtain ⟨ky, hky, ey⟩ := w_nI 15 (by omega) y
      obtain ⟨kx, hkx, ex⟩ := w_nI 19 (by omega) q
      have hx : q_x (N 1) t = nI kx := ex
      have := h1 (16 * kx + ky) (by rw [if_pos c3, if_pos ⟨q, y⟩, hx, ey, nI_clamp (by omega), nI_clamp (by omega)])
      rw [ey]
      refine qf (ne_m1 (by omega)) ?_
      have e : (16 : Int32) * (q_fl (q_O (N 1) 0 t) (N 1 12) + 10 + N 1 14) + nI ky = nI (16 * kx + ky) := by
        rw [ex, show (16 : Int32) * nI kx = nI (16 * kx) from pk_mul 16 kx, nI_add]
      rw [e]; exact this
    · rw [if_neg y]; exact qt rfl (h0 (if_neg (fun z => y z.2)))
  · rw [if_neg c3] at h0
    refine n_turnOf hok hs ht (n_rowOf hok (q_turn_lt _ _ _) ht ho ?_)
    by_cases y : 0 ≤ q_y (N 1) (q_turn (N 1) s t) t ∧ q_y (N 1) (q_turn (N 1) s t) t ≤ 15
    · rw [if_pos y]
      obtain ⟨ky, hky, ey⟩ := w_nI 15 (by omega) y
      have := h1 (16 * c + ky) (by rw [if_neg c3, if_pos y, ey, nI_clamp (by omega)])
      rw [ey]
      refine qf (ne_m1 (by omega)) ?_
      rw [show (16 : Int32) * nI c = nI (16 * c) from pk_mul 16 c, nI_add]; exact this
    · rw [if_neg y]; exact qt rfl (h0 (if_neg y))
/-- what drawing changes in the reference -/
def FrD (N N' : gx_M) : Prop := ∀ o, o ≠ 21 → N' o = N o
theorem n_draws {N : gx_M} {L : List Nat} {e : Nat} {Q : gx_M → Prop} (hok : okA (N 1)) (he : e ≤ 2000) (hl : L.length ≤ 100) (h35 : N 0 35 = nI L.length) (h20 : q_lst (N 20) L) (hL : ∀ b, b ∈ L → b ≤ 3000) (ho : ∀ c, c < 2 → ∀ t, t < 2000 → N 9 (2000 * c + t) = q_O (N 1) c t)
    (h : ∀ N' : gx_M, FrD N N' → (∀ d, d < 320 → N' 21 d = q_gl (N 1) e L 0 (fun _ => 0) d) → Q N') : T_X11_draws N (nI e) Q := by
  obtain ⟨⟨p1, p50, ep⟩, -⟩ := okP hok
  -- one sweep's columns
  have cols : ∀ (K : gx_M → Int32 → Int32 → Prop) (s b : Nat), s < L.length → L.getD s 0 = b → ∀ m c (g : Nat → Int32) (N' : gx_M), c + m = 20 → FrD N N' → (∀ d, d < 320 → N' 21 d = g d) → (∀ N2, FrD N N2 → (∀ d, d < 320 → N2 21 d = q_cols (N 1) e s b m c g d) → K N2 (nI e) (nI s)) → T_X11_draws_81 Q K (m + 1) N' (nI e) (nI s) (nI c) := by
    intro K s b hs hb m
    induction m with
    | zero =>
      intro c g N' hc hf hg hk
      obtain rfl : c = 20 := by omega
      unfold T_X11_draws_81
      exact qt (show nI 20 ≤ nI 20 from nI_le (by omega) (by omega)) (hk N' hf hg)
    | succ m ih =>
      intro c g N' hc hf hg hk
      have hb3 : b ≤ 3000 := by
        rw [List.getD_eq_getElem?_getD, List.getElem?_eq_getElem hs] at hb
        exact hL b (hb ▸ List.getElem_mem hs)
      have n1 : N' 1 = N 1 := hf 1 (by decide)
      have hp : c * (N 1 2).toNatClampNeg ≤ 19 * 50 := Nat.mul_le_mul (by omega) p50
      have hx : nI b + nI c * N 1 2 = nI (b + c * (N 1 2).toNatClampNeg) := by
        rw [show nI c * N 1 2 = nI (c * (N 1 2).toNatClampNeg) by rw [← pk_mul, ← ep], nI_add]
      have c2 : (2 : Int32).toNatClampNeg = 2 := rfl
      unfold T_X11_draws_81
      refine qf (show ¬ nI 20 ≤ nI c from nI_ge (by omega) (by omega)) ⟨vp_in_nI (by omega) (by omega), by unfold vp_in; decide, ?_⟩
      rw [c2, nI_clamp (by omega), hf 20 (by decide), h20 s hs, hb, n1, hx]
      refine nm_e ?_
      have skip : q_put (N 1) e s b c g = g → T_X11_draws_169 Q (T_X11_draws_81 Q K (m + 1)) N' (nI e) (nI s) (nI c) := by
        intro eg
        unfold T_X11_draws_169
        rintro _ rfl
        rw [nI_1]
        refine ih (c + 1) g N' (by omega) hf hg (fun N2 f2 g2 => hk N2 f2 (fun d hd => ?_))
        show N2 21 d = q_cols (N 1) e s b m (c + 1) (q_put (N 1) e s b c g) d
        rw [eg]; exact g2 d hd
      generalize ht : b + c * (N 1 2).toNatClampNeg = t at hx ⊢
      refine qc (fun q => ?_) (fun q => ?_)
      · have q : e ≤ t := (nI_leI (by omega) (by omega)).mp q
        unfold T_X11_draws_122
        exact qt rfl (skip (if_neg (by omega)))
      · have q : t < e := by
          rcases Nat.lt_or_ge t e with z | z
          · exact z
          · exact absurd (nI_le z (by omega)) q
        refine n_dotOf (by rw [n1]; exact hok) (by omega) (by omega) (by omega) (fun c hc t ht => by rw [hf 9 (by decide), n1]; exact ho c hc t ht) (fun hd => ?_) (fun d hd => ?_)
        · rw [n1] at hd
          unfold T_X11_draws_122
          exact qt rfl (skip (by unfold q_put; rw [ht, if_pos q, hd]))
        · rw [n1] at hd
          have hd3 := q_dot_lt (by omega) hd
          have go : ∀ x : Int32, x = (if g d + 16 ≤ 999 then g d + 16 else 999) → T_X11_draws_168 Q (T_X11_draws_81 Q K (m + 1)) N' x (nI d) (nI e) (nI s) (nI c) := by
            intro x hx
            unfold T_X11_draws_168 T_X11_draws_169
            refine ⟨vp_in_nI hd3 (by omega), ?_⟩
            rintro _ rfl _ rfl
            rw [nI_1, nI_clamp (by omega)]
            refine ih (c + 1) (q_br g d) _ (by omega) (fun o ho => by rw [gu_ne ho]; exact hf o ho) (fun d' hd' => ?_) (fun N2 f2 g2 => hk N2 f2 (fun d' hd' => ?_))
            · rw [gu_eq]
              unfold q_br
              by_cases z : d' = d
              · subst z; rw [ub_eq, ub_eq]; exact hx
              · rw [ub_ne z, ub_ne z]; exact hg d' hd'
            · show N2 21 d' = q_cols (N 1) e s b m (c + 1) (q_put (N 1) e s b c g) d'
              have : q_put (N 1) e s b c g = q_br g d := by unfold q_put; rw [ht, if_pos q, hd]
              rw [this]; exact g2 d' hd'
          unfold T_X11_draws_122
          refine qf (ne_m1 (by omega)) ⟨vp_in_nI hd3 (by omega), ?_⟩
          rw [nI_clamp (by omega), hg d hd3]
          exact qc (fun z => ⟨vp_in_nI hd3 (by omega), go _ (by rw [if_pos z])⟩) (fun z => go _ (by rw [if_neg z]))
  -- dimming
  have dim : ∀ (K : gx_M → Int32 → Int32 → Prop) (s b : Nat), s < L.length → L.getD s 0 = b → ∀ (g : Nat → Int32) m d (N' : gx_M), d + m = 320 → FrD N N' → (∀ d', d' < d → b < e → N' 21 d' = q_dm g (N 1 4) d') → (∀ d', d' < 320 → (d ≤ d' ∨ e ≤ b) → N' 21 d' = g d') → (∀ N2, FrD N N2 → (∀ d, d < 320 → N2 21 d = (if b < e then q_dm g (N 1 4) else g) d) → K N2 (nI e) (nI s)) → T_X11_draws_34 Q K (m + 1) N' (nI e) (nI s) (nI d) := by
    intro K s b hs hb g m
    have hb3 : b ≤ 3000 := by
      rw [List.getD_eq_getElem?_getD, List.getElem?_eq_getElem hs] at hb
      exact hL b (hb ▸ List.getElem_mem hs)
    have c4 : (4 : Int32).toNatClampNeg = 4 := rfl
    induction m with
    | zero =>
      intro d N' hd hf h1 h2 hk
      obtain rfl : d = 320 := by omega
      unfold T_X11_draws_34
      refine qt (show nI 320 ≤ nI 320 from nI_le (by omega) (by omega)) (hk N' hf (fun d hd => ?_))
      by_cases z : b < e
      · rw [if_pos z]; exact h1 d hd z
      · rw [if_neg z]; exact h2 d hd (Or.inr (by omega))
    | succ m ih =>
      intro d N' hd hf h1 h2 hk
      unfold T_X11_draws_34
      refine qf (show ¬ nI 320 ≤ nI d from nI_ge (by omega) (by omega)) ⟨vp_in_nI (by omega) (by omega), ?_⟩
      rw [nI_clamp (show s < 2 ^ 31 by omega), hf 20 (by decide), h20 s hs, hb]
      refine qc (fun q => ?_) (fun q => ⟨vp_in_nI (by omega) (by omega), by unfold vp_in; decide, vp_in_nI (by omega) (by omega), ?_⟩)
      · have q : e ≤ b := (nI_leI (by omega) (by omega)).mp q
        refine hk N' hf (fun d' hd' => ?_)
        rw [if_neg (by omega)]; exact h2 d' hd' (Or.inr q)
      · have q : b < e := by
          rcases Nat.lt_or_ge b e with z | z
          · exact z
          · exact absurd (nI_le z (by omega)) q
        rintro _ rfl _ rfl
        rw [nI_1, c4, nI_clamp (by omega), hf 1 (by decide)]
        refine ih (d + 1) _ (by omega) (fun o ho => by rw [gu_ne ho]; exact hf o ho) (fun d' hd' z => ?_) (fun d' hd' z => ?_) hk
        · rw [gu_eq]
          by_cases y : d' = d
          · subst y; rw [ub_eq, h2 d' (by omega) (Or.inl (by omega))]; rfl
          · rw [ub_ne y]; exact h1 d' (by omega) z
        · rw [gu_eq, ub_ne (by omega)]; exact h2 d' hd' (Or.inl (by omega))
  -- all sweeps
  have swp : ∀ m s (g : Nat → Int32) (N' : gx_M), s + m = L.length → FrD N N' → (∀ d, d < 320 → N' 21 d = g d) → q_gl (N 1) e (L.drop s) s g = q_gl (N 1) e L 0 (fun _ => 0) → T_X11_draws_24 Q (m + 1) N' (nI e) (nI s) := by
    intro m
    induction m with
    | zero =>
      intro s g N' hs hf hg hq
      unfold T_X11_draws_24
      rw [hf 0 (by decide), h35]
      refine qt (nI_le (by omega) (by omega)) (h N' hf (fun d hd => ?_))
      rw [← hq, hg d hd, List.drop_eq_nil_of_le (by omega)]; rfl
    | succ m ih =>
      intro s g N' hs hf hg hq
      have hlt : s < L.length := by omega
      have hd := List.drop_eq_getElem_cons hlt
      have hb : L.getD s 0 = L[s] := by rw [List.getD_eq_getElem?_getD, List.getElem?_eq_getElem hlt]; rfl
      unfold T_X11_draws_24
      rw [hf 0 (by decide), h35]
      refine qf (nI_ge (by omega) (by omega)) ⟨321, ?_⟩
      refine dim _ s L[s] hlt hb g 320 0 N' (by omega) hf (fun d' hd' => absurd hd' (Nat.not_lt_zero _)) (fun d' hd' _ => hg d' hd') (fun N2 f2 g2 => ?_)
      unfold T_X11_draws_79
      refine ⟨21, cols _ s L[s] hlt hb 20 0 (if L[s] < e then q_dm g (N 1 4) else g) N2 (by omega) f2 g2 (fun N3 f3 g3 => ?_)⟩
      rintro _ rfl
      rw [nI_1]
      refine ih (s + 1) _ N3 (by omega) f3 g3 ?_
      rw [hd] at hq
      exact hq
  have dark : ∀ m d (N' : gx_M), d + m = 320 → FrD N N' → (∀ d', d' < d → N' 21 d' = 0) → T_X11_draws_2 Q (fun M5 v1_4 => (∃ k22, T_X11_draws_24 Q k22 M5 v1_4 0)) (m + 1) N' (nI e) (nI d) := by
    intro m
    induction m with
    | zero =>
      intro d N' hd hf h1
      obtain rfl : d = 320 := by omega
      unfold T_X11_draws_2
      refine qt (show nI 320 ≤ nI 320 from nI_le (by omega) (by omega)) ⟨L.length + 1, swp L.length 0 (fun _ => 0) N' (by omega) hf h1 rfl⟩
    | succ m ih =>
      intro d N' hd hf h1
      unfold T_X11_draws_2
      refine qf (show ¬ nI 320 ≤ nI d from nI_ge (by omega) (by omega)) ⟨vp_in_nI (by omega) (by omega), ?_⟩
      rintro _ rfl _ rfl
      rw [nI_1, nI_clamp (by omega)]
      refine ih (d + 1) _ (by omega) (fun o ho => by rw [gu_ne ho]; exact hf o ho) (fun d' hd' => ?_)
      rw [gu_eq]
      by_cases y : d' = d
      · subst y; rw [ub_eq]
      · rw [ub_ne y]; exact h1 d' (by omega)
  exact ⟨321, dark 320 0 N (by omega) (fun _ _ => rfl) (fun d' hd' => absurd hd' (Nat.not_lt_zero _))⟩
