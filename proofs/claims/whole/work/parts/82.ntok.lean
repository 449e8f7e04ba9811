/-! how the reference comes to a token -/
def q_sb (x : Nat) : Int32 := (nI x).toInt8.toInt32
theorem sb_lo : ∀ x, x < 128 → q_sb x = nI x := by decide +kernel
theorem sb_hi : ∀ x, x < 256 → 128 ≤ x → q_sb x < 0 := by decide +kernel
theorem sb_is {x k : Nat} (hx : x < 256) (hk : k < 128) : q_sb x = nI k ↔ x = k := by
  rcases Nat.lt_or_ge x 128 with z | z
  · rw [sb_lo x z]; exact nI_eq (by omega) (by omega)
  · have h := sb_hi x hx z
    constructor
    · intro e; rw [e] at h; exact absurd h (nI_pos (by omega))
    · intro e; omega
theorem sb_bt {x lo hi : Nat} (hx : x < 256) (hlo : lo < 128) (hhi : hi < 128) : (nI lo ≤ q_sb x ∧ q_sb x ≤ nI hi) ↔ (lo ≤ x ∧ x ≤ hi) := by
  rcases Nat.lt_or_ge x 128 with z | z
  · rw [sb_lo x z, nI_leI (by omega) (by omega), nI_leI (by omega) (by omega)]
  · have h := sb_hi x hx z
    constructor
    · intro e
      have := Int32.lt_of_le_of_lt e.1 h
      exact absurd this (nI_pos (by omega))
    · intro e; omega
def q_tks (sg told : Int32) : Prop := (sg = -31 ∧ told = 60) ∨ (sg = -32 ∧ told = 300) ∨ (sg = -33 ∧ told = 62) ∨ (sg = -34 ∧ told = 301) ∨ (sg = -35 ∧ told = 61) ∨ (sg = -36 ∧ told = 35) ∨ (sg = -21 ∧ told = 43) ∨ (sg = -22 ∧ told = 45) ∨ (sg = -23 ∧ told = 42) ∨ (sg = -24 ∧ told = 47) ∨ (sg = -51 ∧ told = 40) ∨ (sg = -52 ∧ told = 41) ∨ (sg = -53 ∧ told = 59)
/-- a token, as the reference says it -/
def q_tk (sg : Int32) (nu : Nat) (sort told : Int32) : Prop :=
  (sg = -57 ∧ sort = 0) ∨ (sg = -58 ∧ (sort = 4 ∨ (sort = 3 ∧ told = 44))) ∨ (sg = -56 ∧ sort = 2 ∧ told = nI nu ∧ nu < 1000000) ∨ (∃ i, i < 12 ∧ sg = q_wsg i ∧ sort = 1 ∧ told = nI i) ∨ (sort = 3 ∧ q_tks sg told)
def r_by (N : gx_M) (b : Nat → Nat) (n : Nat) : Prop := n ≤ 300 ∧ N 0 12 = nI n ∧ ∀ i, i < n → N 3 i = q_sb (b i) ∧ b i < 256
def Fr0 (N N' : gx_M) : Prop := (∀ q, q ≠ 0 → N' q = N q) ∧ ∀ j, j ≠ 13 → j ≠ 14 → j ≠ 15 → j ≠ 16 → N' 0 j = N 0 j
theorem Fr0.rf {N : gx_M} : Fr0 N N := ⟨fun _ _ => rfl, fun _ _ _ _ _ => rfl⟩
theorem Fr0.tr {A B C : gx_M} (h : Fr0 A B) (k : Fr0 B C) : Fr0 A C := ⟨fun q hq => (k.1 q hq).trans (h.1 q hq), fun j a b c d => (k.2 j a b c d).trans (h.2 j a b c d)⟩
theorem Fr0.up {N N' : gx_M} (h : Fr0 N N') {j : Nat} (x : Int32) (hj : j = 13 ∨ j = 14 ∨ j = 15 ∨ j = 16) : Fr0 N (gx_up N' 0 j x) := ⟨fun q hq => by rw [gu_ne hq]; exact h.1 q hq, fun i a b c d => by rw [gu_eq, ub_ne (by omega)]; exact h.2 i a b c d⟩
theorem r_by.kept {N N' : gx_M} {b : Nat → Nat} {n : Nat} (h : r_by N b n) (k : Fr0 N N') : r_by N' b n := ⟨h.1, (k.2 12 (by decide) (by decide) (by decide) (by decide)).trans h.2.1, fun i hi => by rw [k.1 3 (by decide)]; exact h.2.2 i hi⟩
theorem n_isLetter {N : gx_M} {x : Nat} {Q : Int32 → Prop} (hx : x < 256) (h : Q (b2i (pLe x))) : T_X11_isLetter N (q_sb x) Q := by
  unfold T_X11_isLetter T_X11_isLetter_22
  unfold pLe at h
  refine gd_in (fun e => gd_in (fun e2 => ?_) (fun e2 => ?_)) (fun e => ?_)
  · have e : ¬ (97 ≤ x ∧ x ≤ 122) := fun z => e ((sb_bt (lo := 97) (hi := 122) hx (by omega) (by omega)).mpr z)
    have e2 : ¬ (65 ≤ x ∧ x ≤ 90) := fun z => e2 ((sb_bt (lo := 65) (hi := 90) hx (by omega) (by omega)).mpr z)
    rw [decide_eq_false (by omega)] at h; exact h
  · have e2 : 65 ≤ x ∧ x ≤ 90 := (sb_bt (lo := 65) (hi := 90) hx (by omega) (by omega)).mp e2
    rw [decide_eq_true (Or.inr e2)] at h; exact h
  · have e : 97 ≤ x ∧ x ≤ 122 := (sb_bt (lo := 97) (hi := 122) hx (by omega) (by omega)).mp e
    rw [decide_eq_true (Or.inl e)] at h; exact h
theorem n_blanks {N : gx_M} {b : Nat → Nat} {n p : Nat} {Q K : gx_M → Prop} (hb : r_by N b n) (h2 : N 0 13 = nI p) (hp : p ≤ n) (h : ∀ N' : gx_M, Fr0 N N' → N' 0 13 = nI (q_st0 b n p) → K N') : ∃ k, T_X11_next_0 Q K k N := by
  have h300 := hb.1
  have key : ∀ m p' (N' : gx_M), p' + m = n → Fr0 N N' → N' 0 13 = nI p' → q_st0 b n p = q_wh pBl b m p' → T_X11_next_0 Q K (m + 1) N' := by
    intro m
    induction m with
    | zero =>
      intro p' N' hm hF h2' hq
      unfold T_X11_next_0
      rw [(hb.kept hF).2.1, h2']
      refine qt (nI_le (by omega) (by omega)) (h N' hF ?_)
      rw [hq]; exact h2'
    | succ m ih =>
      intro p' N' hm hF h2' hq
      obtain ⟨hv, hx⟩ := (hb.kept hF).2.2 p' (by omega)
      unfold T_X11_next_0 T_X11_next_39
      rw [(hb.kept hF).2.1, h2']
      refine qf (nI_ge (by omega) (by omega)) ⟨vp_in_nI (by omega) (by omega), ?_⟩
      rw [nI_clamp (by omega), hv]
      have yes : pBl (b p') = true → T_X11_next_0 Q K (m + 1) (gx_up N' 0 13 (nI p' + 1)) := by
        intro hB
        rw [nI_1]
        exact ih (p' + 1) _ (by omega) (hF.up _ (by omega)) (by rw [gu_eq, ub_eq]) (by rw [hq, q_wh_yes hB])
      refine qc (fun e => ?_) (fun e => ⟨vp_in_nI (by omega) (by omega), qc (fun e2 => ?_) (fun e2 => ?_)⟩)
      · rintro _ rfl
        exact yes (decide_eq_true (Or.inl ((sb_is (k := 32) hx (by omega)).mp e)))
      · rintro _ rfl
        exact yes (decide_eq_true (Or.inr ((sb_is (k := 10) hx (by omega)).mp e2)))
      · have hB : pBl (b p') = false := decide_eq_false (fun z => by
          rcases z with z | z
          · exact e ((sb_is (k := 32) hx (by omega)).mpr z)
          · exact e2 ((sb_is (k := 10) hx (by omega)).mpr z))
        refine h N' hF ?_
        rw [hq, q_wh_no hB]; exact h2'
  exact ⟨n - p + 1, key (n - p) p N (by omega) Fr0.rf h2 rfl⟩
/-- letters -/
theorem q_cd_lt {b : Nat → Nat} {s : Nat} : ∀ k, (∀ j, j < k → b (s + j) ≤ 122) → q_cd b s k < 64 ^ k := by
  intro k
  induction k with
  | zero => intro _; exact Nat.one_pos
  | succ k ih =>
    intro h
    have := ih (fun j hj => h j (by omega))
    have h1 := h k (by omega)
    show 64 * q_cd b s k + (b (s + k) - 64) < 64 ^ (k + 1)
    rw [Nat.pow_succ]
    omega
theorem n_letters {N : gx_M} {b : Nat → Nat} {n s : Nat} {Q : gx_M → Prop} {K : gx_M → Int64 → Int32 → Prop} (hb : r_by N b n) (h2 : N 0 13 = nI s) (hs : s ≤ n) (h : ∀ N' : gx_M, Fr0 N N' → N' 0 14 = N 0 14 → N' 0 13 = nI (q_wh pLe b (n - s) s) → K N' (lN (q_cd b s (min (q_wh pLe b (n - s) s - s) 8))) (nI (q_wh pLe b (n - s) s - s))) : ∃ k, T_X11_next_99 Q K k N 0 0 := by
  have h300 := hb.1
  obtain ⟨l1, l2, l3, l4⟩ := q_wh_bd pLe b (n - s) s
  have key : ∀ m p' (N' : gx_M), p' + m = n → s ≤ p' → p' ≤ q_wh pLe b (n - s) s → Fr0 N N' → N' 0 14 = N 0 14 → N' 0 13 = nI p' → q_wh pLe b (n - s) s = q_wh pLe b m p' → T_X11_next_99 Q K (m + 1) N' (lN (q_cd b s (min (p' - s) 8))) (nI (p' - s)) := by
    intro m
    induction m with
    | zero =>
      intro p' N' hm hsp hpe hF h4 h2' hq
      have hq : q_wh pLe b (n - s) s = p' := hq
      have hh := h N' hF h4 (by rw [hq]; exact h2')
      rw [hq] at hh
      unfold T_X11_next_99
      rw [(hb.kept hF).2.1, h2']
      exact qt (nI_le (by omega) (by omega)) hh
    | succ m ih =>
      intro p' N' hm hsp hpe hF h4 h2' hq
      obtain ⟨hv, hx⟩ := (hb.kept hF).2.2 p' (by omega)
      unfold T_X11_next_99 T_X11_next_156
      rw [(hb.kept hF).2.1, h2']
      refine qf (nI_ge (by omega) (by omega)) ⟨vp_in_nI (by omega) (by omega), ?_⟩
      rw [nI_clamp (by omega), hv]
      refine n_isLetter hx ?_
      cases hB : pLe (b p') with
      | true =>
        have hd := of_decide_eq_true hB
        rw [q_wh_yes hB] at hq
        obtain ⟨w1, -, -, -⟩ := q_wh_bd pLe b m (p' + 1)
        have go : ∀ u : Int64, u = lN (q_cd b s (min (p' + 1 - s) 8)) → T_X11_next_99 Q K (m + 1) (gx_up N' 0 13 (nI (p' + 1))) u (nI (p' + 1 - s)) := by
          rintro _ rfl
          exact ih (p' + 1) _ (by omega) (by omega) (by omega) (hF.up _ (by omega)) (by rw [gu_eq, ub_ne (by decide)]; exact h4) (by rw [gu_eq, ub_eq]) hq
        have e1 : nI (p' - s) + 1 = nI (p' + 1 - s) := by rw [nI_1, show p' - s + 1 = p' + 1 - s by omega]
        refine qf (by decide) (qc (fun big => ?_) (fun small => ⟨vp_in_nI (by omega) (by omega), ?_⟩))
        · have big : 8 ≤ p' - s := (nI_leI (a := 8) (by omega) (by omega)).mp big
          rintro _ rfl _ rfl
          rw [nI_1 p', e1]
          refine go _ ?_
          rw [show min (p' - s) 8 = 8 by omega, show min (p' + 1 - s) 8 = 8 by omega]
        · have small : ¬ 8 ≤ p' - s := fun z => small (nI_le (a := 8) z (by omega))
          rintro _ rfl _ rfl
          rw [nI_1 p', e1]
          refine go _ ?_
          rw [show min (p' - s) 8 = p' - s by omega, show min (p' + 1 - s) 8 = p' - s + 1 by omega, sb_lo _ (by omega), nI_l (by omega), show (64 : Int64) * lN (q_cd b s (p' - s)) = lN (64 * q_cd b s (p' - s)) from lN_mul 64 _, lN_add, show lN (64 * q_cd b s (p' - s) + b p') - 64 = lN (64 * q_cd b s (p' - s) + b p' - 64) from lN_sub (b := 64) (by omega)]
          show _ = lN (64 * q_cd b s (p' - s) + (b (s + (p' - s)) - 64))
          rw [show s + (p' - s) = p' by omega, show 64 * q_cd b s (p' - s) + b p' - 64 = 64 * q_cd b s (p' - s) + (b p' - 64) by omega]
      | false =>
        rw [q_wh_no hB] at hq
        have hh := h N' hF h4 (by rw [hq]; exact h2')
        rw [hq] at hh
        exact qt rfl hh
  have kk := key (n - s) s N (by omega) (Nat.le_refl _) l1 Fr0.rf rfl h2 rfl
  rw [Nat.sub_self] at kk
  exact ⟨n - s + 1, kk⟩
theorem n_wordOf {N : gx_M} {c : Nat} {Q : Int32 → Prop} (hc : c < 2 ^ 62) (h : Q (if q_first c 12 0 < 12 then nI (q_first c 12 0) else -1)) : T_X11_wordOf N (lN c) Q := by
  have all : ∀ i, i < 12 → (∀ k, k < i → ¬ c = q_cs_ k) → ∀ (x : Int64) (A : Prop), x = lN (q_cs_ i) → ((∀ k, k < i + 1 → ¬ c = q_cs_ k) → A) → (if lN c = x then Q (nI i) else A) := by
    rintro i hi hno _ A rfl hA
    have hcs : q_cs_ i < 2 ^ 63 := co_dec (N := 12) (P := fun i => q_cs_ i < 2 ^ 63) (by decide +kernel) hi
    refine qc (fun e => ?_) (fun e => hA (fun k hk => ?_))
    · have e : c = q_cs_ i := (pk_lEQ (by omega) hcs).mp e
      rw [q_first_at 12 0 i (Nat.zero_le _) (by omega) (fun k _ h2 => hno k h2) e, if_pos hi] at h
      exact h
    · by_cases z : k = i
      · subst z; exact fun y => e ((pk_lEQ (by omega) hcs).mpr y)
      · exact hno k (by omega)
  unfold T_X11_wordOf
  refine all 0 (by omega) (fun k hk => absurd hk (Nat.not_lt_zero _)) _ _ (by decide +kernel) (fun n0 => ?_)
  refine all 1 (by omega) n0 _ _ (by decide +kernel) (fun n1 => ?_)
  refine all 2 (by omega) n1 _ _ (by decide +kernel) (fun n2 => ?_)
  refine all 3 (by omega) n2 _ _ (by decide +kernel) (fun n3 => ?_)
  refine all 4 (by omega) n3 _ _ (by decide +kernel) (fun n4 => ?_)
  refine all 5 (by omega) n4 _ _ (by decide +kernel) (fun n5 => ?_)
  refine all 6 (by omega) n5 _ _ (by decide +kernel) (fun n6 => ?_)
  refine all 7 (by omega) n6 _ _ (by decide +kernel) (fun n7 => ?_)
  refine all 8 (by omega) n7 _ _ (by decide +kernel) (fun n8 => ?_)
  refine all 9 (by omega) n8 _ _ (by decide +kernel) (fun n9 => ?_)
  refine all 10 (by omega) n9 _ _ (by decide +kernel) (fun n10 => ?_)
  refine all 11 (by omega) n10 _ _ (by decide +kernel) (fun n11 => ?_)
  rw [q_first_no 12 0 (fun k _ h2 => n11 k (by omega)), if_neg (by omega)] at h
  exact h
theorem n_digits {N : gx_M} {b : Nat → Nat} {n s : Nat} {Q K : gx_M → Prop} (hb : r_by N b n) (h2 : N 0 13 = nI s) (h0 : N 0 16 = 0) (hs : s ≤ n) (h : ∀ N' : gx_M, Fr0 N N' → N' 0 14 = N 0 14 → N' 0 15 = N 0 15 → N' 0 13 = nI (q_wh pDi b (n - s) s) → N' 0 16 = nI (q_rn b (q_wh pDi b (n - s) s - s) s 0) → q_rn b (q_wh pDi b (n - s) s - s) s 0 < 1000000 → K N') : ∃ k, T_X11_next_232 Q K k N := by
  have h300 := hb.1
  have key : ∀ m p' r (N' : gx_M), p' + m = n → Fr0 N N' → N' 0 14 = N 0 14 → N' 0 15 = N 0 15 → N' 0 13 = nI p' → N' 0 16 = nI r → r < 1000000 → q_wh pDi b (n - s) s = q_wh pDi b m p' → q_rn b (q_wh pDi b (n - s) s - s) s 0 = q_rn b (q_wh pDi b m p' - p') p' r → T_X11_next_232 Q K (m + 1) N' := by
    intro m
    induction m with
    | zero =>
      intro p' r N' hm hF h4 h5 h2' h6 hr1 hq hr
      have e0 : q_wh pDi b 0 p' - p' = 0 := Nat.sub_self p'
      rw [e0] at hr
      have hr : q_rn b (q_wh pDi b (n - s) s - s) s 0 = r := hr
      unfold T_X11_next_232
      rw [(hb.kept hF).2.1, h2']
      refine qt (nI_le (by omega) (by omega)) (h N' hF h4 h5 (by rw [hq]; exact h2') (by rw [hr]; exact h6) (by rw [hr]; exact hr1))
    | succ m ih =>
      intro p' r N' hm hF h4 h5 h2' h6 hr1 hq hr
      obtain ⟨hv, hx⟩ := (hb.kept hF).2.2 p' (by omega)
      unfold T_X11_next_232 T_X11_next_299
      rw [(hb.kept hF).2.1, h2']
      refine qf (nI_ge (by omega) (by omega)) ⟨vp_in_nI (by omega) (by omega), ?_⟩
      rw [nI_clamp (by omega), hv, h6]
      refine gd_in (fun e => ?_) (fun e => ?_)
      · have hB : pDi (b p') = false := decide_eq_false (fun z => e ((sb_bt (lo := 48) (hi := 57) hx (by omega) (by omega)).mpr z))
        rw [q_wh_no hB, Nat.sub_self] at hr
        rw [q_wh_no hB] at hq
        have hr : q_rn b (q_wh pDi b (n - s) s - s) s 0 = r := hr
        exact h N' hF h4 h5 (by rw [hq]; exact h2') (by rw [hr]; exact h6) (by rw [hr]; exact hr1)
      · have hd : 48 ≤ b p' ∧ b p' ≤ 57 := (sb_bt (lo := 48) (hi := 57) hx (by omega) (by omega)).mp e
        have hB : pDi (b p') = true := decide_eq_true hd
        rw [q_wh_yes hB] at hq hr
        obtain ⟨w1, -, -, -⟩ := q_wh_bd pDi b m (p' + 1)
        rw [show q_wh pDi b m (p' + 1) - p' = q_wh pDi b m (p' + 1) - (p' + 1) + 1 by omega] at hr
        have go : ∀ v : Int32, v = nI (if 99999 < r then r else 10 * r + (b p' - 48)) → T_X11_next_232 Q K (m + 1) (gx_up (gx_up N' 0 16 v) 0 13 (gx_up N' 0 16 v 0 13 + 1)) := by
          rintro _ rfl
          rw [gu_eq, ub_ne (by decide), h2', nI_1]
          refine ih (p' + 1) (if 99999 < r then r else 10 * r + (b p' - 48)) _ (by omega) ((hF.up _ (by omega)).up _ (by omega)) (by rw [gu_eq, ub_ne (by decide), gu_eq, ub_ne (by decide)]; exact h4) (by rw [gu_eq, ub_ne (by decide), gu_eq, ub_ne (by decide)]; exact h5) (by rw [gu_eq, ub_eq]) (by rw [gu_eq, ub_ne (by decide), gu_eq, ub_eq]) ?_ hq hr
          by_cases c : 99999 < r
          · rw [if_pos c]; exact hr1
          · rw [if_neg c]; omega
        refine qc (fun c => ⟨vp_in_nI (by omega) (by omega), ?_⟩) (fun c => ?_)
        · have c : r ≤ 99999 := (nI_leI (b := 99999) (by omega) (by omega)).mp c
          rintro _ rfl _ rfl
          refine go _ ?_
          rw [if_neg (by omega), sb_lo _ (by omega), show (10 : Int32) * nI r = nI (10 * r) from pk_mul 10 r, nI_add, show nI (10 * r + b p') - 48 = nI (10 * r + b p' - 48) from pk_sub (b := 48) (by omega), show 10 * r + b p' - 48 = 10 * r + (b p' - 48) by omega]
        · have c : ¬ r ≤ 99999 := fun z => c (nI_le (b := 99999) z (by omega))
          rintro _ rfl _ rfl
          refine go _ ?_
          rw [if_pos (by omega)]
  exact ⟨n - s + 1, key (n - s) s 0 N (by omega) Fr0.rf rfl rfl h2 h0 (by omega) rfl rfl⟩
theorem tk_sign {x : Nat} {eq : Bool} (nu : Nat) (h : (59 ≤ x ∧ x ≤ 62) ∨ (40 ≤ x ∧ x ≤ 45) ∨ x = 47 ∨ x = 35) (he : eq = true → x = 60 ∨ x = 62) : q_tk (q_ssg x eq) nu 3 (if eq = true then (if x = 60 then 300 else 301) else q_sb x) := by
  have hx : x = 59 ∨ x = 60 ∨ x = 61 ∨ x = 62 ∨ x = 40 ∨ x = 41 ∨ x = 42 ∨ x = 43 ∨ x = 44 ∨ x = 45 ∨ x = 47 ∨ x = 35 := by omega
  rcases hx with rfl | rfl | rfl | rfl | rfl | rfl | rfl | rfl | rfl | rfl | rfl | rfl
  all_goals cases eq
  all_goals first
    | exact Or.inr (Or.inr (Or.inr (Or.inr ⟨rfl, by unfold q_tks; decide⟩)))
    | exact Or.inr (Or.inl ⟨by decide, Or.inr ⟨rfl, by decide⟩⟩)
    | exact absurd (he rfl) (by decide)
theorem tk_bad {x : Nat} {eq : Bool} (nu : Nat) (told : Int32) (h : ¬ ((59 ≤ x ∧ x ≤ 62) ∨ (40 ≤ x ∧ x ≤ 45) ∨ x = 47 ∨ x = 35)) : q_tk (q_ssg x eq) nu 4 told := by
  refine Or.inr (Or.inl ⟨?_, Or.inl rfl⟩)
  unfold q_ssg
  rw [if_neg (by omega), if_neg (by omega), if_neg (by omega), if_neg (by omega), if_neg (by omega), if_neg (by omega), if_neg (by omega), if_neg (by omega), if_neg (by omega), if_neg (by omega), if_neg (by omega)]
theorem n_370 {N : gx_M} {b : Nat → Nat} {n s : Nat} {t0 : Int32} {Q : gx_M → Prop} (hb : r_by N b n) (h2 : N 0 13 = nI (s + 1)) (h6 : N 0 16 = q_sb (b s)) (hs : s < n) (h : ∀ N' : gx_M, Fr0 N N' → N' 0 14 = N 0 14 → N' 0 13 = nI (if q_eqn b n s = true then s + 2 else s + 1) → N' 0 15 = t0 → N' 0 16 = (if q_eqn b n s = true then (if b s = 60 then 300 else 301) else q_sb (b s)) → Q N') : T_X11_next_370 Q N t0 (q_sb (b s)) := by
  have h300 := hb.1
  have hx := (hb.2.2 s hs).2
  unfold T_X11_next_370 T_X11_next_385 T_X11_next_426
  rintro _ rfl
  have f1 : Fr0 N (gx_up N 0 15 t0) := Fr0.rf.up _ (by omega)
  have b1 := hb.kept f1
  have e13 : gx_up N 0 15 t0 0 13 = nI (s + 1) := by rw [gu_eq, ub_ne (by decide)]; exact h2
  have e16 : gx_up N 0 15 t0 0 16 = q_sb (b s) := by rw [gu_eq, ub_ne (by decide)]; exact h6
  have e15 : gx_up N 0 15 t0 0 15 = t0 := by rw [gu_eq, ub_eq]
  have e14 : gx_up N 0 15 t0 0 14 = N 0 14 := by rw [gu_eq, ub_ne (by decide)]
  generalize gx_up N 0 15 t0 = N1 at f1 b1 e13 e16 e15 e14
  have plain : q_eqn b n s = false → Q N1 := by
    intro z
    exact h N1 f1 e14 (by rw [z, if_neg (by decide)]; exact e13) e15 (by rw [z, if_neg (by decide)]; exact e16)
  have two : (b s = 60 ∨ b s = 62) → (if nI n ≤ nI (s + 1) then Q N1 else vp_in (nI (s + 1)) 300 ∧ (if (N1 3 (nI (s + 1)).toNatClampNeg) = 61 then (if q_sb (b s) = 60 then (∀ M15, M15 = gx_up N1 0 16 300 → ∀ M16, M16 = gx_up M15 0 13 ((M15 0 13) + 1) → Q M16) else (∀ M15, M15 = gx_up N1 0 16 301 → ∀ M16, M16 = gx_up M15 0 13 ((M15 0 13) + 1) → Q M16)) else Q N1)) := by
    intro hc
    rcases Nat.lt_or_ge (s + 1) n with z | z
    · obtain ⟨hv, hx1⟩ := b1.2.2 (s + 1) z
      refine qf (nI_ge z (by omega)) ⟨vp_in_nI (by omega) (by omega), ?_⟩
      rw [nI_clamp (by omega), hv]
      refine qc (fun e => ?_) (fun e => plain (decide_eq_false (fun y => e ((sb_is (k := 61) hx1 (by omega)).mpr y.2.2))))
      have e : b (s + 1) = 61 := (sb_is (k := 61) hx1 (by omega)).mp e
      have hq : q_eqn b n s = true := decide_eq_true ⟨hc, z, e⟩
      have fin : ∀ v : Int32, v = (if b s = 60 then 300 else 301) → Q (gx_up (gx_up N1 0 16 v) 0 13 (gx_up N1 0 16 v 0 13 + 1)) := by
        rintro _ rfl
        refine h _ ((f1.up _ (by omega)).up _ (by omega)) (by rw [gu_eq, ub_ne (by decide), gu_eq, ub_ne (by decide)]; exact e14) ?_ (by rw [gu_eq, ub_ne (by decide), gu_eq, ub_ne (by decide)]; exact e15) (by rw [hq, if_pos rfl, gu_eq, ub_ne (by decide), gu_eq, ub_eq])
        rw [hq, if_pos rfl, gu_eq, ub_eq, gu_eq, ub_ne (by decide), e13, nI_1]
      refine qc (fun y => ?_) (fun y => ?_)
      · rintro _ rfl _ rfl
        exact fin _ (by rw [if_pos ((sb_is (k := 60) hx (by omega)).mp y)])
      · rintro _ rfl _ rfl
        exact fin _ (by rw [if_neg (fun w => y ((sb_is (k := 60) hx (by omega)).mpr w))])
    · exact qt (nI_le z (by omega)) (plain (decide_eq_false (by omega)))
  rw [b1.2.1, e13]
  refine qc (fun e => two (Or.inl ((sb_is (k := 60) hx (by omega)).mp e))) (fun e => qc (fun e2 => two (Or.inr ((sb_is (k := 62) hx (by omega)).mp e2))) (fun e2 => plain (decide_eq_false (fun y => ?_))))
  rcases y.1 with y | y
  · exact e ((sb_is (k := 60) hx (by omega)).mpr y)
  · exact e2 ((sb_is (k := 62) hx (by omega)).mpr y)
theorem q_first_le (c : Nat) : ∀ m i, q_first c m i ≤ i + m := by
  intro m
  induction m with
  | zero => intro i; exact Nat.le_refl _
  | succ m ih =>
    intro i
    have e : q_first c (m + 1) i = if c = q_cs_ i then i else q_first c m (i + 1) := rfl
    rw [e]
    by_cases z : c = q_cs_ i
    · rw [if_pos z]; omega
    · rw [if_neg z]; have := ih (i + 1); omega
/-- the reference comes to its next token -/
theorem n_tok {N : gx_M} {b : Nat → Nat} {n p : Nat} {Q : gx_M → Prop} (hb : r_by N b n) (h2 : N 0 13 = nI p) (hp : p ≤ n) (h : ∀ N' : gx_M, Fr0 N N' → N' 0 13 = nI (q_ne b n p) → N' 0 14 = nI (q_st0 b n p) → q_tk (q_sg b n p) (q_nu b n p) (N' 0 15) (N' 0 16) → Q N') : T_X11_next N Q := by
  have h300 := hb.1
  obtain ⟨bd1, bd2, -, -⟩ := q_ne_bd b hp
  unfold T_X11_next
  refine n_blanks hb h2 hp (fun N1 f1 e1 => ?_)
  unfold T_X11_next_52
  rintro _ rfl
  have f2 : Fr0 N (gx_up N1 0 14 (N1 0 13)) := f1.up _ (by omega)
  have b2 := hb.kept f2
  have g2 : gx_up N1 0 14 (N1 0 13) 0 13 = nI (q_st0 b n p) := by rw [gu_eq, ub_ne (by decide)]; exact e1
  have g3 : gx_up N1 0 14 (N1 0 13) 0 14 = nI (q_st0 b n p) := by rw [gu_eq, ub_eq]; exact e1
  generalize gx_up N1 0 14 (N1 0 13) = N2 at f2 b2 g2 g3
  rw [g2, b2.2.1]
  rcases Nat.eq_or_lt_of_le bd2 with c0 | c0
  · obtain ⟨t1, t2⟩ := tok_E c0
    refine qt (by rw [c0]) ?_
    rintro _ rfl
    exact h _ (f2.up _ (by omega)) (by rw [gu_eq, ub_ne (by decide), g2, t2, c0]) (by rw [gu_eq, ub_ne (by decide), g3]) (Or.inl ⟨t1, by rw [gu_eq, ub_eq]⟩)
  · have ne0 : ¬ q_st0 b n p = n := by omega
    obtain ⟨hv, hx⟩ := b2.2.2 _ c0
    refine qf (fun e => ne0 ((nI_eq (by omega) (by omega)).mp e)) ⟨vp_in_nI (by omega) (by omega), ?_⟩
    rintro _ rfl
    rw [nI_clamp (by omega), hv]
    refine n_isLetter hx ?_
    cases hL : pLe (b (q_st0 b n p)) with
    | true =>
      obtain ⟨t1, t2⟩ := tok_L ne0 hL
      refine qf (by decide) (n_letters b2 g2 bd2 (fun N3 f3 g34 g33 => ?_))
      obtain ⟨l1, l2, l3, l4⟩ := q_wh_bd pLe b (n - q_st0 b n p) (q_st0 b n p)
      unfold T_X11_next_173 T_X11_next_189 T_X11_next_205
      have hle : ∀ k, k < q_wh pLe b (n - q_st0 b n p) (q_st0 b n p) - q_st0 b n p → b (q_st0 b n p + k) ≤ 122 := fun k hk => by
        have := of_decide_eq_true (l3 (q_st0 b n p + k) (by omega) (by omega))
        omega
      have good : ∀ i, i < 12 → q_word b (q_st0 b n p) (q_wh pLe b (n - q_st0 b n p) (q_st0 b n p)) = i → ∀ M37, M37 = gx_up N3 0 16 (nI i) → (if 0 ≤ (M37 0 16) then (∀ M38, M38 = gx_up M37 0 15 1 → Q M38) else (∀ M38, M38 = gx_up M37 0 15 4 → Q M38)) := by
        rintro i hi hw _ rfl
        refine qt (by rw [gu_eq, ub_eq]; exact nI_pos' (by omega)) ?_
        rintro _ rfl
        refine h _ (((f2.tr f3).up _ (by omega)).up _ (by omega)) (by rw [gu_eq, ub_ne (by decide), gu_eq, ub_ne (by decide), g33, t2]) (by rw [gu_eq, ub_ne (by decide), gu_eq, ub_ne (by decide), g34, g3]) ?_
        exact Or.inr (Or.inr (Or.inr (Or.inl ⟨i, hi, by rw [t1, hw], by rw [gu_eq, ub_eq], by rw [gu_eq, ub_ne (by decide), gu_eq, ub_eq]⟩)))
      have bad : q_word b (q_st0 b n p) (q_wh pLe b (n - q_st0 b n p) (q_st0 b n p)) = 12 → ∀ M37, M37 = gx_up N3 0 16 (-1) → (if 0 ≤ (M37 0 16) then (∀ M38, M38 = gx_up M37 0 15 1 → Q M38) else (∀ M38, M38 = gx_up M37 0 15 4 → Q M38)) := by
        rintro hw _ rfl
        refine qf (by rw [gu_eq, ub_eq]; decide) ?_
        rintro _ rfl
        refine h _ (((f2.tr f3).up _ (by omega)).up _ (by omega)) (by rw [gu_eq, ub_ne (by decide), gu_eq, ub_ne (by decide), g33, t2]) (by rw [gu_eq, ub_ne (by decide), gu_eq, ub_ne (by decide), g34, g3]) ?_
        exact Or.inr (Or.inl ⟨by rw [t1, hw]; rfl, Or.inl (by rw [gu_eq, ub_eq])⟩)
      refine qc (fun c => ?_) (fun c => ?_)
      · have c : q_wh pLe b (n - q_st0 b n p) (q_st0 b n p) - q_st0 b n p ≤ 7 := (nI_leI (b := 7) (by omega) (by omega)).mp c
        rw [show min (q_wh pLe b (n - q_st0 b n p) (q_st0 b n p) - q_st0 b n p) 8 = q_wh pLe b (n - q_st0 b n p) (q_st0 b n p) - q_st0 b n p by omega]
        have hlt := q_cd_lt _ hle
        have h64 : 64 ^ (q_wh pLe b (n - q_st0 b n p) (q_st0 b n p) - q_st0 b n p) ≤ 64 ^ 7 := Nat.pow_le_pow_right (by omega) c
        have hw : q_word b (q_st0 b n p) (q_wh pLe b (n - q_st0 b n p) (q_st0 b n p)) = q_first (q_cd b (q_st0 b n p) (q_wh pLe b (n - q_st0 b n p) (q_st0 b n p) - q_st0 b n p)) 12 0 := if_pos c
        refine n_wordOf (by omega) ?_
        by_cases z : q_first (q_cd b (q_st0 b n p) (q_wh pLe b (n - q_st0 b n p) (q_st0 b n p) - q_st0 b n p)) 12 0 < 12
        · rw [if_pos z]; exact good _ z hw
        · rw [if_neg z]
          refine bad ?_
          rw [hw]
          have := q_first_le (q_cd b (q_st0 b n p) (q_wh pLe b (n - q_st0 b n p) (q_st0 b n p) - q_st0 b n p)) 12 0
          omega
      · have c : ¬ q_wh pLe b (n - q_st0 b n p) (q_st0 b n p) - q_st0 b n p ≤ 7 := fun z => c (nI_le (b := 7) z (by omega))
        exact bad (if_neg c)
    | false =>
      refine qt rfl (gd_in (fun e => ?_) (fun e => ?_))
      · have hD : pDi (b (q_st0 b n p)) = false := decide_eq_false (fun z => e ((sb_bt (lo := 48) (hi := 57) hx (by omega) (by omega)).mpr z))
        obtain ⟨t1, t2⟩ := tok_S ne0 hL hD
        rintro _ rfl _ rfl
        rw [nI_1]
        have f4 : Fr0 N (gx_up (gx_up N2 0 13 (nI (q_st0 b n p + 1))) 0 16 (q_sb (b (q_st0 b n p)))) := (f2.up _ (by omega)).up _ (by omega)
        have b4 := hb.kept f4
        have k13 : gx_up (gx_up N2 0 13 (nI (q_st0 b n p + 1))) 0 16 (q_sb (b (q_st0 b n p))) 0 13 = nI (q_st0 b n p + 1) := by rw [gu_eq, ub_ne (by decide), gu_eq, ub_eq]
        have k14 : gx_up (gx_up N2 0 13 (nI (q_st0 b n p + 1))) 0 16 (q_sb (b (q_st0 b n p))) 0 14 = nI (q_st0 b n p) := by rw [gu_eq, ub_ne (by decide), gu_eq, ub_ne (by decide), g3]
        have k16 : gx_up (gx_up N2 0 13 (nI (q_st0 b n p + 1))) 0 16 (q_sb (b (q_st0 b n p))) 0 16 = q_sb (b (q_st0 b n p)) := by rw [gu_eq, ub_eq]
        generalize gx_up (gx_up N2 0 13 (nI (q_st0 b n p + 1))) 0 16 (q_sb (b (q_st0 b n p))) = N4 at f4 b4 k13 k14 k16
        have heq : q_eqn b n (q_st0 b n p) = true → b (q_st0 b n p) = 60 ∨ b (q_st0 b n p) = 62 := fun z => (of_decide_eq_true z).1
        have yes : ((59 ≤ b (q_st0 b n p) ∧ b (q_st0 b n p) ≤ 62) ∨ (40 ≤ b (q_st0 b n p) ∧ b (q_st0 b n p) ≤ 45) ∨ b (q_st0 b n p) = 47 ∨ b (q_st0 b n p) = 35) → T_X11_next_365 Q N4 (q_sb (b (q_st0 b n p))) := by
          intro z
          unfold T_X11_next_365
          refine n_370 b4 k13 k16 c0 (fun N5 f5 m14 m13 m15 m16 => h N5 (f4.tr f5) (by rw [m13, t2]) (by rw [m14, k14]) ?_)
          rw [t1, m15, m16]
          exact tk_sign _ z heq
        have no : ¬ ((59 ≤ b (q_st0 b n p) ∧ b (q_st0 b n p) ≤ 62) ∨ (40 ≤ b (q_st0 b n p) ∧ b (q_st0 b n p) ≤ 45) ∨ b (q_st0 b n p) = 47 ∨ b (q_st0 b n p) = 35) → T_X11_next_370 Q N4 4 (q_sb (b (q_st0 b n p))) := by
          intro z
          refine n_370 b4 k13 k16 c0 (fun N5 f5 m14 m13 m15 m16 => h N5 (f4.tr f5) (by rw [m13, t2]) (by rw [m14, k14]) ?_)
          rw [t1, m15]
          exact tk_bad _ _ z
        refine gd_in (fun q1 => gd_in (fun q2 => qc (fun q3 => yes ?_) (fun q3 => qc (fun q4 => yes ?_) (fun q4 => no ?_))) (fun q2 => yes ?_)) (fun q1 => yes ?_)
        · exact Or.inr (Or.inr (Or.inl ((sb_is (k := 47) hx (by omega)).mp q3)))
        · exact Or.inr (Or.inr (Or.inr ((sb_is (k := 35) hx (by omega)).mp q4)))
        · rintro (z | z | z | z)
          · exact q1 ((sb_bt (lo := 59) (hi := 62) hx (by omega) (by omega)).mpr z)
          · exact q2 ((sb_bt (lo := 40) (hi := 45) hx (by omega) (by omega)).mpr z)
          · exact q3 ((sb_is (k := 47) hx (by omega)).mpr z)
          · exact q4 ((sb_is (k := 35) hx (by omega)).mpr z)
        · exact Or.inr (Or.inl ((sb_bt (lo := 40) (hi := 45) hx (by omega) (by omega)).mp q2))
        · exact Or.inl ((sb_bt (lo := 59) (hi := 62) hx (by omega) (by omega)).mp q1)
      · have hD : pDi (b (q_st0 b n p)) = true := decide_eq_true ((sb_bt (lo := 48) (hi := 57) hx (by omega) (by omega)).mp e)
        obtain ⟨t1, t2⟩ := tok_D ne0 hL hD
        rintro _ rfl _ rfl
        have f4 : Fr0 N (gx_up (gx_up N2 0 15 2) 0 16 0) := (f2.up _ (by omega)).up _ (by omega)
        refine n_digits (hb.kept f4) (by rw [gu_eq, ub_ne (by decide), gu_eq, ub_ne (by decide), g2]) (by rw [gu_eq, ub_eq]) bd2 (fun N5 f5 m14 m15 m13 m16 mb => h N5 (f4.tr f5) (by rw [m13, t2]) (by rw [m14, gu_eq, ub_ne (by decide), gu_eq, ub_ne (by decide), g3]) ?_)
        exact Or.inr (Or.inr (Or.inl ⟨t1, by rw [m15, gu_eq, ub_ne (by decide), gu_eq, ub_eq], m16, mb⟩))
