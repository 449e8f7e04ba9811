/-! raw, outs: one value for both sides -/
theorem lit (n : Nat) : (@OfNat.ofNat Int32 n _) = nI n := rfl
theorem qi {α : Sort _} {c : Prop} {hd : Decidable c} {a b : α} {Q : α → Prop} (h : Q (@ite α c hd a b)) : @ite Prop c hd (Q a) (Q b) := by
  by_cases e : c
  · rw [if_pos e] at h ⊢; exact h
  · rw [if_neg e] at h ⊢; exact h
theorem qc {c : Prop} {hd : Decidable c} {A B : Prop} (f : c → A) (g : ¬ c → B) : @ite Prop c hd A B := by
  by_cases e : c
  · rw [if_pos e]; exact f e
  · rw [if_neg e]; exact g e
theorem qt {c : Prop} {hd : Decidable c} {A B : Prop} (e : c) (f : A) : @ite Prop c hd A B := by rw [if_pos e]; exact f
theorem qf {c : Prop} {hd : Decidable c} {A B : Prop} (e : ¬ c) (f : B) : @ite Prop c hd A B := by rw [if_neg e]; exact f
theorem gu_at (M : gx_M) (o j : Nat) (x : Int32) (q k : Nat) : gx_up M o j x q k = if q = o ∧ k = j then x else M q k := by
  unfold gx_up
  by_cases h : q = o
  · subst h; simp [upd]
  · simp [h]
theorem p1n0 {x : Int32} (h : 1 ≤ x) : ¬ x = 0 := fun e => by rw [e] at h; exact absurd h (by decide)
def q_rest (x y : Int32) : Int32 := if 0 ≤ x - x / y * y then x - x / y * y else x - x / y * y + y
def q_ph (b : Nat → Int32) (t : Int32) : Int32 := q_rest (t - b 4) (b 2)
def q_pt (kind h p w f t : Int32) : Int32 :=
  if kind = 0 then (if t < f then 0 else h) else if kind = 1 then (if w ≤ q_rest (t - f) p then 0 else h) else h * q_rest (t - f) p / p
theorem qp0 {k h p w f t : Int32} (c : k = 0) : q_pt k h p w f t = if t < f then 0 else h := if_pos c
theorem qp1 {k h p w f t : Int32} (c : ¬ k = 0) (c1 : k = 1) : q_pt k h p w f t = if w ≤ q_rest (t - f) p then 0 else h := (if_neg c).trans (if_pos c1)
theorem qp2 {k h p w f t : Int32} (c : ¬ k = 0) (c1 : ¬ k = 1) : q_pt k h p w f t = h * q_rest (t - f) p / p := (if_neg c).trans (if_neg c1)
def q_part (b : Nat → Int32) (t : Int32) : Int32 := q_pt (b 0) (b 1) (b 2) (b 3) (b 4) t
def q_raw (P : Nat → Nat → Int32) (t : Int32) : Nat → Int32
  | 0 => 0
  | k + 1 => q_raw P t k + q_part (P k) t
theorem q_raw_cong {P P' : Nat → Nat → Int32} {t : Int32} {n : Nat} (h : ∀ k, k < n → ∀ j, j < 5 → P k j = P' k j) : q_raw P t n = q_raw P' t n := by
  induction n with
  | zero => rfl
  | succ n ih =>
    have e : q_part (P n) t = q_part (P' n) t := by
      unfold q_part
      rw [h n (by omega) 0 (by omega), h n (by omega) 1 (by omega), h n (by omega) 2 (by omega), h n (by omega) 3 (by omega), h n (by omega) 4 (by omega)]
    simp only [q_raw, e, ih (fun k hk => h k (by omega))]
theorem s_phase {M : gx_M} {o : Nat} {t : Int32} {Q : Int32 → Prop} (hp : 1 ≤ M o 2) (h : Q (q_ph (M o) t)) : T_X3_phase M o t Q := by
  unfold T_X3_phase
  refine qt hp ⟨p1n0 hp, ?_⟩
  rintro x rfl
  exact qi h
theorem s_partAt {M : gx_M} {o : Nat} {t : Int32} {Q : Int32 → Prop} (hp : 1 ≤ M o 2) (h : Q (q_part (M o) t)) : T_X3_heightAt M o t Q := by
  unfold T_X3_heightAt
  unfold q_part q_pt at h
  refine qc (fun c => ?_) (fun c => ?_)
  · rw [if_pos c] at h; exact qi h
  · rw [if_neg c] at h
    refine qc (fun c1 => ?_) (fun c1 => ?_)
    · rw [if_pos c1] at h; exact s_phase hp (qi h)
    · rw [if_neg c1] at h
      exact qt hp (s_phase hp ⟨p1n0 hp, h⟩)
theorem s_isOn {M : gx_M} {o : Nat} {t : Int32} {Q : Int32 → Prop} (hp : 1 ≤ M o 2) (h : Q (if M o 3 ≤ q_ph (M o) t then 0 else 1)) : T_X3_isOn M o t Q := by
  unfold T_X3_isOn
  exact s_phase hp (qi h)
theorem s_raw {M : gx_M} {s n : Nat} {t : Int32} {Q : Int32 → Prop} (hn : M (42 + s) 1 = nI n) (h6 : n ≤ 6) (hp : ∀ k, k < n → 1 ≤ M (62 + 6 * s + k) 2) (h : Q (q_raw (fun k => M (62 + 6 * s + k)) t n)) : T_X9_heightAt M (42 + s) t Q := by
  have key : ∀ m k, k + m = n → T_X9_heightAt_4 M Q (fun v2_7 => Q v2_7) (m + 1) (42 + s) t (q_raw (fun k => M (62 + 6 * s + k)) t k) (nI k) := by
    intro m
    induction m with
    | zero =>
      intro k hk
      obtain rfl : k = n := by omega
      unfold T_X9_heightAt_4
      exact qt (by rw [hn]; exact nI_le (Nat.le_refl _) (by omega)) h
    | succ m ih =>
      intro k hk
      unfold T_X9_heightAt_4
      refine qf (by rw [hn]; exact nI_ge (by omega) (by omega)) (qf (show ¬ nI 6 ≤ nI k from nI_ge (by omega) (by omega)) ⟨vp_in_nI (by omega) (by omega), ?_⟩)
      have e : (nI k).toNatClampNeg + 6 * (42 + s) - 190 = 62 + 6 * s + k := by rw [nI_clamp (by omega)]; omega
      rw [e]
      refine s_partAt (hp k (by omega)) ?_
      rintro _ rfl _ rfl
      rw [lit, nI_add]
      exact ih (k + 1) (by omega)
  exact ⟨n + 1, key n 0 (by omega)⟩
theorem n_rest {N : gx_M} {x y : Int32} {Q : Int32 → Prop} (hp : ¬ y = 0) (h : Q (q_rest x y)) : T_X11_rest N x y Q := by
  unfold T_X11_rest
  refine ⟨hp, ?_⟩
  rintro _ rfl
  exact qi h
theorem n_phase {N : gx_M} {at_ : Nat} {t : Int32} {Q : Int32 → Prop} (hb : at_ < 160) (hp : 1 ≤ N 1 (at_ + 2)) (h : Q (q_ph (fun j => N 1 (at_ + j)) t)) : T_X11_phase N (nI at_) t Q := by
  unfold T_X11_phase
  simp (disch := omega) only [lit, nI_add, nI_clamp, vp_in_nI, true_and]
  exact n_rest (p1n0 hp) h
theorem n_partAt {N : gx_M} {at_ : Nat} {t : Int32} {Q : Int32 → Prop} (hb : at_ < 160) (hp : 1 ≤ N 1 (at_ + 2)) (h : Q (q_part (fun j => N 1 (at_ + j)) t)) : T_X11_partAt N (nI at_) t Q := by
  unfold T_X11_partAt
  replace h : Q (q_pt (N 1 (at_ + 0)) (N 1 (at_ + 1)) (N 1 (at_ + 2)) (N 1 (at_ + 3)) (N 1 (at_ + 4)) t) := h
  simp (disch := omega) only [lit, nI_add, nI_clamp, vp_in_nI, true_and]
  rintro _ rfl
  refine qc (fun c => ?_) (fun c => ?_)
  · rw [qp0 c] at h; exact qi h
  · refine qc (fun c1 => ?_) (fun c1 => ?_)
    · rw [qp1 c c1] at h; exact n_phase hb hp (qi h)
    · rw [qp2 c c1] at h
      exact n_phase hb hp ⟨p1n0 hp, h⟩
theorem n_raw {N : gx_M} {s n : Nat} {t : Int32} {Q : Int32 → Prop} (hs : s < 4) (hn : N 1 (24 + s) = nI n) (h6 : n ≤ 6) (hp : ∀ k, k < n → 1 ≤ N 1 (30 + 30 * s + 5 * k + 2)) (h : Q (q_raw (fun k j => N 1 (30 + 30 * s + 5 * k + j)) t n)) : T_X11_rawAt N (nI s) t Q := by
  have key : ∀ m k, k + m = n → T_X11_rawAt_5 N Q (m + 1) (nI s) t (q_raw (fun k j => N 1 (30 + 30 * s + 5 * k + j)) t k) (nI k) := by
    intro m
    induction m with
    | zero =>
      intro k hk
      obtain rfl : k = n := by omega
      unfold T_X11_rawAt_5
      simp (disch := omega) only [lit, nI_add, nI_clamp, vp_in_nI, true_and, hn]
      exact qt (nI_le (Nat.le_refl _) (by omega)) h
    | succ m ih =>
      intro k hk
      unfold T_X11_rawAt_5
      simp (disch := omega) only [lit, nI_add, nI_clamp, vp_in_nI, true_and, hn, pk_mul]
      refine qf (nI_ge (by omega) (by omega)) ?_
      refine n_partAt (by omega) (hp k (by omega)) ?_
      rintro _ rfl _ rfl
      exact ih (k + 1) (by omega)
  exact ⟨n + 1, key n 0 (by omega)⟩
