/-! is a spike caught: the class and the reference look through the sweeps -/
def q_has (a : Nat → Int32) (sig : Int32) (s t : Nat) : Bool := if a 5 = 3 then (decide (a 10 = sig) || decide (a 11 = sig)) else decide (a (10 + q_turn a s t) = sig)
def q_hon (a : Nat → Int32) (at_ t : Nat) : Bool := !decide (a (at_ + 3) ≤ q_ph (fun j => a (at_ + j)) (nI t))
def q_h1 (a : Nat → Int32) (sig : Int32) (at_ e s b c : Nat) : Bool := decide (b + c * (a 2).toNatClampNeg < e) && (q_has a sig s (b + c * (a 2).toNatClampNeg) && q_hon a at_ (b + c * (a 2).toNatClampNeg))
def q_hc (a : Nat → Int32) (sig : Int32) (at_ e s b : Nat) : Nat → Nat → Bool
  | 0, _ => false
  | m + 1, c => q_h1 a sig at_ e s b c || q_hc a sig at_ e s b m (c + 1)
def q_hs (a : Nat → Int32) (sig : Int32) (at_ e : Nat) : List Nat → Nat → Bool
  | [], _ => false
  | b :: L, s => q_hc a sig at_ e s b 20 0 || q_hs a sig at_ e L (s + 1)
def q_cat (a : Nat → Int32) (G : List (Bool × List Int32)) (sig : Int32) (at_ e : Nat) : Bool := q_hs a sig at_ e (q_SL a G e 0 0 0) 0
theorem s_isShown {M : gx_M} {a : Nat → Int32} {sig : Int32} {s t : Nat} {Q : Int32 → Prop} (hR : RS 0 a M) (hok : okA a) (h7 : M 1 7 = nI (s + 1)) (hs : s < 200) (ht : t < 2000) (h : Q (b2i (q_has a sig s t))) : T_X1_isShown M sig (nI t) Q := by
  have e6 : M 34 6 = a 5 := hR.1.1 3 (by omega)
  have s0 : M 58 0 = a 10 := (hR.2.2.1 0 (by omega)).1
  have s1 : M 59 0 = a 11 := (hR.2.2.1 1 (by omega)).1
  unfold T_X1_isShown T_X1_isShown_43
  unfold q_has at h
  rw [e6]
  refine qc (fun c => ?_) (fun c => ?_)
  · rw [if_pos c] at h
    rw [s0, s1]
    refine qc (fun d => ?_) (fun d => qc (fun d2 => ?_) (fun d2 => ?_))
    · rw [decide_eq_true d, Bool.true_or] at h; exact h
    · rw [decide_eq_false d, decide_eq_true d2] at h; exact h
    · rw [decide_eq_false d, decide_eq_false d2] at h; exact h
  · rw [if_neg c] at h
    have ql := q_turn_lt a s t
    refine s_turnAt hR hok h7 hs ht ⟨vp_in_nI ql (by omega), ?_⟩
    rw [nI_clamp (by omega)]
    have sT : M (58 + q_turn a s t) 0 = a (10 + q_turn a s t) := (hR.2.2.1 _ ql).1
    rw [sT]
    exact qc (fun d => by rw [decide_eq_true d] at h; exact h) (fun d => by rw [decide_eq_false d] at h; exact h)
theorem s_catches {M : gx_M} {a : Nat → Int32} {G : List (Bool × List Int32)} {sig n e : Nat} {Q : Int32 → gx_M → Prop} (hC : q_core a G M) (hsig : sig < 4) (hn : n < (a (24 + sig)).toNatClampNeg) (he : e ≤ 2000)
    (h : ∀ M' : gx_M, FrN M M' → q_core a G M' → Q (b2i (q_cat a G (nI sig) (30 + 30 * sig + 5 * n) e)) M') : T_X1_catches M (62 + 6 * sig + n) (nI sig) (nI e) Q := by
  have hok := hC.2.1
  obtain ⟨⟨p1, p50, ep⟩, p3, e3⟩ := okP hok
  obtain ⟨c6, ec⟩ := okN hok hsig
  have pt : ∀ M' : gx_M, RS 0 a M' → ∀ j, j < 5 → M' (62 + 6 * sig + n) j = a (30 + 30 * sig + 5 * n + j) := fun M' hr j hj => by
    have := (hr.2.2.2 sig hsig).2 n hn j hj
    simp only [Nat.mul_zero, Nat.zero_add] at this
    exact this
  have per : 1 ≤ a (30 + 30 * sig + 5 * n + 2) := ((hok.2.2.1 sig hsig).2 n hn).2.2.1.1
  unfold T_X1_catches T_X1_restart
  rintro _ rfl _ rfl _ rfl
  obtain ⟨u6, u7, u5⟩ := up6 M
  have cols : ∀ (s b : Nat) (K : gx_M → Int32 → Nat → Int32 → Int32 → Prop) (v4 : Int32), s < 200 → b ≤ 3000 → ∀ m c (M' : gx_M), c + m = 20 → q_core a G M' → M' 1 7 = nI (s + 1) → M' 1 8 = nI b → (q_hc a (nI sig) (30 + 30 * sig + 5 * n) e s b m c = true → Q 1 M') → (q_hc a (nI sig) (30 + 30 * sig + 5 * n) e s b m c = false → K M' (nI sig) (62 + 6 * sig + n) (nI e) v4) → T_X1_catches_24 Q K (m + 1) M' (nI sig) (62 + 6 * sig + n) (nI e) v4 (nI c) := by
    intro s b K v4 hs hb m
    induction m with
    | zero =>
      intro c M' hc hC' h7 h8 hin hout
      obtain rfl : c = 20 := by omega
      unfold T_X1_catches_24
      exact qt (show nI 20 ≤ nI 20 from nI_le (by omega) (by omega)) (hout rfl)
    | succ m ih =>
      intro c M' hc hC' h7 h8 hin hout
      have r3 : M' 34 3 = a 2 := hC'.1.1.1 0 (by omega)
      have hcp : c * (a 2).toNatClampNeg ≤ 19 * 50 := Nat.mul_le_mul (by omega) p50
      have et : M' 1 8 + nI c * M' 34 3 = nI (b + c * (a 2).toNatClampNeg) := by
        rw [h8, r3, show nI c * a 2 = nI (c * (a 2).toNatClampNeg) by rw [← pk_mul, ← ep], nI_add]
      have eq1 : q_hc a (nI sig) (30 + 30 * sig + 5 * n) e s b (m + 1) c = (q_h1 a (nI sig) (30 + 30 * sig + 5 * n) e s b c || q_hc a (nI sig) (30 + 30 * sig + 5 * n) e s b m (c + 1)) := rfl
      rw [eq1] at hin hout
      have next : q_h1 a (nI sig) (30 + 30 * sig + 5 * n) e s b c = false → T_X1_catches_75 Q (T_X1_catches_24 Q K (m + 1)) M' (nI sig) (62 + 6 * sig + n) (nI e) v4 (nI c) := by
        intro z
        rw [z, Bool.false_or] at hin hout
        unfold T_X1_catches_75
        rintro _ rfl
        rw [nI_1]
        exact ih (c + 1) M' (by omega) hC' h7 h8 hin hout
      unfold T_X1_catches_24
      refine qf (show ¬ nI 20 ≤ nI c from nI_ge (by omega) (by omega)) ?_
      rintro _ rfl
      rw [et]
      refine qc (fun q => next ?_) (fun q => ?_)
      · have q : e ≤ b + c * (a 2).toNatClampNeg := (nI_leI (by omega) (by omega)).mp q
        unfold q_h1
        rw [decide_eq_false (by omega), Bool.false_and]
      · have q : b + c * (a 2).toNatClampNeg < e := nI_lt1 q (by omega)
        have dlt : decide (b + c * (a 2).toNatClampNeg < e) = true := decide_eq_true q
        have P := pt M' hC'.1
        have eph : q_ph (M' (62 + 6 * sig + n)) (nI (b + c * (a 2).toNatClampNeg)) = q_ph (fun j => a (30 + 30 * sig + 5 * n + j)) (nI (b + c * (a 2).toNatClampNeg)) := by
          unfold q_ph
          rw [P 4 (by omega), P 2 (by omega)]
        refine s_isOn (by rw [P 2 (by omega)]; exact per) ?_
        rw [P 3 (by omega), eph]
        by_cases on : a (30 + 30 * sig + 5 * n + 3) ≤ q_ph (fun j => a (30 + 30 * sig + 5 * n + j)) (nI (b + c * (a 2).toNatClampNeg))
        · rw [if_pos on]
          refine qt rfl (next ?_)
          unfold q_h1 q_hon
          rw [decide_eq_true on, Bool.not_true, Bool.and_false, Bool.and_false]
        · rw [if_neg on]
          refine qf (by decide) (s_isShown hC'.1 hok h7 hs (by omega) ?_)
          cases hb2 : q_has a (nI sig) s (b + c * (a 2).toNatClampNeg) with
          | false =>
            refine qt rfl (next ?_)
            unfold q_h1
            rw [hb2, Bool.false_and, Bool.and_false]
          | true =>
            refine qf (by decide) (hin ?_)
            unfold q_h1 q_hon
            rw [hb2, dlt, decide_eq_false on]; rfl
  have key : ∀ m k ready (M' : gx_M), k + m = e → FrN M M' → q_core a G M' → M' 1 6 = nI ready → M' 1 7 = nI k → 20 * k ≤ ready → ready ≤ 20000 → q_cat a G (nI sig) (30 + 30 * sig + 5 * n) e = q_hs a (nI sig) (30 + 30 * sig + 5 * n) e (q_SL a G (e - ready) ready ready k) k → T_X1_catches_7 Q (fun M18 => Q 0 M18) (m + 1) M' (nI sig) (62 + 6 * sig + n) (nI e) (nI k) := by
    intro m
    induction m with
    | zero =>
      intro k ready M' hk hF hC' h6 h7 h20 hr hq
      unfold T_X1_catches_7
      refine qt (nI_le (by omega) (by omega)) ?_
      have := h M' hF hC'
      rw [hq, show e - ready = 0 by omega] at this
      exact this
    | succ m ih =>
      intro k ready M' hk hF hC' h6 h7 h20 hr hq
      unfold T_X1_catches_7
      refine qf (nI_ge (by omega) (by omega)) ?_
      refine s_next hC' h6 h7 he h20 hr (fun h0 M3 f3 C3 h73 => ?_) (fun b ready' M3 hl f3 C3 h8 h63 h73 h20' hr' hb hk100 => ?_)
      · refine qt rfl ?_
        have := h M3 (hF.tr f3) C3
        rw [hq, h0] at this
        exact this
      · have hq2 : q_cat a G (nI sig) (30 + 30 * sig + 5 * n) e = (q_hc a (nI sig) (30 + 30 * sig + 5 * n) e k b 20 0 || q_hs a (nI sig) (30 + 30 * sig + 5 * n) e (q_SL a G (e - ready') ready' ready' (k + 1)) (k + 1)) := by rw [hq, hl]; rfl
        refine qf (by decide) ⟨21, cols k b _ _ (by omega) hb 20 0 M3 (by omega) C3 h73 h8 (fun z => ?_) (fun z => ?_)⟩
        · have := h M3 (hF.tr f3) C3
          rw [hq2, z, Bool.true_or] at this
          exact this
        · rintro _ rfl
          rw [nI_1]
          rw [z, Bool.false_or] at hq2
          exact ih (k + 1) ready' M3 (by omega) (hF.tr f3) C3 h63 h73 h20' hr' hq2
  exact ⟨e + 1, key e 0 0 _ (by omega) (FrN.restart M) hC.restart u6 u7 (by omega) (by omega) rfl⟩
theorem n_catches {N : gx_M} {L : List Nat} {sig n e : Nat} {Q : Int32 → Prop} (hok : okA (N 1)) (hsig : sig < 4) (hn : n < (N 1 (24 + sig)).toNatClampNeg) (he : e ≤ 2000) (hl : L.length ≤ 100) (h35 : N 0 35 = nI L.length) (h20 : q_lst (N 20) L) (hL : ∀ b, b ∈ L → b ≤ 3000)
    (h : Q (b2i (q_hs (N 1) (nI sig) (30 + 30 * sig + 5 * n) e L 0))) : T_X11_catches N (nI sig) (nI (30 + 30 * sig + 5 * n)) (nI e) Q := by
  obtain ⟨⟨p1, p50, ep⟩, p3, e3⟩ := okP hok
  obtain ⟨c6, ec⟩ := okN hok hsig
  have c2 : (2 : Int32).toNatClampNeg = 2 := rfl
  have c5 : (5 : Int32).toNatClampNeg = 5 := rfl
  have c11 : (11 : Int32).toNatClampNeg = 11 := rfl
  have per : 1 ≤ N 1 (30 + 30 * sig + 5 * n + 2) := ((hok.2.2.1 sig hsig).2 n hn).2.2.1.1
  have cols : ∀ (s b : Nat) (K : Int32 → Int32 → Int32 → Int32 → Int32 → Prop), s < 100 → b ≤ 3000 → N 20 s = nI b → ∀ m c (acc : Bool), c + m = 20 → K (nI sig) (nI (30 + 30 * sig + 5 * n)) (nI e) (b2i (acc || q_hc (N 1) (nI sig) (30 + 30 * sig + 5 * n) e s b m c)) (nI s) → T_X11_catches_18 N Q K (m + 1) (nI sig) (nI (30 + 30 * sig + 5 * n)) (nI e) (b2i acc) (nI s) (nI c) := by
    intro s b K hs hb hsb m
    induction m with
    | zero =>
      intro c acc hc hK
      obtain rfl : c = 20 := by omega
      unfold T_X11_catches_18
      refine qt (show nI 20 ≤ nI 20 from nI_le (by omega) (by omega)) ?_
      have e0 : q_hc (N 1) (nI sig) (30 + 30 * sig + 5 * n) e s b 0 20 = false := rfl
      rw [e0, Bool.or_false] at hK
      exact hK
    | succ m ih =>
      intro c acc hc hK
      have hcp : c * (N 1 2).toNatClampNeg ≤ 19 * 50 := Nat.mul_le_mul (by omega) p50
      have et : nI b + nI c * N 1 2 = nI (b + c * (N 1 2).toNatClampNeg) := by
        rw [show nI c * N 1 2 = nI (c * (N 1 2).toNatClampNeg) by rw [← pk_mul, ← ep], nI_add]
      have eq1 : q_hc (N 1) (nI sig) (30 + 30 * sig + 5 * n) e s b (m + 1) c = (q_h1 (N 1) (nI sig) (30 + 30 * sig + 5 * n) e s b c || q_hc (N 1) (nI sig) (30 + 30 * sig + 5 * n) e s b m (c + 1)) := rfl
      rw [eq1, ← Bool.or_assoc] at hK
      -- the next column, what was found being told
      have next : ∀ x : Int32, x = b2i (acc || q_h1 (N 1) (nI sig) (30 + 30 * sig + 5 * n) e s b c) → T_X11_catches_137 N Q (T_X11_catches_18 N Q K (m + 1)) (nI sig) (nI (30 + 30 * sig + 5 * n)) (nI e) x (nI s) (nI c) := by
        rintro _ rfl
        unfold T_X11_catches_137
        rintro _ rfl
        rw [nI_1]
        exact ih (c + 1) _ (by omega) hK
      unfold T_X11_catches_18
      refine qf (show ¬ nI 20 ≤ nI c from nI_ge (by omega) (by omega)) ⟨vp_in_nI (by omega) (by omega), by unfold vp_in; decide, ?_⟩
      rintro _ rfl
      rw [nI_clamp (show s < 2 ^ 31 by omega), c2, hsb, et]
      refine qc (fun q => next _ ?_) (fun q => ?_)
      · have q : e ≤ b + c * (N 1 2).toNatClampNeg := (nI_leI (by omega) (by omega)).mp q
        unfold q_h1
        rw [decide_eq_false (by omega), Bool.false_and, Bool.or_false]
      · have q : b + c * (N 1 2).toNatClampNeg < e := nI_lt1 q (by omega)
        have dlt : decide (b + c * (N 1 2).toNatClampNeg < e) = true := decide_eq_true q
        have eh : q_h1 (N 1) (nI sig) (30 + 30 * sig + 5 * n) e s b c = (q_has (N 1) (nI sig) s (b + c * (N 1 2).toNatClampNeg) && q_hon (N 1) (30 + 30 * sig + 5 * n) (b + c * (N 1 2).toNatClampNeg)) := by
          unfold q_h1; rw [dlt, Bool.true_and]
        rw [eh] at next
        have ql := q_turn_lt (N 1) s (b + c * (N 1 2).toNatClampNeg)
        refine n_turnOf hok (by omega) (by omega) ?_
        have e10 : (10 : Int32) + nI (q_turn (N 1) s (b + c * (N 1 2).toNatClampNeg)) = nI (10 + q_turn (N 1) s (b + c * (N 1 2).toNatClampNeg)) := nI_add 10 _
        rw [e10]
        refine ⟨vp_in_nI (by omega) (by omega), ?_⟩
        rw [nI_clamp (by omega), c5, c11]
        -- the channel has the signal, or hasn't
        have yes : q_has (N 1) (nI sig) s (b + c * (N 1 2).toNatClampNeg) = true → T_X11_catches_95 N Q (T_X11_catches_18 N Q K (m + 1)) (nI sig) (nI (30 + 30 * sig + 5 * n)) (nI e) (b2i acc) (nI s) (nI c) (nI (b + c * (N 1 2).toNatClampNeg)) := by
          intro hy
          rw [hy, Bool.true_and] at next
          unfold T_X11_catches_95 T_X11_catches_100 T_X11_catches_130 T_X11_catches_134 T_X11_catches_135
          cases acc with
          | true => exact qf (by decide) (next _ rfl)
          | false =>
            refine qt rfl (qf (by decide) (n_phase (by omega) per ?_))
            have e33 : nI (30 + 30 * sig + 5 * n) + 3 = nI (30 + 30 * sig + 5 * n + 3) := nI_add _ 3
            rw [e33]
            refine ⟨vp_in_nI (by omega) (by omega), ?_⟩
            rw [nI_clamp (by omega)]
            refine qc (fun on => next _ ?_) (fun on => next _ ?_)
            · unfold q_hon
              rw [decide_eq_true on]; rfl
            · unfold q_hon
              rw [decide_eq_false on]; rfl
        have no : q_has (N 1) (nI sig) s (b + c * (N 1 2).toNatClampNeg) = false → T_X11_catches_99 N Q (T_X11_catches_18 N Q K (m + 1)) (nI sig) (nI (30 + 30 * sig + 5 * n)) (nI e) (b2i acc) (nI s) (nI c) (nI (b + c * (N 1 2).toNatClampNeg)) := by
          intro hy
          rw [hy, Bool.false_and, Bool.or_false] at next
          unfold T_X11_catches_99 T_X11_catches_100 T_X11_catches_130 T_X11_catches_134 T_X11_catches_135
          cases acc with
          | true => exact qf (by decide) (next _ rfl)
          | false => exact qt rfl (qt rfl (next _ rfl))
        unfold q_has at yes no
        refine qc (fun d => yes ?_) (fun d => ⟨by unfold vp_in; decide, qc (fun d5 => ⟨by unfold vp_in; decide, qc (fun d11 => yes ?_) (fun d11 => no ?_)⟩) (fun d5 => no ?_)⟩)
        · by_cases d5 : N 1 5 = 3
          · rw [if_pos d5]
            have et0 : q_turn (N 1) s (b + c * (N 1 2).toNatClampNeg) = 0 := by
              unfold q_turn; rw [d5, if_neg (by decide), if_neg (by decide)]
            rw [et0] at d
            rw [decide_eq_true d, Bool.true_or]
          · rw [if_neg d5]; exact decide_eq_true d
        · rw [if_pos d5, decide_eq_true d11, Bool.or_true]
        · have et0 : q_turn (N 1) s (b + c * (N 1 2).toNatClampNeg) = 0 := by
            unfold q_turn; rw [d5, if_neg (by decide), if_neg (by decide)]
          rw [et0] at d
          rw [if_pos d5, decide_eq_false d11, decide_eq_false d]; rfl
        · rw [if_neg d5]; exact decide_eq_false d
  have key : ∀ m s (acc : Bool), s + m = L.length → b2i (q_hs (N 1) (nI sig) (30 + 30 * sig + 5 * n) e L 0) = b2i (acc || q_hs (N 1) (nI sig) (30 + 30 * sig + 5 * n) e (L.drop s) s) → T_X11_catches_6 N Q (m + 1) (nI sig) (nI (30 + 30 * sig + 5 * n)) (nI e) (b2i acc) (nI s) := by
    intro m
    induction m with
    | zero =>
      intro s acc hs hq
      unfold T_X11_catches_6
      rw [h35]
      refine qt (nI_le (by omega) (by omega)) ⟨by cases acc <;> decide, ?_⟩
      rw [List.drop_eq_nil_of_le (by omega)] at hq
      have e0 : q_hs (N 1) (nI sig) (30 + 30 * sig + 5 * n) e [] s = false := rfl
      rw [e0, Bool.or_false] at hq
      rw [← hq]; exact h
    | succ m ih =>
      intro s acc hs hq
      have hlt : s < L.length := by omega
      unfold T_X11_catches_6
      rw [h35]
      refine qf (nI_ge hlt (by omega)) ⟨21, ?_⟩
      have hb := hL _ (List.getElem_mem hlt)
      have hsb : N 20 s = nI L[s] := by
        rw [h20 s hlt, List.getD_eq_getElem?_getD, List.getElem?_eq_getElem hlt]; rfl
      refine cols s L[s] _ (by omega) hb hsb 20 0 acc (by omega) ?_
      rintro _ rfl
      rw [nI_1]
      refine ih (s + 1) _ (by omega) ?_
      rw [hq, List.drop_eq_getElem_cons hlt, Bool.or_assoc]; rfl
  exact ⟨L.length + 1, key L.length 0 false (by omega) (by rw [List.drop_zero, Bool.false_or])⟩
