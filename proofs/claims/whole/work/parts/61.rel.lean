/-! THE RELATION of the class's memory M and the reference's N -/
def q_tape (M N : gx_M) : Prop := ∃ n : Nat, n ≤ 300 ∧ M 0 9 = nI n ∧ N 0 3 = nI n ∧ ∀ i, i < n → ∃ b : Nat, b < 256 ∧ M 6 i = nI b ∧ N 3 i = (nI b).toInt8.toInt32
def q_texts (M N : gx_M) : Prop := q_pc M 20 [] ∧ ∀ t, t < (N 1 0).toNatClampNeg → ∃ G, q_wf G ∧ q_pc M (16 + t) G ∧ q_rp N t G
def RR (M N : gx_M) : Prop := (RS 0 (N 1) M ∧ okA (N 1) ∧ q_cache (N 1) M) ∧ (RS 1 (N 2) M ∧ okA (N 2) ∧ N 2 0 ≤ N 1 0) ∧ (q_tape M N ∧ M 0 10 = N 0 4 ∧ M 0 11 = N 0 5) ∧ q_texts M N
theorem up2 {M : gx_M} {a : Nat → Int32} {o j i : Nat} {x : Int32} {q k r : Nat} (h : M q k = a r) (e : (q = o ∧ k = j) ↔ r = i) : gx_up M o j x q k = upd a i x r := by
  rw [gu_at]
  unfold upd
  by_cases c : r = i
  · rw [if_pos c, if_pos (e.mpr c)]
  · rw [if_neg c, if_neg (fun z => c (e.mp z))]; exact h
theorem up1 {P : Int32 → Prop} {a : Nat → Int32} {i r : Nat} {x : Int32} (h : P (a r)) (hx : r = i → P x) : P (upd a i x r) := by
  unfold upd
  by_cases c : r = i
  · rw [if_pos c]; exact hx c
  · rw [if_neg c]; exact h
/-- a bound that a number of the setup keeps -/
def okI (i : Nat) (x : Int32) : Prop :=
  (i = 2 → 1 ≤ x ∧ x ≤ 50) ∧ (i = 3 → 0 ≤ x ∧ x ≤ 999) ∧ (i = 4 → 0 ≤ x ∧ x ≤ 16) ∧ (i = 5 → 0 ≤ x ∧ x ≤ 3) ∧ (i = 6 → 1 ≤ x ∧ x ≤ 50) ∧
  (∀ c, c < 2 → i = 10 + c → 0 ≤ x ∧ x ≤ 3) ∧ (∀ c, c < 2 → i = 12 + c → 1 ≤ x ∧ x ≤ 999) ∧ (∀ c, c < 2 → i = 14 + c → -15 ≤ x ∧ x ≤ 15) ∧ (∀ c, c < 2 → i = 16 + c → 1 ≤ x ∧ x ≤ 20) ∧ (∀ c, c < 2 → i = 18 + c → 1 ≤ x ∧ x ≤ 20) ∧ (∀ c, c < 2 → i = 20 + c → 1 ≤ x ∧ x ≤ 16) ∧
  (∀ c, c < 20 → i = 150 + c → 0 ≤ x ∧ x ≤ 65535)
theorem okA_up {a : Nat → Int32} {i : Nat} {x : Int32} (h : okA a) (hi : (2 ≤ i ∧ i < 24) ∨ 150 ≤ i) (hx : okI i x) : okA (upd a i x) := by
  obtain ⟨⟨h0, h1, h2, h3, h4, h5, h6⟩, hc, hs, hp⟩ := h
  obtain ⟨x2, x3, x4, x5, x6, xs, xg, xq, xu, xd, xl, xp⟩ := hx
  have e0 : upd a i x 0 = a 0 := ub_ne (by omega)
  have e1 : upd a i x 1 = a 1 := ub_ne (by omega)
  refine ⟨⟨by rw [e0]; exact h0, by rw [e0, e1]; exact h1, up1 (P := fun z => 1 ≤ z ∧ z ≤ 50) h2 (fun e => x2 e.symm), up1 (P := fun z => 0 ≤ z ∧ z ≤ 999) h3 (fun e => x3 e.symm), up1 (P := fun z => 0 ≤ z ∧ z ≤ 16) h4 (fun e => x4 e.symm), up1 (P := fun z => 0 ≤ z ∧ z ≤ 3) h5 (fun e => x5 e.symm), up1 (P := fun z => 1 ≤ z ∧ z ≤ 50) h6 (fun e => x6 e.symm)⟩, fun c c2 => ?_, fun s s4 => ?_, fun c c2 => up1 (P := fun z => 0 ≤ z ∧ z ≤ 65535) (hp c c2) (fun e => xp c c2 e.symm)⟩
  · obtain ⟨a1, a2, a3, a4, a5, a6⟩ := hc c c2
    exact ⟨up1 (P := fun z => 0 ≤ z ∧ z ≤ 3) a1 (fun e => xs c c2 e.symm), up1 (P := fun z => 1 ≤ z ∧ z ≤ 999) a2 (fun e => xg c c2 e.symm), up1 (P := fun z => -15 ≤ z ∧ z ≤ 15) a3 (fun e => xq c c2 e.symm), up1 (P := fun z => 1 ≤ z ∧ z ≤ 20) a4 (fun e => xu c c2 e.symm), up1 (P := fun z => 1 ≤ z ∧ z ≤ 20) a5 (fun e => xd c c2 e.symm), up1 (P := fun z => 1 ≤ z ∧ z ≤ 16) a6 (fun e => xl c c2 e.symm)⟩
  · obtain ⟨a1, a2⟩ := hs s s4
    have es : upd a i x (24 + s) = a (24 + s) := ub_ne (by omega)
    rw [es]
    refine ⟨a1, fun k hk => ?_⟩
    have k6 := toNle 6 (by omega) a1.1 a1.2
    obtain ⟨b1, b2, b3, b4, b5⟩ := a2 k hk
    rw [ub_ne (show 30 + 30 * s + 5 * k ≠ i by omega), ub_ne (show 30 + 30 * s + 5 * k + 1 ≠ i by omega), ub_ne (show 30 + 30 * s + 5 * k + 2 ≠ i by omega), ub_ne (show 30 + 30 * s + 5 * k + 3 ≠ i by omega), ub_ne (show 30 + 30 * s + 5 * k + 4 ≠ i by omega)]
    exact ⟨b1, b2, b3, b4, b5⟩
/-- where a number of the setup lies in the class: cell and slot -/
def q_cs (i o j : Nat) : Prop := (∃ k, k < 5 ∧ i = 2 + k ∧ o = 34 ∧ j = 3 + k) ∨ (i = 0 ∧ o = 34 ∧ j = 8) ∨ (i = 1 ∧ o = 34 ∧ j = 9) ∨ (∃ c, c < 20 ∧ i = 150 + c ∧ o = 40 ∧ j = c) ∨
  (∃ c, c < 2 ∧ o = 58 + c ∧ ((i = 10 + c ∧ j = 0) ∨ (i = 16 + c ∧ j = 1) ∨ (i = 18 + c ∧ j = 2) ∨ (i = 20 + c ∧ j = 3) ∨ (i = 12 + c ∧ j = 4) ∨ (i = 14 + c ∧ j = 5)))
theorem RS_up {a : Nat → Int32} {M : gx_M} {i o j : Nat} {x : Int32} (h : RS 0 a M) (hok : okA a) (hi : q_cs i o j) : RS 0 (upd a i x) (gx_up M o j x) := by
  obtain ⟨⟨h1, h2, h3⟩, h4, h5, h6⟩ := h
  have H : ∀ (q k r : Nat), M q k = a r → ((q = o ∧ k = j) ↔ r = i) → gx_up M o j x q k = upd a i x r := fun q k r e f => up2 e f
  unfold q_cs at hi
  refine ⟨⟨fun k hk => H _ _ _ (h1 k hk) ?_, H _ _ _ h2 ?_, H _ _ _ h3 ?_⟩, fun c hc => H _ _ _ (h4 c hc) ?_, fun c hc => ?_, fun s hs => ?_⟩
  · rcases hi with ⟨k', h⟩ | h | h | ⟨c', h⟩ | ⟨c', h⟩ <;> omega
  · rcases hi with ⟨k', h⟩ | h | h | ⟨c', h⟩ | ⟨c', h⟩ <;> omega
  · rcases hi with ⟨k', h⟩ | h | h | ⟨c', h⟩ | ⟨c', h⟩ <;> omega
  · rcases hi with ⟨k', h⟩ | h | h | ⟨c', h⟩ | ⟨c', h⟩ <;> omega
  · obtain ⟨g0, g1, g2, g3, g4, g5⟩ := h5 c hc
    refine ⟨H _ _ _ g0 ?_, H _ _ _ g1 ?_, H _ _ _ g2 ?_, H _ _ _ g3 ?_, H _ _ _ g4 ?_, H _ _ _ g5 ?_⟩
    all_goals rcases hi with ⟨k', h⟩ | h | h | ⟨c', h⟩ | ⟨c', h⟩ <;> omega
  · obtain ⟨g1, g2⟩ := h6 s hs
    have k6 := (okN hok hs).1
    have es : upd a i x (24 + s) = a (24 + s) := ub_ne (by rcases hi with ⟨k', h⟩ | h | h | ⟨c', h⟩ | ⟨c', h⟩ <;> omega)
    refine ⟨H _ _ _ g1 (by rcases hi with ⟨k', h⟩ | h | h | ⟨c', h⟩ | ⟨c', h⟩ <;> omega), fun k hk j hj => ?_⟩
    rw [es] at hk
    exact H _ _ _ (g2 k hk j hj) (by rcases hi with ⟨k', h⟩ | h | h | ⟨c', h⟩ | ⟨c', h⟩ <;> omega)
/-- what the outs hang on -/
def q_sim (a a' : Nat → Int32) : Prop := ∀ r, (r = 10 ∨ r = 11 ∨ (16 ≤ r ∧ r < 150)) → a' r = a r
theorem q_W_cong {a a' : Nat → Int32} (h : q_sim a a') (hok : okA a) {c : Nat} (hc : c < 2) (t : Nat) : q_W a' c t = q_W a c t := by
  have hs := (okS hok hc).1
  have e0 : a' (10 + c) = a (10 + c) := h _ (by omega)
  have e1 : a' (16 + c) = a (16 + c) := h _ (by omega)
  have e2 : a' (18 + c) = a (18 + c) := h _ (by omega)
  have e3 : a' (20 + c) = a (20 + c) := h _ (by omega)
  have e4 : a' (24 + (a (10 + c)).toNatClampNeg) = a (24 + (a (10 + c)).toNatClampNeg) := h _ (by omega)
  unfold q_W
  rw [e0, e1, e2, e3]
  refine q_o_cong (fun t => ?_) t
  unfold q_R
  rw [e4]
  have h6 := (okN hok hs).1
  exact q_raw_cong (fun k hk j hj => h _ (by omega))
theorem q_O_cong {a a' : Nat → Int32} (h : q_sim a a') (hok : okA a) {c : Nat} (hc : c < 2) (t : Nat) : q_O a' c t = q_O a c t := q_W_cong h hok hc (t + 1)
theorem q_cacheL.cong {a a' : Nat → Int32} {lo : Nat} {M : gx_M} (hc : q_cacheL a lo M) (hok : okA a) (h : q_sim a a') : q_cacheL a' lo M := by
  obtain ⟨tr, h0, h1, h2, h3⟩ := hc
  exact ⟨tr, h0, h1, h2, fun c hc t ht => by rw [q_O_cong h hok hc]; exact h3 c hc t ht⟩
theorem q_cacheL.none {a : Nat → Int32} {M : gx_M} (h : M 1 5 = 0) : q_cacheL a 0 M := ⟨0, by omega, by omega, h, fun c _ t ht => absurd ht (by omega)⟩
theorem q_sim_up {a : Nat → Int32} {i : Nat} {x : Int32} (h : ¬ (i = 10 ∨ i = 11 ∨ (16 ≤ i ∧ i < 150))) : q_sim a (upd a i x) := fun r hr => ub_ne (by omega)
theorem q_texts.kept {M M' N N' : gx_M} (h : q_texts M N) (hok : okA (N 1)) (hM : ∀ q, 16 ≤ q → q < 34 → M' q = M q) (hN : ∀ o, 4 ≤ o → o ≤ 8 → N' o = N o) (h0 : (N' 1 0) = (N 1 0)) : q_texts M' N' := by
  refine ⟨h.1.kept (by unfold pk_Pr; omega) hM, fun t ht => ?_⟩
  rw [h0] at ht
  obtain ⟨G, g1, g2, g3, g4, g5, g6⟩ := h.2 t ht
  have ht4 : t < 4 := by have := toNle 4 (by omega) hok.1.1.1 hok.1.1.2; omega
  exact ⟨G, g1, g2.kept (by unfold pk_Pr; omega) hM, by rw [hN 4 (by omega) (by omega)]; exact g3, g4, g5, q_ref_cong g6 (fun k _ => by rw [hN 5 (by omega) (by omega)]) (fun k _ => by rw [hN 6 (by omega) (by omega)]) (fun k _ _ => by rw [hN 7 (by omega) (by omega), hN 8 (by omega) (by omega)]; exact ⟨rfl, rfl⟩)⟩
