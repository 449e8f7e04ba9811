/-! THE LAW FROM ITS ENTRY -/
theorem RR_start {N1 : gx_M} (h2 : ∀ o, o ≠ 2 → N1 o = sN o) (h3 : ∀ r, r < 170 → N1 2 r = sN 1 r) : RR sM0 N1 := by
  have e1 : N1 1 = sN 1 := h2 1 (by decide)
  have e0 : N1 0 = sN 0 := h2 0 (by decide)
  have z1 : ∀ s, s < 4 → (0 ≤ sN 1 (24 + s) ∧ sN 1 (24 + s) ≤ 6) := by decide +kernel
  have z2 : ∀ s, s < 4 → (sN 1 (24 + s)).toNatClampNeg = 0 := by decide +kernel
  have hok : okA (sN 1) := ⟨by decide +kernel, by decide +kernel, fun s hs => ⟨z1 s hs, fun k hk => by rw [z2 s hs] at hk; exact absurd hk (Nat.not_lt_zero k)⟩, by decide +kernel⟩
  have r0 : RS 0 (sN 1) sM0 := ⟨by decide +kernel, by decide +kernel, by decide +kernel, fun s hs => ⟨(by decide +kernel : ∀ s, s < 4 → sM0 (42 + 4 * 0 + s) 1 = sN 1 (24 + s)) s hs, fun k hk => by rw [z2 s hs] at hk; exact absurd hk (Nat.not_lt_zero k)⟩⟩
  have r1 : RS 1 (sN 1) sM0 := ⟨by decide +kernel, by decide +kernel, by decide +kernel, fun s hs => ⟨(by decide +kernel : ∀ s, s < 4 → sM0 (42 + 4 * 1 + s) 1 = sN 1 (24 + s)) s hs, fun k hk => by rw [z2 s hs] at hk; exact absurd hk (Nat.not_lt_zero k)⟩⟩
  refine ⟨⟨by rw [e1]; exact r0, by rw [e1]; exact hok, by rw [e1]; exact q_cacheL.none (by decide +kernel)⟩, ⟨r1.cong hok h3, hok.cong h3, by rw [e1, h3 0 (by omega)]; exact Int32.le_refl _⟩, ⟨⟨0, by omega, by decide +kernel, by rw [e0]; decide +kernel, fun i hi => absurd hi (by omega)⟩, by rw [e0]; decide +kernel, by rw [e0]; decide +kernel⟩, ?_, fun t ht => ?_⟩
  · exact ⟨by decide +kernel, by decide +kernel, trivial, trivial, Nat.zero_le _, Nat.zero_le _, Nat.zero_le _⟩
  · rw [e1, show (sN 1 0).toNatClampNeg = 0 by decide +kernel] at ht
    exact absurd ht (by omega)
theorem sL_l {X S : va_W} {k : Nat} {x : Nat × va_E} (h : X[k]? = some x) : (X ++ S)[k]? = some x := by
  rw [List.getElem?_append_left (List.getElem?_eq_some_iff.mp h).1]
  exact h
theorem sL_r {X S : va_W} {k : Nat} {x : Nat × va_E} (h : S[k]? = some x) : (X ++ S)[X.length + k]? = some x := by
  rw [List.getElem?_append_right (Nat.le_add_right _ _), Nat.add_sub_cancel_left]
  exact h
theorem sL_dx {A : Nat → Prop} {X S : va_W} (h : va_D A (X ++ S)) {i j : Nat} {p q : Nat × va_E} (hp : X[i]? = some p) (hq : S[j]? = some q) : p.1 ≠ q.1 := fun e => by
  have h1 := h.1 i (X.length + j) p q (sL_l hp) (sL_r hq) e
  have h2 := (List.getElem?_eq_some_iff.mp hp).1
  omega
theorem sL_dl {A : Nat → Prop} {X S : va_W} (h : va_D A (X ++ S)) : va_D A X := ⟨fun i j p q hp hq e => h.1 i j p q (sL_l hp) (sL_l hq) e, fun k q hk => h.2 k q (sL_l hk)⟩
theorem sL_dr {A : Nat → Prop} {X S : va_W} (h : va_D A (X ++ S)) : va_D A S := ⟨fun i j p q hp hq e => by
  have := h.1 _ _ p q (sL_r (X := X) hp) (sL_r (X := X) hq) e
  omega, fun k q hk => h.2 _ q (sL_r (X := X) hk)⟩
theorem sR_blind {w : gx_V} {ca : Nat → ClassId} {d : gx_D} {h0 sz : Nat} {e0 : va_E} : FrameBlind (va_Pc [.ref h0] (fun U => U.heap.size = sz ∧ va_P w.1 vwCl [(h0, e0)] U.heap ∧ gx_I ca w U ∧ gx_F d (fun q => q = h0 ∨ sz ≤ q) U U.heap)) := fun a U g mk q => by
  obtain ⟨q1, q2, q3, q4, q5⟩ := q
  exact ⟨q1, q2, q3, gx_I.same (u := U) (U := U.calling g mk a) rfl q4, gx_F.same (u := U) (U := U.calling g mk a) rfl q5⟩
set_option maxHeartbeats 4000000 in
set_option maxRecDepth 20000 in
/-- from the entry to the end -/
theorem whole_start {p : Program} {e : Env} {s : State} {m : MethodId} {below : List Frame} {meth : Method} {c : Code} (l : Launch) (hflags : l.flags = flags0) {b L : Nat} {xs : Nat → Int32} (hL : L ≤ 3584) (C0 : lw_At p s m meth c b L xs) : W p l e room_1 s m #[Value.ref b] below meth c s.heap [] 0 0 (lw_Z below #[Value.ref b] s) (entryFrame m ([Value.ref b] : List Value).toArray 4) := by
  obtain ⟨hx, hb, hr, hml, hown, hts, hX, hbl, hlocks, hgv⟩ := id C0
  have hU : ∀ w ∈ gx_U, w.before #[Value.ref b] s = true := fun w hw => hts w (List.mem_filter.mp hw).1
  have hCF : CallFix p m c code 4 s #[Value.ref b] gx_U R_law := ⟨hx, hb, hml, hown, hU⟩
  obtain ⟨D, ca, hK⟩ := sT_K hts
  obtain ⟨d, hF⟩ := sT_F (A := fun q : Nat => s.heap.size ≤ q) hts hgv (fun a ha => Nat.not_le.mpr ha)
  have hI : gx_I ca (wR D ca (fun _ => 0)) s := sT_I (w := wR D ca (fun _ => 0)) hts hK
  have hS : va_S (fun q : Nat => s.heap.size ≤ q) s.heap s.heap [] := va_S.rf
  have hP : va_P D vwCl [] s.heap := fun k q h => by simp at h
  have hD : va_D (fun q : Nat => s.heap.size ≤ q) [] := ⟨fun i j p q h => by simp at h, fun k q h => by simp at h⟩
  have hl := lv_entry ([.ref b]) (n := 4) (Nat.le_of_ble_eq_true rfl)
  rw [lg_entry_eq]
  generalize (lg_sl ([.ref b]) ++ List.replicate (4 - (lg_sl ([.ref b])).length) Slot.unset).toArray = ls at hl ⊢
  have hl : lv_has ls 4 [(0, .ref b)] := hl
  refine va_new (cl := vwCl) (ci := 10) (fs := [.null, .null, .null, .null, .null, .null, .null, .null, .null, .int 0, .int 0, .int 0]) (C := RX10) (T := TX10) (N := 12) hx hb hU cl_X10.2.1 tyX10 cl_X10.2.2.1 hown (hU _ kl_L_7) (hU _ ki_X10) (hU _ kn_X10) hK hP hD hS (fun q h => h) cl_X10.1 kd_X10 (Nat.le_of_ble_eq_true rfl) (Nat.le_of_ble_eq_true rfl) dL_law_0 (fun q0 H1 hP hD hS => ?_)
  refine lv_dup hx hb dL_law_3 rfl ?_
  have hq0 : s.heap.size ≤ q0 := cw_q (wr := []) hD
  have hf0 : ∀ q : Nat, (q = q0 ∨ H1.size ≤ q) → s.heap.size ≤ q := fun q h => h.elim (fun e => by rw [e]; exact hq0) (fun h => Nat.le_trans hS.1 h)
  refine va_callv (S := Nat → Nat) (post := fun ad => ad 0 = q0) (B := fun ad t => va_P D vwCl (PW_X10 ca ad) t.heap ∧ va_D (fun q => q = q0 ∨ H1.size ≤ q) (PW_X10 ca ad))
    (va_runI (own := R_law) (bytes := cX10_init) (maxL := 1) (As := []) (rest := [.ref q0]) hCF (ct_X10_init (l := l) (ca := ca) (w := wR D ca (fun _ => 0)) q0 H1.size) (cwI 0 hU (gx_gc kx_L_9.1.2.2.2) rfl rfl rfl (hU _ kx_L_9.1.2.2.1) (hU _ kx_L_9.1.1) (hU _ kx_L_9.1.2.1) kx_L_9.2.1 kx_L_9.2.2 ⟨Nat.le_of_ble_eq_true rfl, Nat.le_of_ble_eq_true rfl⟩) ⟨ci_blind, fun U hU' hW => ⟨rfl, by rw [hU'], by rw [hU']; exact hP, hI.warm hW⟩⟩ rfl rfl hl.1 rfl (lv_room (Nat.le_of_ble_eq_true rfl)) dL_law_4 ⟨Nat.le_of_ble_eq_true rfl, Nat.le_of_ble_eq_true rfl⟩) hS (fun q _ h => hf0 q h) hf0 (fun ad t H2 locs ht _ had hB _ _ hS => ?_)
  rw [ht] at hB
  have had : ad 0 = q0 := had
  subst had
  have hP := hB.1
  have hD : va_D (fun q : Nat => s.heap.size ≤ q) (PW_X10 ca ad) := hB.2.weaken (fun k q _ h => hf0 q.1 h)
  refine lv_astore_n (lv' := [(1, .ref (ad 0)), (0, .ref b)]) hx hb dL_law_7 rfl hl (by decide) rfl (fun ls hl => ?_)
  refine va_new (cl := vwCl) (ci := 11) (fs := [.null, .null, .null, .int 0, .int 0, .int 0, .null, .null, .null, .null, .null, .null, .int 0, .int 0, .int 0, .int 0, .int 0, .int 0, .int 0, .int 0, .int 0, .null, .null, .int 0, .null, .null, .int 0, .int 0, .null, .null, .int 0, .null, .null, .null, .null, .int 0, .null, .null, .null, .int 0, .int 0, .null]) (C := RX11) (T := TX11) (N := 42) hx hb hU cl_X11.2.1 tyX11 cl_X11.2.2.1 hown (hU _ kl_L_10) (hU _ ki_X11) (hU _ kn_X11) hK hP hD hS (fun q h => h) cl_X11.1 kd_X11 (Nat.le_of_ble_eq_true rfl) (Nat.le_of_ble_eq_true rfl) dL_law_8 (fun q1 H3 hP hD hS => ?_)
  refine lv_dup hx hb dL_law_11 rfl ?_
  have hq1 : s.heap.size ≤ q1 := cw_q hD
  have hf1 : ∀ q : Nat, (q = q1 ∨ H3.size ≤ q) → s.heap.size ≤ q := fun q h => h.elim (fun e => by rw [e]; exact hq1) (fun h => Nat.le_trans hS.1 h)
  refine va_callv (S := (Nat → Nat) × gx_M) (post := fun u => u.1 0 = q1 ∧ (∀ o, o ≠ 2 → u.2 o = sN o) ∧ ∀ r, r < 170 → u.2 2 r = sN 1 r) (B := fun u t => va_P D vwCl (gx_w (wR D ca u.1) u.2) t.heap ∧ va_D (fun q => q = q1 ∨ H3.size ≤ q) (gx_w (wR D ca u.1) u.2))
    (va_runI (own := R_law) (bytes := cX11_init) (maxL := 2) (As := []) (rest := [.ref q1]) hCF (ct_X11_init (l := l) (ca := ca) (w := wR D ca (fun _ => 0)) (d := d) q1 H3.size) (cwI 0 hU (gx_gc kx_L_12.1.2.2.2) rfl rfl rfl (hU _ kx_L_12.1.2.2.1) (hU _ kx_L_12.1.1) (hU _ kx_L_12.1.2.1) kx_L_12.2.1 kx_L_12.2.2 ⟨Nat.le_of_ble_eq_true rfl, Nat.le_of_ble_eq_true rfl⟩) ⟨sR_blind, fun U hU' hW => ⟨rfl, by rw [hU'], by rw [hU']; exact cw_last hP, hI.warm hW, by rw [hU']; exact ((hF.warm hW).kept (fun a h1 h2 => hS.2.1 a h1 h2)).narrow hf1⟩⟩ rfl rfl hl.1 rfl (lv_room (Nat.le_of_ble_eq_true rfl)) dL_law_12 ⟨Nat.le_of_ble_eq_true rfl, Nat.le_of_ble_eq_true rfl⟩) hS (fun q _ h => hf1 q h) hf1 (fun u t H4 locs ht _ hw hB _ hk hS => ?_)
  rw [ht] at hB
  obtain ⟨a2, N1⟩ := u
  obtain ⟨ha2, hn2, hn3⟩ := hw
  have ha2 : a2 0 = q1 := ha2
  obtain ⟨hPj, hDj⟩ := cx_join hP hD hk hf1 hB.1 hB.2
  clear hB
  subst ha2
  refine lv_astore_n (lv' := [(2, .ref (a2 0)), (1, .ref (ad 0)), (0, .ref b)]) hx hb dL_law_15 rfl hl (by decide) rfl (fun ls hl => ?_)
  refine lv_iconst (v := nI (7 * 0)) hx hb dL_law_16 (by decide) ?_
  refine lv_istore_n (lv' := [(3, .int (nI (7 * 0))), (2, .ref (a2 0)), (1, .ref (ad 0)), (0, .ref b)]) hx hb dL_law_17 rfl hl (by decide) rfl (fun ls hl => ?_)
  have hP1 : va_P D vwCl (PW_X10 ca ad) H4 := fun k x hk => hPj k x (sL_l hk)
  have hP2 : va_P D vwCl (gx_w (wR D ca a2) N1) H4 := fun k x hk => hPj _ x (sL_r (X := PW_X10 ca ad) hk)
  have hD2 : va_D (fun q : Nat => s.heap.size ≤ q) (gx_w (wR D ca a2) N1) := sL_dr hDj
  obtain ⟨g1, g2, g3⟩ := sC_start hP1 (sL_dl hDj)
  have hC : LC (p, l, e, room_1, s, m, #[Value.ref b], below, meth, c) d (sC_w D ca ad) (wR D ca a2) 135 19361 b L xs := ⟨⟨hCF, rfl, hX, hbl, Nat.le_of_ble_eq_true rfl, Nat.le_of_ble_eq_true rfl⟩, ⟨hK, hK, hF, g1, gx_Di hD2⟩, fun k hk => g3 k hk, fun k hk => gx_Da hD2 hk, fun i j hi hj => by
    obtain ⟨e1, h1⟩ := sC_pos (ca := ca) (A := ad) (sC_lt i hi)
    exact sL_dx hDj h1 (gx_at (w := wR D ca a2) hj)⟩
  have hlv : lv_has ls 4 [(0, .ref b), (1, .ref (gx_ad (sC_w D ca ad) 0)), (2, .ref (gx_ad (wR D ca a2) 0)), (3, .int (nI (7 * 0)))] := lv_sub hl [3, 2, 1, 0] rfl
  exact law_loop (below := below) hC sC_is wR_is hL steps_all (Z := lw_Z below #[Value.ref b] s) (fun M N lv => lw_iconst (v := 1) hC dL_law_1108 (by decide) (fun H locs ls hP1 hP2 hS hL => va_forget hS.2.2 (W.widen (Nat.le_of_ble_eq_true rfl) (Nat.le_of_ble_eq_true rfl) (lw_ret hx hb hr hlocks dL_law_1109)))) (L + 1) 0 sM0 N1 (by omega) (by omega) (RR_start hn2 hn3) H4 locs ls g2 hP2 hS hlv
