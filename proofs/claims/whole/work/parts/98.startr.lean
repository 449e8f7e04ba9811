/-! THE START: the reference's constructor, to its first memory -/
theorem gx_Dm {w : gx_V} {A : Nat → Prop} {M M' : gx_M} (h : va_D A (gx_w w M)) : va_D A (gx_w w M') := by
  have key : ∀ (k : Nat) (q : Nat × va_E), (gx_w w M')[k]? = some q → k < gx_N w ∧ q.1 = gx_ad w k := by
    intro k q hk
    have hl : k < gx_N w := by
      have := (List.getElem?_eq_some_iff.mp hk).1
      rwa [gx_len] at this
    rw [gx_at hl] at hk
    cases hk
    exact ⟨hl, rfl⟩
  refine ⟨fun i j p q hp hq hpq => ?_, fun k q hk => ?_⟩
  · obtain ⟨h1, h2⟩ := key i p hp
    obtain ⟨h3, h4⟩ := key j q hq
    exact h.1 i j _ _ (gx_at h1) (gx_at h3) (show gx_ad w i = gx_ad w j by rw [← h2, ← h4, hpq])
  · obtain ⟨h1, h2⟩ := key k q hk
    rw [h2]
    exact h.2 k _ (gx_at h1)
theorem gx_Di {w : gx_V} {A : Nat → Prop} {M : gx_M} (h : va_D A (gx_w w M)) : gx_inj w := fun i j hi hj e => h.1 i j _ _ (gx_at hi) (gx_at hj) e
theorem gx_Da {w : gx_V} {A : Nat → Prop} {M : gx_M} (h : va_D A (gx_w w M)) {k : Nat} (hk : k < gx_N w) : A (gx_ad w k) := h.2 k _ (gx_at hk)
theorem gx_rl0 : gx_rl (fun _ => 0) = fun _ => 0 := funext fun _ => show gx_lg 0 0 = 0 by decide
def wR (D : va_G) (ca : Nat → ClassId) (ad : Nat → Nat) : gx_V := (D, gx_ty ca, ad, gx_cR ca ad, 24)
theorem wR_is {D : va_G} {ca : Nat → ClassId} {ad : Nat → Nat} : gx_isR ca (wR D ca ad) := ⟨rfl, rfl, rfl⟩
def sP : gx_M := fun o j => if o = 0 ∧ (j = 4 ∨ j = 5) then -1 else 0
set_option maxHeartbeats 4000000 in
set_option maxRecDepth 20000 in
theorem fl_R {D : va_G} {ca : Nat → ClassId} {ad : Nat → Nat} : gx_w (wR D ca ad) sP = [(ad 0, .inr (11, [.ref (ad 1), .ref (ad 2), .ref (ad 3), .int 0, .int (-1), .int (-1), .ref (ad 4), .ref (ad 5), .ref (ad 6), .ref (ad 7), .ref (ad 8), .ref (ad 9), .int 0, .int 0, .int 0, .int 0, .int 0, .int 0, .int 0, .int 0, .int 0, .ref (ad 10), .ref (ad 11), .int 0, .ref (ad 12), .ref (ad 13), .int 0, .int 0, .ref (ad 14), .ref (ad 15), .int 0, .ref (ad 16), .ref (ad 17), .ref (ad 18), .ref (ad 19), .int 0, .ref (ad 20), .ref (ad 21), .ref (ad 22), .int 0, .int 0, .ref (ad 23)])),
    (ad 1, .inl (ca 0, 170, .inl (fun _ => 0))),
    (ad 2, .inl (ca 0, 170, .inl (fun _ => 0))),
    (ad 3, .inl (ca 6, 300, .inl (fun _ => 0))),
    (ad 4, .inl (ca 0, 4, .inl (fun _ => 0))),
    (ad 5, .inl (ca 0, 40, .inl (fun _ => 0))),
    (ad 6, .inl (ca 0, 40, .inl (fun _ => 0))),
    (ad 7, .inl (ca 0, 1600, .inl (fun _ => 0))),
    (ad 8, .inl (ca 0, 1600, .inl (fun _ => 0))),
    (ad 9, .inl (ca 0, 4000, .inl (fun _ => 0))),
    (ad 10, .inl (ca 0, 40, .inl (fun _ => 0))),
    (ad 11, .inl (ca 0, 41, .inl (fun _ => 0))),
    (ad 12, .inl (ca 0, 80, .inl (fun _ => 0))),
    (ad 13, .inl (ca 0, 80, .inl (fun _ => 0))),
    (ad 14, .inl (ca 0, 10, .inl (fun _ => 0))),
    (ad 15, .inl (ca 0, 10, .inl (fun _ => 0))),
    (ad 16, .inl (ca 0, 400, .inl (fun _ => 0))),
    (ad 17, .inl (ca 0, 400, .inl (fun _ => 0))),
    (ad 18, .inl (ca 0, 7, .inl (fun _ => 0))),
    (ad 19, .inl (ca 8, 200, .inr (.inl (gx_rl (fun _ => 0))))),
    (ad 20, .inl (ca 0, 120, .inl (fun _ => 0))),
    (ad 21, .inl (ca 0, 320, .inl (fun _ => 0))),
    (ad 22, .inl (ca 0, 20, .inl (fun _ => 0))),
    (ad 23, .inl (ca 7, 320, .inl (fun _ => 0)))] := rfl
def sN : gx_M := (gx_up (gx_up (gx_up (gx_up (gx_up (gx_up (gx_up (gx_up (gx_up (gx_up (gx_up (gx_up (gx_up (gx_up sP 1 1 (-1)) 1 2 10) 1 4 16) 1 6 1) 1 10 0) 1 12 10) 1 16 1) 1 18 1) 1 20 16) 1 11 1) 1 13 10) 1 17 1) 1 19 1) 1 21 16)
theorem ko_X11_1 : Cond.methodLink RX11 1 objectInit ∈ gx_U := gx_in 998 (by decide +kernel) (by decide +kernel)
theorem ff_X11_7 : gx_fF RX11 7 TX11 42 0 tyX11 (.array .int) := ⟨⟨by decide, gx_in 1003 (by decide +kernel) (by decide +kernel)⟩, rfl, rfl, rfl⟩
theorem ff_X11_13 : gx_fF RX11 13 TX11 42 1 tyX11 (.array .int) := ⟨⟨by decide, gx_in 1004 (by decide +kernel) (by decide +kernel)⟩, rfl, rfl, rfl⟩
theorem ka_byte : Cond.arrayClass (newarray.typeOf .byte) ∈ gx_U := gx_in 744 (by decide +kernel) (by decide +kernel)
theorem ff_X11_16 : gx_fF RX11 16 TX11 42 2 tyX11 (.array .byte) := ⟨⟨by decide, gx_in 1005 (by decide +kernel) (by decide +kernel)⟩, rfl, rfl, rfl⟩
theorem fq_X11_20 : gx_fp RX11 20 TX11 42 4 tyX11 .int := ⟨⟨by decide, gx_in 1007 (by decide +kernel) (by decide +kernel)⟩, rfl, rfl⟩
theorem fq_X11_24 : gx_fp RX11 24 TX11 42 5 tyX11 .int := ⟨⟨by decide, gx_in 1008 (by decide +kernel) (by decide +kernel)⟩, rfl, rfl⟩
theorem ff_X11_27 : gx_fF RX11 27 TX11 42 6 tyX11 (.array .int) := ⟨⟨by decide, gx_in 1009 (by decide +kernel) (by decide +kernel)⟩, rfl, rfl, rfl⟩
theorem ff_X11_30 : gx_fF RX11 30 TX11 42 7 tyX11 (.array .int) := ⟨⟨by decide, gx_in 1010 (by decide +kernel) (by decide +kernel)⟩, rfl, rfl, rfl⟩
theorem ff_X11_33 : gx_fF RX11 33 TX11 42 8 tyX11 (.array .int) := ⟨⟨by decide, gx_in 1011 (by decide +kernel) (by decide +kernel)⟩, rfl, rfl, rfl⟩
theorem ff_X11_36 : gx_fF RX11 36 TX11 42 9 tyX11 (.array .int) := ⟨⟨by decide, gx_in 1012 (by decide +kernel) (by decide +kernel)⟩, rfl, rfl, rfl⟩
theorem ff_X11_39 : gx_fF RX11 39 TX11 42 10 tyX11 (.array .int) := ⟨⟨by decide, gx_in 1013 (by decide +kernel) (by decide +kernel)⟩, rfl, rfl, rfl⟩
theorem ff_X11_42 : gx_fF RX11 42 TX11 42 11 tyX11 (.array .int) := ⟨⟨by decide, gx_in 1014 (by decide +kernel) (by decide +kernel)⟩, rfl, rfl, rfl⟩
theorem ff_X11_45 : gx_fF RX11 45 TX11 42 21 tyX11 (.array .int) := ⟨⟨by decide, gx_in 1024 (by decide +kernel) (by decide +kernel)⟩, rfl, rfl, rfl⟩
theorem ff_X11_48 : gx_fF RX11 48 TX11 42 22 tyX11 (.array .int) := ⟨⟨by decide, gx_in 1025 (by decide +kernel) (by decide +kernel)⟩, rfl, rfl, rfl⟩
theorem ff_X11_51 : gx_fF RX11 51 TX11 42 24 tyX11 (.array .int) := ⟨⟨by decide, gx_in 1027 (by decide +kernel) (by decide +kernel)⟩, rfl, rfl, rfl⟩
theorem ff_X11_54 : gx_fF RX11 54 TX11 42 25 tyX11 (.array .int) := ⟨⟨by decide, gx_in 1028 (by decide +kernel) (by decide +kernel)⟩, rfl, rfl, rfl⟩
theorem ff_X11_57 : gx_fF RX11 57 TX11 42 28 tyX11 (.array .int) := ⟨⟨by decide, gx_in 1031 (by decide +kernel) (by decide +kernel)⟩, rfl, rfl, rfl⟩
theorem ff_X11_60 : gx_fF RX11 60 TX11 42 29 tyX11 (.array .int) := ⟨⟨by decide, gx_in 1032 (by decide +kernel) (by decide +kernel)⟩, rfl, rfl, rfl⟩
theorem ff_X11_63 : gx_fF RX11 63 TX11 42 31 tyX11 (.array .int) := ⟨⟨by decide, gx_in 1034 (by decide +kernel) (by decide +kernel)⟩, rfl, rfl, rfl⟩
theorem ff_X11_66 : gx_fF RX11 66 TX11 42 32 tyX11 (.array .int) := ⟨⟨by decide, gx_in 1035 (by decide +kernel) (by decide +kernel)⟩, rfl, rfl, rfl⟩
theorem ff_X11_69 : gx_fF RX11 69 TX11 42 33 tyX11 (.array .int) := ⟨⟨by decide, gx_in 1036 (by decide +kernel) (by decide +kernel)⟩, rfl, rfl, rfl⟩
theorem ka_long : Cond.arrayClass (newarray.typeOf .long) ∈ gx_U := gx_in 1130 (by decide +kernel) (by decide +kernel)
theorem ff_X11_72 : gx_fF RX11 72 TX11 42 34 tyX11 (.array .long) := ⟨⟨by decide, gx_in 1037 (by decide +kernel) (by decide +kernel)⟩, rfl, rfl, rfl⟩
theorem ff_X11_76 : gx_fF RX11 76 TX11 42 36 tyX11 (.array .int) := ⟨⟨by decide, gx_in 1039 (by decide +kernel) (by decide +kernel)⟩, rfl, rfl, rfl⟩
theorem ff_X11_79 : gx_fF RX11 79 TX11 42 37 tyX11 (.array .int) := ⟨⟨by decide, gx_in 1040 (by decide +kernel) (by decide +kernel)⟩, rfl, rfl, rfl⟩
theorem ff_X11_82 : gx_fF RX11 82 TX11 42 38 tyX11 (.array .int) := ⟨⟨by decide, gx_in 1041 (by decide +kernel) (by decide +kernel)⟩, rfl, rfl, rfl⟩
theorem ka_boolean : Cond.arrayClass (newarray.typeOf .boolean) ∈ gx_U := gx_in 1131 (by decide +kernel) (by decide +kernel)
theorem ff_X11_85 : gx_fF RX11 85 TX11 42 41 tyX11 (.array .boolean) := ⟨⟨by decide, gx_in 1044 (by decide +kernel) (by decide +kernel)⟩, rfl, rfl, rfl⟩
def sR_Q (w : gx_V) (ca : Nat → ClassId) (h0 sz : Nat) : gx_QT := va_Qv (S := (Nat → Nat) × gx_M) (fun u => u.1 0 = h0 ∧ (∀ o, o ≠ 2 → u.2 o = sN o) ∧ ∀ r, r < 170 → u.2 2 r = sN 1 r) (fun u t => va_P w.1 vwCl (gx_w (wR w.1 ca u.1) u.2) t.heap ∧ va_D (fun q => q = h0 ∨ sz ≤ q) (gx_w (wR w.1 ca u.1) u.2)) (fun q => q = h0 ∨ sz ≤ q)
def rm_X11_init : Room := { frames := 1, cells := 23, slots := 9972, locals := 22 }
section CR
variable {z : gx_X} {ca : Nat → ClassId} {w : gx_V} {d : gx_D} {h0 mc ms : Nat} {Qc : gx_QT} {k1 k2 pc : Nat} {lv : List (Nat × Value)} {rest st : List Value} {ad : Nat → Nat} {M : gx_M}
theorem cr_get (hC : CC z ca w cX11_init 2 RX11) {i : Nat} (hi : i = 7) (hdg : decode cX11_init pc = .ok (.getfield i, 3)) (k : CW z w 2 h0 mc ms Qc (gx_w (wR w.1 ca ad) M) k1 k2 (pc + 3) lv (.ref (ad 1) :: rest)) : CW z w 2 h0 mc ms Qc (gx_w (wR w.1 ca ad) M) k1 k2 pc lv (.ref (ad 0) :: rest) := by
  subst hi
  exact cw_get (fs := fs_X11 ad 0 (M 0)) (v := .ref (ad 1)) hC 0 cl_X11 fg_X11_7 (gx_at (w := wR w.1 ca ad) (show 0 < 24 by decide)) rfl hdg k
theorem cr_st (hC : CC z ca w cX11_init 2 RX11) {i x : Int32} {j : Nat} (hj : i.toNatClampNeg = j) (hin : vp_in i 170) (hdg : decode cX11_init pc = .ok (.iastore, 1)) (k : CW z w 2 h0 mc ms Qc (gx_w (wR w.1 ca ad) (gx_up M 1 j x)) k1 k2 (pc + 1) lv rest) : CW z w 2 h0 mc ms Qc (gx_w (wR w.1 ca ad) M) k1 k2 pc lv (.int x :: .int i :: .ref (ad 1) :: rest) := by
  subst hj
  refine cw_iast (f := M 1) (n := 170) hC 1 (gx_at (w := wR w.1 ca ad) (show 1 < 24 by decide)) hin hdg ?_
  exact cw_eq (gx_set (w := wR w.1 ca ad) (show 1 < 24 by decide)) k
theorem cr_copies (hC : CC z ca w cX11_init 2 RX11) (hF : gx_F d (cw_A z (ad 0)) (gx_s z) (gx_s z).heap) (hR : gx_R z = rm_X11_init) (hr : (gx_me z).sig.returnType = none) {l1 : List (Nat × Value)} (hdg : decode cX11_init 306 = .ok (.invokevirtual 89, 3)) (hdr : decode cX11_init 309 = .ok (.return_, 1)) : CW z w 2 (ad 0) 23 9972 (sR_Q w ca (ad 0) (gx_s z).heap.size) (gx_w (wR w.1 ca ad) sN) 23 9972 306 l1 [.int 1, .ref (ad 0)] := fun H locs ls hP hD hS hL => by
  have hcv := cv_X11_89_X11_copies
  have hsub : ∀ q, gx_A (wR w.1 ca ad) H.size q → cw_A z (ad 0) q := fun q hq => hq.elim (fun ⟨k, hk, e⟩ => by rw [e]; exact gx_Da hD hk) (fun h => Or.inr (Nat.le_trans hS.1 h))
  refine va_callv (S := gx_M) (post := fun N' => (∀ o, o ≠ 2 → N' o = sN o) ∧ ∀ r, r < 170 → N' 2 r = sN 1 r) (B := fun M t => va_P w.1 vwCl (gx_w (wR w.1 ca ad) M) t.heap)
    (va_runV (own := RX11) (C := RX11) (bytes := cX11_copies) (maxL := 3) (ret := none) (As := [.int 1]) (rest := []) hC.1 (c_X11_copies (d := d) (w := wR w.1 ca ad) wR_is (n_copyOut (fun N' h1 h2 => ⟨h1, h2⟩)) H.size) (cwV 1 hC.1.2.2.2.2 (gx_gV hcv) rfl rfl rfl ⟨hcv.2.1, hcv.2.2.1, hcv.2.2.2.1, hcv.2.2.2.2⟩ (by rw [hR]; exact ⟨Nat.le_of_ble_eq_true rfl, Nat.le_of_ble_eq_true rfl⟩))
      ⟨gx_blind, va_recv (cl := vwCl) hC.2.2.1.1 hP cl_X11.1 (q0 := 0) (gx_at (w := wR w.1 ca ad) (show 0 < 24 by decide)), fun U hU hW => ⟨rfl, by rw [hU], by rw [hU]; exact hP, va_K.moved hW.alike hC.2.2.1.1, by rw [hU]; exact ((hF.warm hW).kept (fun a h1 h2 => hS.2.1 a h1 h2)).narrow hsub, gx_Di hD⟩⟩ rfl rfl hL.1 rfl (lv_room (Nat.le_of_ble_eq_true rfl)) hdg (by rw [hR]; exact ⟨Nat.le_of_ble_eq_true rfl, Nat.le_of_ble_eq_true rfl⟩)) hS (fun q _ hq => hsub q hq) hsub (fun u t H1 locs1 ht _ hw hB _ _ hS1 => ?_)
  rw [ht] at hB
  exact W.widen (Nat.le_refl _) (Nat.le_refl _) (W.vret hC.1.1 hC.1.2.1 hr (fun t1 ht1 _ => ⟨⟨(ad, u), rfl, ⟨rfl, hw⟩, by show va_P _ _ _ t1.heap ∧ _; rw [ht1]; exact ⟨hB, gx_Dm hD⟩⟩, hS1.F ht1⟩) hS1.2.2 hdr hC.2.1)
end CR
set_option maxHeartbeats 8000000 in
set_option maxRecDepth 20000 in
theorem cr_init {z : gx_X} {ca : Nat → ClassId} {w : gx_V} {d : gx_D} {h0 : Nat} (hC : CC z ca w cX11_init 2 RX11) (hF : gx_F d (cw_A z h0) (gx_s z) (gx_s z).heap) (hR : gx_R z = rm_X11_init) (hr : (gx_me z).sig.returnType = none) : CW z w 2 h0 23 9972 (sR_Q w ca h0 (gx_s z).heap.size) [(h0, .inr (11, [.null, .null, .null, .int 0, .int 0, .int 0, .null, .null, .null, .null, .null, .null, .int 0, .int 0, .int 0, .int 0, .int 0, .int 0, .int 0, .int 0, .int 0, .null, .null, .int 0, .null, .null, .int 0, .int 0, .null, .null, .int 0, .null, .null, .null, .null, .int 0, .null, .null, .null, .int 0, .int 0, .null]))] 0 0 0 (lv_args 0 (.ref h0 :: [])) [] := by
  refine cw_eq (ws' := (h0, .inr (11, [.null, .null, .null, .int 0, .int 0, .int 0, .null, .null, .null, .null, .null, .null, .int 0, .int 0, .int 0, .int 0, .int 0, .int 0, .int 0, .int 0, .int 0, .null, .null, .int 0, .null, .null, .int 0, .int 0, .null, .null, .int 0, .null, .null, .null, .null, .int 0, .null, .null, .null, .int 0, .int 0, .null])) :: []) rfl ?_
  refine cw_aload_n hC dX11_init_0 rfl 0 rfl ?_
  refine cw_obj hC ko_X11_1 ko_i ko_c (by rw [hR]; exact ⟨Nat.le_of_ble_eq_true rfl, Nat.le_of_ble_eq_true rfl⟩) (Nat.le_of_ble_eq_true rfl) dX11_init_1 ?_
  refine cw_aload_n hC dX11_init_4 rfl 0 rfl ?_
  refine cw_sipush (v := 170) hC dX11_init_5 (by decide) ?_
  refine cw_newa (atype := .int) (ty := .int) (N := 170) (a0 := (170, .inl (fun _ => 0))) hC 0 ka_int rfl rfl (fun _ _ h => h) (fun _ => rfl) (by decide) (by decide) (by decide) (by rw [hR]; exact ⟨Nat.le_of_ble_eq_true rfl, Nat.le_of_ble_eq_true rfl⟩) dX11_init_8 (fun q1 => ?_)
  refine cw_eq (ws' := (h0, .inr (11, [.null, .null, .null, .int 0, .int 0, .int 0, .null, .null, .null, .null, .null, .null, .int 0, .int 0, .int 0, .int 0, .int 0, .int 0, .int 0, .int 0, .int 0, .null, .null, .int 0, .null, .null, .int 0, .int 0, .null, .null, .int 0, .null, .null, .null, .null, .int 0, .null, .null, .null, .int 0, .int 0, .null])) :: [(q1, .inl (ca 0, 170, .inl (fun _ => 0)))]) rfl ?_
  refine cw_putF hC cl_X11 ff_X11_7 rfl rfl rfl (Nat.le_of_ble_eq_true rfl) dX11_init_10 ?_
  refine cw_eq (ws' := (h0, .inr (11, [.ref q1, .null, .null, .int 0, .int 0, .int 0, .null, .null, .null, .null, .null, .null, .int 0, .int 0, .int 0, .int 0, .int 0, .int 0, .int 0, .int 0, .int 0, .null, .null, .int 0, .null, .null, .int 0, .int 0, .null, .null, .int 0, .null, .null, .null, .null, .int 0, .null, .null, .null, .int 0, .int 0, .null])) :: [(q1, .inl (ca 0, 170, .inl (fun _ => 0)))]) rfl ?_
  refine cw_aload_n hC dX11_init_13 rfl 0 rfl ?_
  refine cw_sipush (v := 170) hC dX11_init_14 (by decide) ?_
  refine cw_newa (atype := .int) (ty := .int) (N := 170) (a0 := (170, .inl (fun _ => 0))) hC 0 ka_int rfl rfl (fun _ _ h => h) (fun _ => rfl) (by decide) (by decide) (by decide) (by rw [hR]; exact ⟨Nat.le_of_ble_eq_true rfl, Nat.le_of_ble_eq_true rfl⟩) dX11_init_17 (fun q2 => ?_)
  refine cw_eq (ws' := (h0, .inr (11, [.ref q1, .null, .null, .int 0, .int 0, .int 0, .null, .null, .null, .null, .null, .null, .int 0, .int 0, .int 0, .int 0, .int 0, .int 0, .int 0, .int 0, .int 0, .null, .null, .int 0, .null, .null, .int 0, .int 0, .null, .null, .int 0, .null, .null, .null, .null, .int 0, .null, .null, .null, .int 0, .int 0, .null])) :: [(q1, .inl (ca 0, 170, .inl (fun _ => 0))), (q2, .inl (ca 0, 170, .inl (fun _ => 0)))]) rfl ?_
  refine cw_putF hC cl_X11 ff_X11_13 rfl rfl rfl (Nat.le_of_ble_eq_true rfl) dX11_init_19 ?_
  refine cw_eq (ws' := (h0, .inr (11, [.ref q1, .ref q2, .null, .int 0, .int 0, .int 0, .null, .null, .null, .null, .null, .null, .int 0, .int 0, .int 0, .int 0, .int 0, .int 0, .int 0, .int 0, .int 0, .null, .null, .int 0, .null, .null, .int 0, .int 0, .null, .null, .int 0, .null, .null, .null, .null, .int 0, .null, .null, .null, .int 0, .int 0, .null])) :: [(q1, .inl (ca 0, 170, .inl (fun _ => 0))), (q2, .inl (ca 0, 170, .inl (fun _ => 0)))]) rfl ?_
  refine cw_aload_n hC dX11_init_22 rfl 0 rfl ?_
  refine cw_sipush (v := 300) hC dX11_init_23 (by decide) ?_
  refine cw_newa (atype := .byte) (ty := .byte) (N := 300) (a0 := (300, .inl (fun _ => 0))) hC 6 ka_byte rfl rfl (fun _ _ h => h) (fun _ => rfl) (by decide) (by decide) (by decide) (by rw [hR]; exact ⟨Nat.le_of_ble_eq_true rfl, Nat.le_of_ble_eq_true rfl⟩) dX11_init_26 (fun q3 => ?_)
  refine cw_eq (ws' := (h0, .inr (11, [.ref q1, .ref q2, .null, .int 0, .int 0, .int 0, .null, .null, .null, .null, .null, .null, .int 0, .int 0, .int 0, .int 0, .int 0, .int 0, .int 0, .int 0, .int 0, .null, .null, .int 0, .null, .null, .int 0, .int 0, .null, .null, .int 0, .null, .null, .null, .null, .int 0, .null, .null, .null, .int 0, .int 0, .null])) :: [(q1, .inl (ca 0, 170, .inl (fun _ => 0))), (q2, .inl (ca 0, 170, .inl (fun _ => 0))), (q3, .inl (ca 6, 300, .inl (fun _ => 0)))]) rfl ?_
  refine cw_putF hC cl_X11 ff_X11_16 rfl rfl rfl (Nat.le_of_ble_eq_true rfl) dX11_init_28 ?_
  refine cw_eq (ws' := (h0, .inr (11, [.ref q1, .ref q2, .ref q3, .int 0, .int 0, .int 0, .null, .null, .null, .null, .null, .null, .int 0, .int 0, .int 0, .int 0, .int 0, .int 0, .int 0, .int 0, .int 0, .null, .null, .int 0, .null, .null, .int 0, .int 0, .null, .null, .int 0, .null, .null, .null, .null, .int 0, .null, .null, .null, .int 0, .int 0, .null])) :: [(q1, .inl (ca 0, 170, .inl (fun _ => 0))), (q2, .inl (ca 0, 170, .inl (fun _ => 0))), (q3, .inl (ca 6, 300, .inl (fun _ => 0)))]) rfl ?_
  refine cw_aload_n hC dX11_init_31 rfl 0 rfl ?_
  refine cw_iconst (v := (-1)) hC dX11_init_32 (by decide) ?_
  refine cw_put hC cl_X11 fq_X11_20 rfl rfl rfl (Nat.le_of_ble_eq_true rfl) dX11_init_33 ?_
  refine cw_eq (ws' := (h0, .inr (11, [.ref q1, .ref q2, .ref q3, .int 0, .int (-1), .int 0, .null, .null, .null, .null, .null, .null, .int 0, .int 0, .int 0, .int 0, .int 0, .int 0, .int 0, .int 0, .int 0, .null, .null, .int 0, .null, .null, .int 0, .int 0, .null, .null, .int 0, .null, .null, .null, .null, .int 0, .null, .null, .null, .int 0, .int 0, .null])) :: [(q1, .inl (ca 0, 170, .inl (fun _ => 0))), (q2, .inl (ca 0, 170, .inl (fun _ => 0))), (q3, .inl (ca 6, 300, .inl (fun _ => 0)))]) rfl ?_
  refine cw_aload_n hC dX11_init_36 rfl 0 rfl ?_
  refine cw_iconst (v := (-1)) hC dX11_init_37 (by decide) ?_
  refine cw_put hC cl_X11 fq_X11_24 rfl rfl rfl (Nat.le_of_ble_eq_true rfl) dX11_init_38 ?_
  refine cw_eq (ws' := (h0, .inr (11, [.ref q1, .ref q2, .ref q3, .int 0, .int (-1), .int (-1), .null, .null, .null, .null, .null, .null, .int 0, .int 0, .int 0, .int 0, .int 0, .int 0, .int 0, .int 0, .int 0, .null, .null, .int 0, .null, .null, .int 0, .int 0, .null, .null, .int 0, .null, .null, .null, .null, .int 0, .null, .null, .null, .int 0, .int 0, .null])) :: [(q1, .inl (ca 0, 170, .inl (fun _ => 0))), (q2, .inl (ca 0, 170, .inl (fun _ => 0))), (q3, .inl (ca 6, 300, .inl (fun _ => 0)))]) rfl ?_
  refine cw_aload_n hC dX11_init_41 rfl 0 rfl ?_
  refine cw_iconst (v := 4) hC dX11_init_42 (by decide) ?_
  refine cw_newa (atype := .int) (ty := .int) (N := 4) (a0 := (4, .inl (fun _ => 0))) hC 0 ka_int rfl rfl (fun _ _ h => h) (fun _ => rfl) (by decide) (by decide) (by decide) (by rw [hR]; exact ⟨Nat.le_of_ble_eq_true rfl, Nat.le_of_ble_eq_true rfl⟩) dX11_init_43 (fun q4 => ?_)
  refine cw_eq (ws' := (h0, .inr (11, [.ref q1, .ref q2, .ref q3, .int 0, .int (-1), .int (-1), .null, .null, .null, .null, .null, .null, .int 0, .int 0, .int 0, .int 0, .int 0, .int 0, .int 0, .int 0, .int 0, .null, .null, .int 0, .null, .null, .int 0, .int 0, .null, .null, .int 0, .null, .null, .null, .null, .int 0, .null, .null, .null, .int 0, .int 0, .null])) :: [(q1, .inl (ca 0, 170, .inl (fun _ => 0))), (q2, .inl (ca 0, 170, .inl (fun _ => 0))), (q3, .inl (ca 6, 300, .inl (fun _ => 0))), (q4, .inl (ca 0, 4, .inl (fun _ => 0)))]) rfl ?_
  refine cw_putF hC cl_X11 ff_X11_27 rfl rfl rfl (Nat.le_of_ble_eq_true rfl) dX11_init_45 ?_
  refine cw_eq (ws' := (h0, .inr (11, [.ref q1, .ref q2, .ref q3, .int 0, .int (-1), .int (-1), .ref q4, .null, .null, .null, .null, .null, .int 0, .int 0, .int 0, .int 0, .int 0, .int 0, .int 0, .int 0, .int 0, .null, .null, .int 0, .null, .null, .int 0, .int 0, .null, .null, .int 0, .null, .null, .null, .null, .int 0, .null, .null, .null, .int 0, .int 0, .null])) :: [(q1, .inl (ca 0, 170, .inl (fun _ => 0))), (q2, .inl (ca 0, 170, .inl (fun _ => 0))), (q3, .inl (ca 6, 300, .inl (fun _ => 0))), (q4, .inl (ca 0, 4, .inl (fun _ => 0)))]) rfl ?_
  refine cw_aload_n hC dX11_init_48 rfl 0 rfl ?_
  refine cw_bipush (v := 40) hC dX11_init_49 (by decide) ?_
  refine cw_newa (atype := .int) (ty := .int) (N := 40) (a0 := (40, .inl (fun _ => 0))) hC 0 ka_int rfl rfl (fun _ _ h => h) (fun _ => rfl) (by decide) (by decide) (by decide) (by rw [hR]; exact ⟨Nat.le_of_ble_eq_true rfl, Nat.le_of_ble_eq_true rfl⟩) dX11_init_51 (fun q5 => ?_)
  refine cw_eq (ws' := (h0, .inr (11, [.ref q1, .ref q2, .ref q3, .int 0, .int (-1), .int (-1), .ref q4, .null, .null, .null, .null, .null, .int 0, .int 0, .int 0, .int 0, .int 0, .int 0, .int 0, .int 0, .int 0, .null, .null, .int 0, .null, .null, .int 0, .int 0, .null, .null, .int 0, .null, .null, .null, .null, .int 0, .null, .null, .null, .int 0, .int 0, .null])) :: [(q1, .inl (ca 0, 170, .inl (fun _ => 0))), (q2, .inl (ca 0, 170, .inl (fun _ => 0))), (q3, .inl (ca 6, 300, .inl (fun _ => 0))), (q4, .inl (ca 0, 4, .inl (fun _ => 0))), (q5, .inl (ca 0, 40, .inl (fun _ => 0)))]) rfl ?_
  refine cw_putF hC cl_X11 ff_X11_30 rfl rfl rfl (Nat.le_of_ble_eq_true rfl) dX11_init_53 ?_
  refine cw_eq (ws' := (h0, .inr (11, [.ref q1, .ref q2, .ref q3, .int 0, .int (-1), .int (-1), .ref q4, .ref q5, .null, .null, .null, .null, .int 0, .int 0, .int 0, .int 0, .int 0, .int 0, .int 0, .int 0, .int 0, .null, .null, .int 0, .null, .null, .int 0, .int 0, .null, .null, .int 0, .null, .null, .null, .null, .int 0, .null, .null, .null, .int 0, .int 0, .null])) :: [(q1, .inl (ca 0, 170, .inl (fun _ => 0))), (q2, .inl (ca 0, 170, .inl (fun _ => 0))), (q3, .inl (ca 6, 300, .inl (fun _ => 0))), (q4, .inl (ca 0, 4, .inl (fun _ => 0))), (q5, .inl (ca 0, 40, .inl (fun _ => 0)))]) rfl ?_
  refine cw_aload_n hC dX11_init_56 rfl 0 rfl ?_
  refine cw_bipush (v := 40) hC dX11_init_57 (by decide) ?_
  refine cw_newa (atype := .int) (ty := .int) (N := 40) (a0 := (40, .inl (fun _ => 0))) hC 0 ka_int rfl rfl (fun _ _ h => h) (fun _ => rfl) (by decide) (by decide) (by decide) (by rw [hR]; exact ⟨Nat.le_of_ble_eq_true rfl, Nat.le_of_ble_eq_true rfl⟩) dX11_init_59 (fun q6 => ?_)
  refine cw_eq (ws' := (h0, .inr (11, [.ref q1, .ref q2, .ref q3, .int 0, .int (-1), .int (-1), .ref q4, .ref q5, .null, .null, .null, .null, .int 0, .int 0, .int 0, .int 0, .int 0, .int 0, .int 0, .int 0, .int 0, .null, .null, .int 0, .null, .null, .int 0, .int 0, .null, .null, .int 0, .null, .null, .null, .null, .int 0, .null, .null, .null, .int 0, .int 0, .null])) :: [(q1, .inl (ca 0, 170, .inl (fun _ => 0))), (q2, .inl (ca 0, 170, .inl (fun _ => 0))), (q3, .inl (ca 6, 300, .inl (fun _ => 0))), (q4, .inl (ca 0, 4, .inl (fun _ => 0))), (q5, .inl (ca 0, 40, .inl (fun _ => 0))), (q6, .inl (ca 0, 40, .inl (fun _ => 0)))]) rfl ?_
  refine cw_putF hC cl_X11 ff_X11_33 rfl rfl rfl (Nat.le_of_ble_eq_true rfl) dX11_init_61 ?_
  refine cw_eq (ws' := (h0, .inr (11, [.ref q1, .ref q2, .ref q3, .int 0, .int (-1), .int (-1), .ref q4, .ref q5, .ref q6, .null, .null, .null, .int 0, .int 0, .int 0, .int 0, .int 0, .int 0, .int 0, .int 0, .int 0, .null, .null, .int 0, .null, .null, .int 0, .int 0, .null, .null, .int 0, .null, .null, .null, .null, .int 0, .null, .null, .null, .int 0, .int 0, .null])) :: [(q1, .inl (ca 0, 170, .inl (fun _ => 0))), (q2, .inl (ca 0, 170, .inl (fun _ => 0))), (q3, .inl (ca 6, 300, .inl (fun _ => 0))), (q4, .inl (ca 0, 4, .inl (fun _ => 0))), (q5, .inl (ca 0, 40, .inl (fun _ => 0))), (q6, .inl (ca 0, 40, .inl (fun _ => 0)))]) rfl ?_
  refine cw_aload_n hC dX11_init_64 rfl 0 rfl ?_
  refine cw_sipush (v := 1600) hC dX11_init_65 (by decide) ?_
  refine cw_newa (atype := .int) (ty := .int) (N := 1600) (a0 := (1600, .inl (fun _ => 0))) hC 0 ka_int rfl rfl (fun _ _ h => h) (fun _ => rfl) (by decide) (by decide) (by decide) (by rw [hR]; exact ⟨Nat.le_of_ble_eq_true rfl, Nat.le_of_ble_eq_true rfl⟩) dX11_init_68 (fun q7 => ?_)
  refine cw_eq (ws' := (h0, .inr (11, [.ref q1, .ref q2, .ref q3, .int 0, .int (-1), .int (-1), .ref q4, .ref q5, .ref q6, .null, .null, .null, .int 0, .int 0, .int 0, .int 0, .int 0, .int 0, .int 0, .int 0, .int 0, .null, .null, .int 0, .null, .null, .int 0, .int 0, .null, .null, .int 0, .null, .null, .null, .null, .int 0, .null, .null, .null, .int 0, .int 0, .null])) :: [(q1, .inl (ca 0, 170, .inl (fun _ => 0))), (q2, .inl (ca 0, 170, .inl (fun _ => 0))), (q3, .inl (ca 6, 300, .inl (fun _ => 0))), (q4, .inl (ca 0, 4, .inl (fun _ => 0))), (q5, .inl (ca 0, 40, .inl (fun _ => 0))), (q6, .inl (ca 0, 40, .inl (fun _ => 0))), (q7, .inl (ca 0, 1600, .inl (fun _ => 0)))]) rfl ?_
  refine cw_putF hC cl_X11 ff_X11_36 rfl rfl rfl (Nat.le_of_ble_eq_true rfl) dX11_init_70 ?_
  refine cw_eq (ws' := (h0, .inr (11, [.ref q1, .ref q2, .ref q3, .int 0, .int (-1), .int (-1), .ref q4, .ref q5, .ref q6, .ref q7, .null, .null, .int 0, .int 0, .int 0, .int 0, .int 0, .int 0, .int 0, .int 0, .int 0, .null, .null, .int 0, .null, .null, .int 0, .int 0, .null, .null, .int 0, .null, .null, .null, .null, .int 0, .null, .null, .null, .int 0, .int 0, .null])) :: [(q1, .inl (ca 0, 170, .inl (fun _ => 0))), (q2, .inl (ca 0, 170, .inl (fun _ => 0))), (q3, .inl (ca 6, 300, .inl (fun _ => 0))), (q4, .inl (ca 0, 4, .inl (fun _ => 0))), (q5, .inl (ca 0, 40, .inl (fun _ => 0))), (q6, .inl (ca 0, 40, .inl (fun _ => 0))), (q7, .inl (ca 0, 1600, .inl (fun _ => 0)))]) rfl ?_
  refine cw_aload_n hC dX11_init_73 rfl 0 rfl ?_
  refine cw_sipush (v := 1600) hC dX11_init_74 (by decide) ?_
  refine cw_newa (atype := .int) (ty := .int) (N := 1600) (a0 := (1600, .inl (fun _ => 0))) hC 0 ka_int rfl rfl (fun _ _ h => h) (fun _ => rfl) (by decide) (by decide) (by decide) (by rw [hR]; exact ⟨Nat.le_of_ble_eq_true rfl, Nat.le_of_ble_eq_true rfl⟩) dX11_init_77 (fun q8 => ?_)
  refine cw_eq (ws' := (h0, .inr (11, [.ref q1, .ref q2, .ref q3, .int 0, .int (-1), .int (-1), .ref q4, .ref q5, .ref q6, .ref q7, .null, .null, .int 0, .int 0, .int 0, .int 0, .int 0, .int 0, .int 0, .int 0, .int 0, .null, .null, .int 0, .null, .null, .int 0, .int 0, .null, .null, .int 0, .null, .null, .null, .null, .int 0, .null, .null, .null, .int 0, .int 0, .null])) :: [(q1, .inl (ca 0, 170, .inl (fun _ => 0))), (q2, .inl (ca 0, 170, .inl (fun _ => 0))), (q3, .inl (ca 6, 300, .inl (fun _ => 0))), (q4, .inl (ca 0, 4, .inl (fun _ => 0))), (q5, .inl (ca 0, 40, .inl (fun _ => 0))), (q6, .inl (ca 0, 40, .inl (fun _ => 0))), (q7, .inl (ca 0, 1600, .inl (fun _ => 0))), (q8, .inl (ca 0, 1600, .inl (fun _ => 0)))]) rfl ?_
  refine cw_putF hC cl_X11 ff_X11_39 rfl rfl rfl (Nat.le_of_ble_eq_true rfl) dX11_init_79 ?_
  refine cw_eq (ws' := (h0, .inr (11, [.ref q1, .ref q2, .ref q3, .int 0, .int (-1), .int (-1), .ref q4, .ref q5, .ref q6, .ref q7, .ref q8, .null, .int 0, .int 0, .int 0, .int 0, .int 0, .int 0, .int 0, .int 0, .int 0, .null, .null, .int 0, .null, .null, .int 0, .int 0, .null, .null, .int 0, .null, .null, .null, .null, .int 0, .null, .null, .null, .int 0, .int 0, .null])) :: [(q1, .inl (ca 0, 170, .inl (fun _ => 0))), (q2, .inl (ca 0, 170, .inl (fun _ => 0))), (q3, .inl (ca 6, 300, .inl (fun _ => 0))), (q4, .inl (ca 0, 4, .inl (fun _ => 0))), (q5, .inl (ca 0, 40, .inl (fun _ => 0))), (q6, .inl (ca 0, 40, .inl (fun _ => 0))), (q7, .inl (ca 0, 1600, .inl (fun _ => 0))), (q8, .inl (ca 0, 1600, .inl (fun _ => 0)))]) rfl ?_
  refine cw_aload_n hC dX11_init_82 rfl 0 rfl ?_
  refine cw_sipush (v := 4000) hC dX11_init_83 (by decide) ?_
  refine cw_newa (atype := .int) (ty := .int) (N := 4000) (a0 := (4000, .inl (fun _ => 0))) hC 0 ka_int rfl rfl (fun _ _ h => h) (fun _ => rfl) (by decide) (by decide) (by decide) (by rw [hR]; exact ⟨Nat.le_of_ble_eq_true rfl, Nat.le_of_ble_eq_true rfl⟩) dX11_init_86 (fun q9 => ?_)
  refine cw_eq (ws' := (h0, .inr (11, [.ref q1, .ref q2, .ref q3, .int 0, .int (-1), .int (-1), .ref q4, .ref q5, .ref q6, .ref q7, .ref q8, .null, .int 0, .int 0, .int 0, .int 0, .int 0, .int 0, .int 0, .int 0, .int 0, .null, .null, .int 0, .null, .null, .int 0, .int 0, .null, .null, .int 0, .null, .null, .null, .null, .int 0, .null, .null, .null, .int 0, .int 0, .null])) :: [(q1, .inl (ca 0, 170, .inl (fun _ => 0))), (q2, .inl (ca 0, 170, .inl (fun _ => 0))), (q3, .inl (ca 6, 300, .inl (fun _ => 0))), (q4, .inl (ca 0, 4, .inl (fun _ => 0))), (q5, .inl (ca 0, 40, .inl (fun _ => 0))), (q6, .inl (ca 0, 40, .inl (fun _ => 0))), (q7, .inl (ca 0, 1600, .inl (fun _ => 0))), (q8, .inl (ca 0, 1600, .inl (fun _ => 0))), (q9, .inl (ca 0, 4000, .inl (fun _ => 0)))]) rfl ?_
  refine cw_putF hC cl_X11 ff_X11_42 rfl rfl rfl (Nat.le_of_ble_eq_true rfl) dX11_init_88 ?_
  refine cw_eq (ws' := (h0, .inr (11, [.ref q1, .ref q2, .ref q3, .int 0, .int (-1), .int (-1), .ref q4, .ref q5, .ref q6, .ref q7, .ref q8, .ref q9, .int 0, .int 0, .int 0, .int 0, .int 0, .int 0, .int 0, .int 0, .int 0, .null, .null, .int 0, .null, .null, .int 0, .int 0, .null, .null, .int 0, .null, .null, .null, .null, .int 0, .null, .null, .null, .int 0, .int 0, .null])) :: [(q1, .inl (ca 0, 170, .inl (fun _ => 0))), (q2, .inl (ca 0, 170, .inl (fun _ => 0))), (q3, .inl (ca 6, 300, .inl (fun _ => 0))), (q4, .inl (ca 0, 4, .inl (fun _ => 0))), (q5, .inl (ca 0, 40, .inl (fun _ => 0))), (q6, .inl (ca 0, 40, .inl (fun _ => 0))), (q7, .inl (ca 0, 1600, .inl (fun _ => 0))), (q8, .inl (ca 0, 1600, .inl (fun _ => 0))), (q9, .inl (ca 0, 4000, .inl (fun _ => 0)))]) rfl ?_
  refine cw_aload_n hC dX11_init_91 rfl 0 rfl ?_
  refine cw_bipush (v := 40) hC dX11_init_92 (by decide) ?_
  refine cw_newa (atype := .int) (ty := .int) (N := 40) (a0 := (40, .inl (fun _ => 0))) hC 0 ka_int rfl rfl (fun _ _ h => h) (fun _ => rfl) (by decide) (by decide) (by decide) (by rw [hR]; exact ⟨Nat.le_of_ble_eq_true rfl, Nat.le_of_ble_eq_true rfl⟩) dX11_init_94 (fun q10 => ?_)
  refine cw_eq (ws' := (h0, .inr (11, [.ref q1, .ref q2, .ref q3, .int 0, .int (-1), .int (-1), .ref q4, .ref q5, .ref q6, .ref q7, .ref q8, .ref q9, .int 0, .int 0, .int 0, .int 0, .int 0, .int 0, .int 0, .int 0, .int 0, .null, .null, .int 0, .null, .null, .int 0, .int 0, .null, .null, .int 0, .null, .null, .null, .null, .int 0, .null, .null, .null, .int 0, .int 0, .null])) :: [(q1, .inl (ca 0, 170, .inl (fun _ => 0))), (q2, .inl (ca 0, 170, .inl (fun _ => 0))), (q3, .inl (ca 6, 300, .inl (fun _ => 0))), (q4, .inl (ca 0, 4, .inl (fun _ => 0))), (q5, .inl (ca 0, 40, .inl (fun _ => 0))), (q6, .inl (ca 0, 40, .inl (fun _ => 0))), (q7, .inl (ca 0, 1600, .inl (fun _ => 0))), (q8, .inl (ca 0, 1600, .inl (fun _ => 0))), (q9, .inl (ca 0, 4000, .inl (fun _ => 0))), (q10, .inl (ca 0, 40, .inl (fun _ => 0)))]) rfl ?_
  refine cw_putF hC cl_X11 ff_X11_45 rfl rfl rfl (Nat.le_of_ble_eq_true rfl) dX11_init_96 ?_
  refine cw_eq (ws' := (h0, .inr (11, [.ref q1, .ref q2, .ref q3, .int 0, .int (-1), .int (-1), .ref q4, .ref q5, .ref q6, .ref q7, .ref q8, .ref q9, .int 0, .int 0, .int 0, .int 0, .int 0, .int 0, .int 0, .int 0, .int 0, .ref q10, .null, .int 0, .null, .null, .int 0, .int 0, .null, .null, .int 0, .null, .null, .null, .null, .int 0, .null, .null, .null, .int 0, .int 0, .null])) :: [(q1, .inl (ca 0, 170, .inl (fun _ => 0))), (q2, .inl (ca 0, 170, .inl (fun _ => 0))), (q3, .inl (ca 6, 300, .inl (fun _ => 0))), (q4, .inl (ca 0, 4, .inl (fun _ => 0))), (q5, .inl (ca 0, 40, .inl (fun _ => 0))), (q6, .inl (ca 0, 40, .inl (fun _ => 0))), (q7, .inl (ca 0, 1600, .inl (fun _ => 0))), (q8, .inl (ca 0, 1600, .inl (fun _ => 0))), (q9, .inl (ca 0, 4000, .inl (fun _ => 0))), (q10, .inl (ca 0, 40, .inl (fun _ => 0)))]) rfl ?_
  refine cw_aload_n hC dX11_init_99 rfl 0 rfl ?_
  refine cw_bipush (v := 41) hC dX11_init_100 (by decide) ?_
  refine cw_newa (atype := .int) (ty := .int) (N := 41) (a0 := (41, .inl (fun _ => 0))) hC 0 ka_int rfl rfl (fun _ _ h => h) (fun _ => rfl) (by decide) (by decide) (by decide) (by rw [hR]; exact ⟨Nat.le_of_ble_eq_true rfl, Nat.le_of_ble_eq_true rfl⟩) dX11_init_102 (fun q11 => ?_)
  refine cw_eq (ws' := (h0, .inr (11, [.ref q1, .ref q2, .ref q3, .int 0, .int (-1), .int (-1), .ref q4, .ref q5, .ref q6, .ref q7, .ref q8, .ref q9, .int 0, .int 0, .int 0, .int 0, .int 0, .int 0, .int 0, .int 0, .int 0, .ref q10, .null, .int 0, .null, .null, .int 0, .int 0, .null, .null, .int 0, .null, .null, .null, .null, .int 0, .null, .null, .null, .int 0, .int 0, .null])) :: [(q1, .inl (ca 0, 170, .inl (fun _ => 0))), (q2, .inl (ca 0, 170, .inl (fun _ => 0))), (q3, .inl (ca 6, 300, .inl (fun _ => 0))), (q4, .inl (ca 0, 4, .inl (fun _ => 0))), (q5, .inl (ca 0, 40, .inl (fun _ => 0))), (q6, .inl (ca 0, 40, .inl (fun _ => 0))), (q7, .inl (ca 0, 1600, .inl (fun _ => 0))), (q8, .inl (ca 0, 1600, .inl (fun _ => 0))), (q9, .inl (ca 0, 4000, .inl (fun _ => 0))), (q10, .inl (ca 0, 40, .inl (fun _ => 0))), (q11, .inl (ca 0, 41, .inl (fun _ => 0)))]) rfl ?_
  refine cw_putF hC cl_X11 ff_X11_48 rfl rfl rfl (Nat.le_of_ble_eq_true rfl) dX11_init_104 ?_
  refine cw_eq (ws' := (h0, .inr (11, [.ref q1, .ref q2, .ref q3, .int 0, .int (-1), .int (-1), .ref q4, .ref q5, .ref q6, .ref q7, .ref q8, .ref q9, .int 0, .int 0, .int 0, .int 0, .int 0, .int 0, .int 0, .int 0, .int 0, .ref q10, .ref q11, .int 0, .null, .null, .int 0, .int 0, .null, .null, .int 0, .null, .null, .null, .null, .int 0, .null, .null, .null, .int 0, .int 0, .null])) :: [(q1, .inl (ca 0, 170, .inl (fun _ => 0))), (q2, .inl (ca 0, 170, .inl (fun _ => 0))), (q3, .inl (ca 6, 300, .inl (fun _ => 0))), (q4, .inl (ca 0, 4, .inl (fun _ => 0))), (q5, .inl (ca 0, 40, .inl (fun _ => 0))), (q6, .inl (ca 0, 40, .inl (fun _ => 0))), (q7, .inl (ca 0, 1600, .inl (fun _ => 0))), (q8, .inl (ca 0, 1600, .inl (fun _ => 0))), (q9, .inl (ca 0, 4000, .inl (fun _ => 0))), (q10, .inl (ca 0, 40, .inl (fun _ => 0))), (q11, .inl (ca 0, 41, .inl (fun _ => 0)))]) rfl ?_
  refine cw_aload_n hC dX11_init_107 rfl 0 rfl ?_
  refine cw_bipush (v := 80) hC dX11_init_108 (by decide) ?_
  refine cw_newa (atype := .int) (ty := .int) (N := 80) (a0 := (80, .inl (fun _ => 0))) hC 0 ka_int rfl rfl (fun _ _ h => h) (fun _ => rfl) (by decide) (by decide) (by decide) (by rw [hR]; exact ⟨Nat.le_of_ble_eq_true rfl, Nat.le_of_ble_eq_true rfl⟩) dX11_init_110 (fun q12 => ?_)
  refine cw_eq (ws' := (h0, .inr (11, [.ref q1, .ref q2, .ref q3, .int 0, .int (-1), .int (-1), .ref q4, .ref q5, .ref q6, .ref q7, .ref q8, .ref q9, .int 0, .int 0, .int 0, .int 0, .int 0, .int 0, .int 0, .int 0, .int 0, .ref q10, .ref q11, .int 0, .null, .null, .int 0, .int 0, .null, .null, .int 0, .null, .null, .null, .null, .int 0, .null, .null, .null, .int 0, .int 0, .null])) :: [(q1, .inl (ca 0, 170, .inl (fun _ => 0))), (q2, .inl (ca 0, 170, .inl (fun _ => 0))), (q3, .inl (ca 6, 300, .inl (fun _ => 0))), (q4, .inl (ca 0, 4, .inl (fun _ => 0))), (q5, .inl (ca 0, 40, .inl (fun _ => 0))), (q6, .inl (ca 0, 40, .inl (fun _ => 0))), (q7, .inl (ca 0, 1600, .inl (fun _ => 0))), (q8, .inl (ca 0, 1600, .inl (fun _ => 0))), (q9, .inl (ca 0, 4000, .inl (fun _ => 0))), (q10, .inl (ca 0, 40, .inl (fun _ => 0))), (q11, .inl (ca 0, 41, .inl (fun _ => 0))), (q12, .inl (ca 0, 80, .inl (fun _ => 0)))]) rfl ?_
  refine cw_putF hC cl_X11 ff_X11_51 rfl rfl rfl (Nat.le_of_ble_eq_true rfl) dX11_init_112 ?_
  refine cw_eq (ws' := (h0, .inr (11, [.ref q1, .ref q2, .ref q3, .int 0, .int (-1), .int (-1), .ref q4, .ref q5, .ref q6, .ref q7, .ref q8, .ref q9, .int 0, .int 0, .int 0, .int 0, .int 0, .int 0, .int 0, .int 0, .int 0, .ref q10, .ref q11, .int 0, .ref q12, .null, .int 0, .int 0, .null, .null, .int 0, .null, .null, .null, .null, .int 0, .null, .null, .null, .int 0, .int 0, .null])) :: [(q1, .inl (ca 0, 170, .inl (fun _ => 0))), (q2, .inl (ca 0, 170, .inl (fun _ => 0))), (q3, .inl (ca 6, 300, .inl (fun _ => 0))), (q4, .inl (ca 0, 4, .inl (fun _ => 0))), (q5, .inl (ca 0, 40, .inl (fun _ => 0))), (q6, .inl (ca 0, 40, .inl (fun _ => 0))), (q7, .inl (ca 0, 1600, .inl (fun _ => 0))), (q8, .inl (ca 0, 1600, .inl (fun _ => 0))), (q9, .inl (ca 0, 4000, .inl (fun _ => 0))), (q10, .inl (ca 0, 40, .inl (fun _ => 0))), (q11, .inl (ca 0, 41, .inl (fun _ => 0))), (q12, .inl (ca 0, 80, .inl (fun _ => 0)))]) rfl ?_
  refine cw_aload_n hC dX11_init_115 rfl 0 rfl ?_
  refine cw_bipush (v := 80) hC dX11_init_116 (by decide) ?_
  refine cw_newa (atype := .int) (ty := .int) (N := 80) (a0 := (80, .inl (fun _ => 0))) hC 0 ka_int rfl rfl (fun _ _ h => h) (fun _ => rfl) (by decide) (by decide) (by decide) (by rw [hR]; exact ⟨Nat.le_of_ble_eq_true rfl, Nat.le_of_ble_eq_true rfl⟩) dX11_init_118 (fun q13 => ?_)
  refine cw_eq (ws' := (h0, .inr (11, [.ref q1, .ref q2, .ref q3, .int 0, .int (-1), .int (-1), .ref q4, .ref q5, .ref q6, .ref q7, .ref q8, .ref q9, .int 0, .int 0, .int 0, .int 0, .int 0, .int 0, .int 0, .int 0, .int 0, .ref q10, .ref q11, .int 0, .ref q12, .null, .int 0, .int 0, .null, .null, .int 0, .null, .null, .null, .null, .int 0, .null, .null, .null, .int 0, .int 0, .null])) :: [(q1, .inl (ca 0, 170, .inl (fun _ => 0))), (q2, .inl (ca 0, 170, .inl (fun _ => 0))), (q3, .inl (ca 6, 300, .inl (fun _ => 0))), (q4, .inl (ca 0, 4, .inl (fun _ => 0))), (q5, .inl (ca 0, 40, .inl (fun _ => 0))), (q6, .inl (ca 0, 40, .inl (fun _ => 0))), (q7, .inl (ca 0, 1600, .inl (fun _ => 0))), (q8, .inl (ca 0, 1600, .inl (fun _ => 0))), (q9, .inl (ca 0, 4000, .inl (fun _ => 0))), (q10, .inl (ca 0, 40, .inl (fun _ => 0))), (q11, .inl (ca 0, 41, .inl (fun _ => 0))), (q12, .inl (ca 0, 80, .inl (fun _ => 0))), (q13, .inl (ca 0, 80, .inl (fun _ => 0)))]) rfl ?_
  refine cw_putF hC cl_X11 ff_X11_54 rfl rfl rfl (Nat.le_of_ble_eq_true rfl) dX11_init_120 ?_
  refine cw_eq (ws' := (h0, .inr (11, [.ref q1, .ref q2, .ref q3, .int 0, .int (-1), .int (-1), .ref q4, .ref q5, .ref q6, .ref q7, .ref q8, .ref q9, .int 0, .int 0, .int 0, .int 0, .int 0, .int 0, .int 0, .int 0, .int 0, .ref q10, .ref q11, .int 0, .ref q12, .ref q13, .int 0, .int 0, .null, .null, .int 0, .null, .null, .null, .null, .int 0, .null, .null, .null, .int 0, .int 0, .null])) :: [(q1, .inl (ca 0, 170, .inl (fun _ => 0))), (q2, .inl (ca 0, 170, .inl (fun _ => 0))), (q3, .inl (ca 6, 300, .inl (fun _ => 0))), (q4, .inl (ca 0, 4, .inl (fun _ => 0))), (q5, .inl (ca 0, 40, .inl (fun _ => 0))), (q6, .inl (ca 0, 40, .inl (fun _ => 0))), (q7, .inl (ca 0, 1600, .inl (fun _ => 0))), (q8, .inl (ca 0, 1600, .inl (fun _ => 0))), (q9, .inl (ca 0, 4000, .inl (fun _ => 0))), (q10, .inl (ca 0, 40, .inl (fun _ => 0))), (q11, .inl (ca 0, 41, .inl (fun _ => 0))), (q12, .inl (ca 0, 80, .inl (fun _ => 0))), (q13, .inl (ca 0, 80, .inl (fun _ => 0)))]) rfl ?_
  refine cw_aload_n hC dX11_init_123 rfl 0 rfl ?_
  refine cw_bipush (v := 10) hC dX11_init_124 (by decide) ?_
  refine cw_newa (atype := .int) (ty := .int) (N := 10) (a0 := (10, .inl (fun _ => 0))) hC 0 ka_int rfl rfl (fun _ _ h => h) (fun _ => rfl) (by decide) (by decide) (by decide) (by rw [hR]; exact ⟨Nat.le_of_ble_eq_true rfl, Nat.le_of_ble_eq_true rfl⟩) dX11_init_126 (fun q14 => ?_)
  refine cw_eq (ws' := (h0, .inr (11, [.ref q1, .ref q2, .ref q3, .int 0, .int (-1), .int (-1), .ref q4, .ref q5, .ref q6, .ref q7, .ref q8, .ref q9, .int 0, .int 0, .int 0, .int 0, .int 0, .int 0, .int 0, .int 0, .int 0, .ref q10, .ref q11, .int 0, .ref q12, .ref q13, .int 0, .int 0, .null, .null, .int 0, .null, .null, .null, .null, .int 0, .null, .null, .null, .int 0, .int 0, .null])) :: [(q1, .inl (ca 0, 170, .inl (fun _ => 0))), (q2, .inl (ca 0, 170, .inl (fun _ => 0))), (q3, .inl (ca 6, 300, .inl (fun _ => 0))), (q4, .inl (ca 0, 4, .inl (fun _ => 0))), (q5, .inl (ca 0, 40, .inl (fun _ => 0))), (q6, .inl (ca 0, 40, .inl (fun _ => 0))), (q7, .inl (ca 0, 1600, .inl (fun _ => 0))), (q8, .inl (ca 0, 1600, .inl (fun _ => 0))), (q9, .inl (ca 0, 4000, .inl (fun _ => 0))), (q10, .inl (ca 0, 40, .inl (fun _ => 0))), (q11, .inl (ca 0, 41, .inl (fun _ => 0))), (q12, .inl (ca 0, 80, .inl (fun _ => 0))), (q13, .inl (ca 0, 80, .inl (fun _ => 0))), (q14, .inl (ca 0, 10, .inl (fun _ => 0)))]) rfl ?_
  refine cw_putF hC cl_X11 ff_X11_57 rfl rfl rfl (Nat.le_of_ble_eq_true rfl) dX11_init_128 ?_
  refine cw_eq (ws' := (h0, .inr (11, [.ref q1, .ref q2, .ref q3, .int 0, .int (-1), .int (-1), .ref q4, .ref q5, .ref q6, .ref q7, .ref q8, .ref q9, .int 0, .int 0, .int 0, .int 0, .int 0, .int 0, .int 0, .int 0, .int 0, .ref q10, .ref q11, .int 0, .ref q12, .ref q13, .int 0, .int 0, .ref q14, .null, .int 0, .null, .null, .null, .null, .int 0, .null, .null, .null, .int 0, .int 0, .null])) :: [(q1, .inl (ca 0, 170, .inl (fun _ => 0))), (q2, .inl (ca 0, 170, .inl (fun _ => 0))), (q3, .inl (ca 6, 300, .inl (fun _ => 0))), (q4, .inl (ca 0, 4, .inl (fun _ => 0))), (q5, .inl (ca 0, 40, .inl (fun _ => 0))), (q6, .inl (ca 0, 40, .inl (fun _ => 0))), (q7, .inl (ca 0, 1600, .inl (fun _ => 0))), (q8, .inl (ca 0, 1600, .inl (fun _ => 0))), (q9, .inl (ca 0, 4000, .inl (fun _ => 0))), (q10, .inl (ca 0, 40, .inl (fun _ => 0))), (q11, .inl (ca 0, 41, .inl (fun _ => 0))), (q12, .inl (ca 0, 80, .inl (fun _ => 0))), (q13, .inl (ca 0, 80, .inl (fun _ => 0))), (q14, .inl (ca 0, 10, .inl (fun _ => 0)))]) rfl ?_
  refine cw_aload_n hC dX11_init_131 rfl 0 rfl ?_
  refine cw_bipush (v := 10) hC dX11_init_132 (by decide) ?_
  refine cw_newa (atype := .int) (ty := .int) (N := 10) (a0 := (10, .inl (fun _ => 0))) hC 0 ka_int rfl rfl (fun _ _ h => h) (fun _ => rfl) (by decide) (by decide) (by decide) (by rw [hR]; exact ⟨Nat.le_of_ble_eq_true rfl, Nat.le_of_ble_eq_true rfl⟩) dX11_init_134 (fun q15 => ?_)
  refine cw_eq (ws' := (h0, .inr (11, [.ref q1, .ref q2, .ref q3, .int 0, .int (-1), .int (-1), .ref q4, .ref q5, .ref q6, .ref q7, .ref q8, .ref q9, .int 0, .int 0, .int 0, .int 0, .int 0, .int 0, .int 0, .int 0, .int 0, .ref q10, .ref q11, .int 0, .ref q12, .ref q13, .int 0, .int 0, .ref q14, .null, .int 0, .null, .null, .null, .null, .int 0, .null, .null, .null, .int 0, .int 0, .null])) :: [(q1, .inl (ca 0, 170, .inl (fun _ => 0))), (q2, .inl (ca 0, 170, .inl (fun _ => 0))), (q3, .inl (ca 6, 300, .inl (fun _ => 0))), (q4, .inl (ca 0, 4, .inl (fun _ => 0))), (q5, .inl (ca 0, 40, .inl (fun _ => 0))), (q6, .inl (ca 0, 40, .inl (fun _ => 0))), (q7, .inl (ca 0, 1600, .inl (fun _ => 0))), (q8, .inl (ca 0, 1600, .inl (fun _ => 0))), (q9, .inl (ca 0, 4000, .inl (fun _ => 0))), (q10, .inl (ca 0, 40, .inl (fun _ => 0))), (q11, .inl (ca 0, 41, .inl (fun _ => 0))), (q12, .inl (ca 0, 80, .inl (fun _ => 0))), (q13, .inl (ca 0, 80, .inl (fun _ => 0))), (q14, .inl (ca 0, 10, .inl (fun _ => 0))), (q15, .inl (ca 0, 10, .inl (fun _ => 0)))]) rfl ?_
  refine cw_putF hC cl_X11 ff_X11_60 rfl rfl rfl (Nat.le_of_ble_eq_true rfl) dX11_init_136 ?_
  refine cw_eq (ws' := (h0, .inr (11, [.ref q1, .ref q2, .ref q3, .int 0, .int (-1), .int (-1), .ref q4, .ref q5, .ref q6, .ref q7, .ref q8, .ref q9, .int 0, .int 0, .int 0, .int 0, .int 0, .int 0, .int 0, .int 0, .int 0, .ref q10, .ref q11, .int 0, .ref q12, .ref q13, .int 0, .int 0, .ref q14, .ref q15, .int 0, .null, .null, .null, .null, .int 0, .null, .null, .null, .int 0, .int 0, .null])) :: [(q1, .inl (ca 0, 170, .inl (fun _ => 0))), (q2, .inl (ca 0, 170, .inl (fun _ => 0))), (q3, .inl (ca 6, 300, .inl (fun _ => 0))), (q4, .inl (ca 0, 4, .inl (fun _ => 0))), (q5, .inl (ca 0, 40, .inl (fun _ => 0))), (q6, .inl (ca 0, 40, .inl (fun _ => 0))), (q7, .inl (ca 0, 1600, .inl (fun _ => 0))), (q8, .inl (ca 0, 1600, .inl (fun _ => 0))), (q9, .inl (ca 0, 4000, .inl (fun _ => 0))), (q10, .inl (ca 0, 40, .inl (fun _ => 0))), (q11, .inl (ca 0, 41, .inl (fun _ => 0))), (q12, .inl (ca 0, 80, .inl (fun _ => 0))), (q13, .inl (ca 0, 80, .inl (fun _ => 0))), (q14, .inl (ca 0, 10, .inl (fun _ => 0))), (q15, .inl (ca 0, 10, .inl (fun _ => 0)))]) rfl ?_
  refine cw_aload_n hC dX11_init_139 rfl 0 rfl ?_
  refine cw_sipush (v := 400) hC dX11_init_140 (by decide) ?_
  refine cw_newa (atype := .int) (ty := .int) (N := 400) (a0 := (400, .inl (fun _ => 0))) hC 0 ka_int rfl rfl (fun _ _ h => h) (fun _ => rfl) (by decide) (by decide) (by decide) (by rw [hR]; exact ⟨Nat.le_of_ble_eq_true rfl, Nat.le_of_ble_eq_true rfl⟩) dX11_init_143 (fun q16 => ?_)
  refine cw_eq (ws' := (h0, .inr (11, [.ref q1, .ref q2, .ref q3, .int 0, .int (-1), .int (-1), .ref q4, .ref q5, .ref q6, .ref q7, .ref q8, .ref q9, .int 0, .int 0, .int 0, .int 0, .int 0, .int 0, .int 0, .int 0, .int 0, .ref q10, .ref q11, .int 0, .ref q12, .ref q13, .int 0, .int 0, .ref q14, .ref q15, .int 0, .null, .null, .null, .null, .int 0, .null, .null, .null, .int 0, .int 0, .null])) :: [(q1, .inl (ca 0, 170, .inl (fun _ => 0))), (q2, .inl (ca 0, 170, .inl (fun _ => 0))), (q3, .inl (ca 6, 300, .inl (fun _ => 0))), (q4, .inl (ca 0, 4, .inl (fun _ => 0))), (q5, .inl (ca 0, 40, .inl (fun _ => 0))), (q6, .inl (ca 0, 40, .inl (fun _ => 0))), (q7, .inl (ca 0, 1600, .inl (fun _ => 0))), (q8, .inl (ca 0, 1600, .inl (fun _ => 0))), (q9, .inl (ca 0, 4000, .inl (fun _ => 0))), (q10, .inl (ca 0, 40, .inl (fun _ => 0))), (q11, .inl (ca 0, 41, .inl (fun _ => 0))), (q12, .inl (ca 0, 80, .inl (fun _ => 0))), (q13, .inl (ca 0, 80, .inl (fun _ => 0))), (q14, .inl (ca 0, 10, .inl (fun _ => 0))), (q15, .inl (ca 0, 10, .inl (fun _ => 0))), (q16, .inl (ca 0, 400, .inl (fun _ => 0)))]) rfl ?_
  refine cw_putF hC cl_X11 ff_X11_63 rfl rfl rfl (Nat.le_of_ble_eq_true rfl) dX11_init_145 ?_
  refine cw_eq (ws' := (h0, .inr (11, [.ref q1, .ref q2, .ref q3, .int 0, .int (-1), .int (-1), .ref q4, .ref q5, .ref q6, .ref q7, .ref q8, .ref q9, .int 0, .int 0, .int 0, .int 0, .int 0, .int 0, .int 0, .int 0, .int 0, .ref q10, .ref q11, .int 0, .ref q12, .ref q13, .int 0, .int 0, .ref q14, .ref q15, .int 0, .ref q16, .null, .null, .null, .int 0, .null, .null, .null, .int 0, .int 0, .null])) :: [(q1, .inl (ca 0, 170, .inl (fun _ => 0))), (q2, .inl (ca 0, 170, .inl (fun _ => 0))), (q3, .inl (ca 6, 300, .inl (fun _ => 0))), (q4, .inl (ca 0, 4, .inl (fun _ => 0))), (q5, .inl (ca 0, 40, .inl (fun _ => 0))), (q6, .inl (ca 0, 40, .inl (fun _ => 0))), (q7, .inl (ca 0, 1600, .inl (fun _ => 0))), (q8, .inl (ca 0, 1600, .inl (fun _ => 0))), (q9, .inl (ca 0, 4000, .inl (fun _ => 0))), (q10, .inl (ca 0, 40, .inl (fun _ => 0))), (q11, .inl (ca 0, 41, .inl (fun _ => 0))), (q12, .inl (ca 0, 80, .inl (fun _ => 0))), (q13, .inl (ca 0, 80, .inl (fun _ => 0))), (q14, .inl (ca 0, 10, .inl (fun _ => 0))), (q15, .inl (ca 0, 10, .inl (fun _ => 0))), (q16, .inl (ca 0, 400, .inl (fun _ => 0)))]) rfl ?_
  refine cw_aload_n hC dX11_init_148 rfl 0 rfl ?_
  refine cw_sipush (v := 400) hC dX11_init_149 (by decide) ?_
  refine cw_newa (atype := .int) (ty := .int) (N := 400) (a0 := (400, .inl (fun _ => 0))) hC 0 ka_int rfl rfl (fun _ _ h => h) (fun _ => rfl) (by decide) (by decide) (by decide) (by rw [hR]; exact ⟨Nat.le_of_ble_eq_true rfl, Nat.le_of_ble_eq_true rfl⟩) dX11_init_152 (fun q17 => ?_)
  refine cw_eq (ws' := (h0, .inr (11, [.ref q1, .ref q2, .ref q3, .int 0, .int (-1), .int (-1), .ref q4, .ref q5, .ref q6, .ref q7, .ref q8, .ref q9, .int 0, .int 0, .int 0, .int 0, .int 0, .int 0, .int 0, .int 0, .int 0, .ref q10, .ref q11, .int 0, .ref q12, .ref q13, .int 0, .int 0, .ref q14, .ref q15, .int 0, .ref q16, .null, .null, .null, .int 0, .null, .null, .null, .int 0, .int 0, .null])) :: [(q1, .inl (ca 0, 170, .inl (fun _ => 0))), (q2, .inl (ca 0, 170, .inl (fun _ => 0))), (q3, .inl (ca 6, 300, .inl (fun _ => 0))), (q4, .inl (ca 0, 4, .inl (fun _ => 0))), (q5, .inl (ca 0, 40, .inl (fun _ => 0))), (q6, .inl (ca 0, 40, .inl (fun _ => 0))), (q7, .inl (ca 0, 1600, .inl (fun _ => 0))), (q8, .inl (ca 0, 1600, .inl (fun _ => 0))), (q9, .inl (ca 0, 4000, .inl (fun _ => 0))), (q10, .inl (ca 0, 40, .inl (fun _ => 0))), (q11, .inl (ca 0, 41, .inl (fun _ => 0))), (q12, .inl (ca 0, 80, .inl (fun _ => 0))), (q13, .inl (ca 0, 80, .inl (fun _ => 0))), (q14, .inl (ca 0, 10, .inl (fun _ => 0))), (q15, .inl (ca 0, 10, .inl (fun _ => 0))), (q16, .inl (ca 0, 400, .inl (fun _ => 0))), (q17, .inl (ca 0, 400, .inl (fun _ => 0)))]) rfl ?_
  refine cw_putF hC cl_X11 ff_X11_66 rfl rfl rfl (Nat.le_of_ble_eq_true rfl) dX11_init_154 ?_
  refine cw_eq (ws' := (h0, .inr (11, [.ref q1, .ref q2, .ref q3, .int 0, .int (-1), .int (-1), .ref q4, .ref q5, .ref q6, .ref q7, .ref q8, .ref q9, .int 0, .int 0, .int 0, .int 0, .int 0, .int 0, .int 0, .int 0, .int 0, .ref q10, .ref q11, .int 0, .ref q12, .ref q13, .int 0, .int 0, .ref q14, .ref q15, .int 0, .ref q16, .ref q17, .null, .null, .int 0, .null, .null, .null, .int 0, .int 0, .null])) :: [(q1, .inl (ca 0, 170, .inl (fun _ => 0))), (q2, .inl (ca 0, 170, .inl (fun _ => 0))), (q3, .inl (ca 6, 300, .inl (fun _ => 0))), (q4, .inl (ca 0, 4, .inl (fun _ => 0))), (q5, .inl (ca 0, 40, .inl (fun _ => 0))), (q6, .inl (ca 0, 40, .inl (fun _ => 0))), (q7, .inl (ca 0, 1600, .inl (fun _ => 0))), (q8, .inl (ca 0, 1600, .inl (fun _ => 0))), (q9, .inl (ca 0, 4000, .inl (fun _ => 0))), (q10, .inl (ca 0, 40, .inl (fun _ => 0))), (q11, .inl (ca 0, 41, .inl (fun _ => 0))), (q12, .inl (ca 0, 80, .inl (fun _ => 0))), (q13, .inl (ca 0, 80, .inl (fun _ => 0))), (q14, .inl (ca 0, 10, .inl (fun _ => 0))), (q15, .inl (ca 0, 10, .inl (fun _ => 0))), (q16, .inl (ca 0, 400, .inl (fun _ => 0))), (q17, .inl (ca 0, 400, .inl (fun _ => 0)))]) rfl ?_
  refine cw_aload_n hC dX11_init_157 rfl 0 rfl ?_
  refine cw_bipush (v := 7) hC dX11_init_158 (by decide) ?_
  refine cw_newa (atype := .int) (ty := .int) (N := 7) (a0 := (7, .inl (fun _ => 0))) hC 0 ka_int rfl rfl (fun _ _ h => h) (fun _ => rfl) (by decide) (by decide) (by decide) (by rw [hR]; exact ⟨Nat.le_of_ble_eq_true rfl, Nat.le_of_ble_eq_true rfl⟩) dX11_init_160 (fun q18 => ?_)
  refine cw_eq (ws' := (h0, .inr (11, [.ref q1, .ref q2, .ref q3, .int 0, .int (-1), .int (-1), .ref q4, .ref q5, .ref q6, .ref q7, .ref q8, .ref q9, .int 0, .int 0, .int 0, .int 0, .int 0, .int 0, .int 0, .int 0, .int 0, .ref q10, .ref q11, .int 0, .ref q12, .ref q13, .int 0, .int 0, .ref q14, .ref q15, .int 0, .ref q16, .ref q17, .null, .null, .int 0, .null, .null, .null, .int 0, .int 0, .null])) :: [(q1, .inl (ca 0, 170, .inl (fun _ => 0))), (q2, .inl (ca 0, 170, .inl (fun _ => 0))), (q3, .inl (ca 6, 300, .inl (fun _ => 0))), (q4, .inl (ca 0, 4, .inl (fun _ => 0))), (q5, .inl (ca 0, 40, .inl (fun _ => 0))), (q6, .inl (ca 0, 40, .inl (fun _ => 0))), (q7, .inl (ca 0, 1600, .inl (fun _ => 0))), (q8, .inl (ca 0, 1600, .inl (fun _ => 0))), (q9, .inl (ca 0, 4000, .inl (fun _ => 0))), (q10, .inl (ca 0, 40, .inl (fun _ => 0))), (q11, .inl (ca 0, 41, .inl (fun _ => 0))), (q12, .inl (ca 0, 80, .inl (fun _ => 0))), (q13, .inl (ca 0, 80, .inl (fun _ => 0))), (q14, .inl (ca 0, 10, .inl (fun _ => 0))), (q15, .inl (ca 0, 10, .inl (fun _ => 0))), (q16, .inl (ca 0, 400, .inl (fun _ => 0))), (q17, .inl (ca 0, 400, .inl (fun _ => 0))), (q18, .inl (ca 0, 7, .inl (fun _ => 0)))]) rfl ?_
  refine cw_putF hC cl_X11 ff_X11_69 rfl rfl rfl (Nat.le_of_ble_eq_true rfl) dX11_init_162 ?_
  refine cw_eq (ws' := (h0, .inr (11, [.ref q1, .ref q2, .ref q3, .int 0, .int (-1), .int (-1), .ref q4, .ref q5, .ref q6, .ref q7, .ref q8, .ref q9, .int 0, .int 0, .int 0, .int 0, .int 0, .int 0, .int 0, .int 0, .int 0, .ref q10, .ref q11, .int 0, .ref q12, .ref q13, .int 0, .int 0, .ref q14, .ref q15, .int 0, .ref q16, .ref q17, .ref q18, .null, .int 0, .null, .null, .null, .int 0, .int 0, .null])) :: [(q1, .inl (ca 0, 170, .inl (fun _ => 0))), (q2, .inl (ca 0, 170, .inl (fun _ => 0))), (q3, .inl (ca 6, 300, .inl (fun _ => 0))), (q4, .inl (ca 0, 4, .inl (fun _ => 0))), (q5, .inl (ca 0, 40, .inl (fun _ => 0))), (q6, .inl (ca 0, 40, .inl (fun _ => 0))), (q7, .inl (ca 0, 1600, .inl (fun _ => 0))), (q8, .inl (ca 0, 1600, .inl (fun _ => 0))), (q9, .inl (ca 0, 4000, .inl (fun _ => 0))), (q10, .inl (ca 0, 40, .inl (fun _ => 0))), (q11, .inl (ca 0, 41, .inl (fun _ => 0))), (q12, .inl (ca 0, 80, .inl (fun _ => 0))), (q13, .inl (ca 0, 80, .inl (fun _ => 0))), (q14, .inl (ca 0, 10, .inl (fun _ => 0))), (q15, .inl (ca 0, 10, .inl (fun _ => 0))), (q16, .inl (ca 0, 400, .inl (fun _ => 0))), (q17, .inl (ca 0, 400, .inl (fun _ => 0))), (q18, .inl (ca 0, 7, .inl (fun _ => 0)))]) rfl ?_
  refine cw_aload_n hC dX11_init_165 rfl 0 rfl ?_
  refine cw_sipush (v := 200) hC dX11_init_166 (by decide) ?_
  refine cw_newa (atype := .long) (ty := .long) (N := 200) (a0 := (200, .inr (.inl (gx_rl (fun _ => 0))))) hC 8 ka_long rfl rfl (fun _ _ h => h) (fun _ => by rw [gx_rl0]; rfl) (by decide) (by decide) (by decide) (by rw [hR]; exact ⟨Nat.le_of_ble_eq_true rfl, Nat.le_of_ble_eq_true rfl⟩) dX11_init_169 (fun q19 => ?_)
  refine cw_eq (ws' := (h0, .inr (11, [.ref q1, .ref q2, .ref q3, .int 0, .int (-1), .int (-1), .ref q4, .ref q5, .ref q6, .ref q7, .ref q8, .ref q9, .int 0, .int 0, .int 0, .int 0, .int 0, .int 0, .int 0, .int 0, .int 0, .ref q10, .ref q11, .int 0, .ref q12, .ref q13, .int 0, .int 0, .ref q14, .ref q15, .int 0, .ref q16, .ref q17, .ref q18, .null, .int 0, .null, .null, .null, .int 0, .int 0, .null])) :: [(q1, .inl (ca 0, 170, .inl (fun _ => 0))), (q2, .inl (ca 0, 170, .inl (fun _ => 0))), (q3, .inl (ca 6, 300, .inl (fun _ => 0))), (q4, .inl (ca 0, 4, .inl (fun _ => 0))), (q5, .inl (ca 0, 40, .inl (fun _ => 0))), (q6, .inl (ca 0, 40, .inl (fun _ => 0))), (q7, .inl (ca 0, 1600, .inl (fun _ => 0))), (q8, .inl (ca 0, 1600, .inl (fun _ => 0))), (q9, .inl (ca 0, 4000, .inl (fun _ => 0))), (q10, .inl (ca 0, 40, .inl (fun _ => 0))), (q11, .inl (ca 0, 41, .inl (fun _ => 0))), (q12, .inl (ca 0, 80, .inl (fun _ => 0))), (q13, .inl (ca 0, 80, .inl (fun _ => 0))), (q14, .inl (ca 0, 10, .inl (fun _ => 0))), (q15, .inl (ca 0, 10, .inl (fun _ => 0))), (q16, .inl (ca 0, 400, .inl (fun _ => 0))), (q17, .inl (ca 0, 400, .inl (fun _ => 0))), (q18, .inl (ca 0, 7, .inl (fun _ => 0))), (q19, .inl (ca 8, 200, .inr (.inl (gx_rl (fun _ => 0)))))]) rfl ?_
  refine cw_putF hC cl_X11 ff_X11_72 rfl rfl rfl (Nat.le_of_ble_eq_true rfl) dX11_init_171 ?_
  refine cw_eq (ws' := (h0, .inr (11, [.ref q1, .ref q2, .ref q3, .int 0, .int (-1), .int (-1), .ref q4, .ref q5, .ref q6, .ref q7, .ref q8, .ref q9, .int 0, .int 0, .int 0, .int 0, .int 0, .int 0, .int 0, .int 0, .int 0, .ref q10, .ref q11, .int 0, .ref q12, .ref q13, .int 0, .int 0, .ref q14, .ref q15, .int 0, .ref q16, .ref q17, .ref q18, .ref q19, .int 0, .null, .null, .null, .int 0, .int 0, .null])) :: [(q1, .inl (ca 0, 170, .inl (fun _ => 0))), (q2, .inl (ca 0, 170, .inl (fun _ => 0))), (q3, .inl (ca 6, 300, .inl (fun _ => 0))), (q4, .inl (ca 0, 4, .inl (fun _ => 0))), (q5, .inl (ca 0, 40, .inl (fun _ => 0))), (q6, .inl (ca 0, 40, .inl (fun _ => 0))), (q7, .inl (ca 0, 1600, .inl (fun _ => 0))), (q8, .inl (ca 0, 1600, .inl (fun _ => 0))), (q9, .inl (ca 0, 4000, .inl (fun _ => 0))), (q10, .inl (ca 0, 40, .inl (fun _ => 0))), (q11, .inl (ca 0, 41, .inl (fun _ => 0))), (q12, .inl (ca 0, 80, .inl (fun _ => 0))), (q13, .inl (ca 0, 80, .inl (fun _ => 0))), (q14, .inl (ca 0, 10, .inl (fun _ => 0))), (q15, .inl (ca 0, 10, .inl (fun _ => 0))), (q16, .inl (ca 0, 400, .inl (fun _ => 0))), (q17, .inl (ca 0, 400, .inl (fun _ => 0))), (q18, .inl (ca 0, 7, .inl (fun _ => 0))), (q19, .inl (ca 8, 200, .inr (.inl (gx_rl (fun _ => 0)))))]) rfl ?_
  refine cw_aload_n hC dX11_init_174 rfl 0 rfl ?_
  refine cw_bipush (v := 120) hC dX11_init_175 (by decide) ?_
  refine cw_newa (atype := .int) (ty := .int) (N := 120) (a0 := (120, .inl (fun _ => 0))) hC 0 ka_int rfl rfl (fun _ _ h => h) (fun _ => rfl) (by decide) (by decide) (by decide) (by rw [hR]; exact ⟨Nat.le_of_ble_eq_true rfl, Nat.le_of_ble_eq_true rfl⟩) dX11_init_177 (fun q20 => ?_)
  refine cw_eq (ws' := (h0, .inr (11, [.ref q1, .ref q2, .ref q3, .int 0, .int (-1), .int (-1), .ref q4, .ref q5, .ref q6, .ref q7, .ref q8, .ref q9, .int 0, .int 0, .int 0, .int 0, .int 0, .int 0, .int 0, .int 0, .int 0, .ref q10, .ref q11, .int 0, .ref q12, .ref q13, .int 0, .int 0, .ref q14, .ref q15, .int 0, .ref q16, .ref q17, .ref q18, .ref q19, .int 0, .null, .null, .null, .int 0, .int 0, .null])) :: [(q1, .inl (ca 0, 170, .inl (fun _ => 0))), (q2, .inl (ca 0, 170, .inl (fun _ => 0))), (q3, .inl (ca 6, 300, .inl (fun _ => 0))), (q4, .inl (ca 0, 4, .inl (fun _ => 0))), (q5, .inl (ca 0, 40, .inl (fun _ => 0))), (q6, .inl (ca 0, 40, .inl (fun _ => 0))), (q7, .inl (ca 0, 1600, .inl (fun _ => 0))), (q8, .inl (ca 0, 1600, .inl (fun _ => 0))), (q9, .inl (ca 0, 4000, .inl (fun _ => 0))), (q10, .inl (ca 0, 40, .inl (fun _ => 0))), (q11, .inl (ca 0, 41, .inl (fun _ => 0))), (q12, .inl (ca 0, 80, .inl (fun _ => 0))), (q13, .inl (ca 0, 80, .inl (fun _ => 0))), (q14, .inl (ca 0, 10, .inl (fun _ => 0))), (q15, .inl (ca 0, 10, .inl (fun _ => 0))), (q16, .inl (ca 0, 400, .inl (fun _ => 0))), (q17, .inl (ca 0, 400, .inl (fun _ => 0))), (q18, .inl (ca 0, 7, .inl (fun _ => 0))), (q19, .inl (ca 8, 200, .inr (.inl (gx_rl (fun _ => 0))))), (q20, .inl (ca 0, 120, .inl (fun _ => 0)))]) rfl ?_
  refine cw_putF hC cl_X11 ff_X11_76 rfl rfl rfl (Nat.le_of_ble_eq_true rfl) dX11_init_179 ?_
  refine cw_eq (ws' := (h0, .inr (11, [.ref q1, .ref q2, .ref q3, .int 0, .int (-1), .int (-1), .ref q4, .ref q5, .ref q6, .ref q7, .ref q8, .ref q9, .int 0, .int 0, .int 0, .int 0, .int 0, .int 0, .int 0, .int 0, .int 0, .ref q10, .ref q11, .int 0, .ref q12, .ref q13, .int 0, .int 0, .ref q14, .ref q15, .int 0, .ref q16, .ref q17, .ref q18, .ref q19, .int 0, .ref q20, .null, .null, .int 0, .int 0, .null])) :: [(q1, .inl (ca 0, 170, .inl (fun _ => 0))), (q2, .inl (ca 0, 170, .inl (fun _ => 0))), (q3, .inl (ca 6, 300, .inl (fun _ => 0))), (q4, .inl (ca 0, 4, .inl (fun _ => 0))), (q5, .inl (ca 0, 40, .inl (fun _ => 0))), (q6, .inl (ca 0, 40, .inl (fun _ => 0))), (q7, .inl (ca 0, 1600, .inl (fun _ => 0))), (q8, .inl (ca 0, 1600, .inl (fun _ => 0))), (q9, .inl (ca 0, 4000, .inl (fun _ => 0))), (q10, .inl (ca 0, 40, .inl (fun _ => 0))), (q11, .inl (ca 0, 41, .inl (fun _ => 0))), (q12, .inl (ca 0, 80, .inl (fun _ => 0))), (q13, .inl (ca 0, 80, .inl (fun _ => 0))), (q14, .inl (ca 0, 10, .inl (fun _ => 0))), (q15, .inl (ca 0, 10, .inl (fun _ => 0))), (q16, .inl (ca 0, 400, .inl (fun _ => 0))), (q17, .inl (ca 0, 400, .inl (fun _ => 0))), (q18, .inl (ca 0, 7, .inl (fun _ => 0))), (q19, .inl (ca 8, 200, .inr (.inl (gx_rl (fun _ => 0))))), (q20, .inl (ca 0, 120, .inl (fun _ => 0)))]) rfl ?_
  refine cw_aload_n hC dX11_init_182 rfl 0 rfl ?_
  refine cw_sipush (v := 320) hC dX11_init_183 (by decide) ?_
  refine cw_newa (atype := .int) (ty := .int) (N := 320) (a0 := (320, .inl (fun _ => 0))) hC 0 ka_int rfl rfl (fun _ _ h => h) (fun _ => rfl) (by decide) (by decide) (by decide) (by rw [hR]; exact ⟨Nat.le_of_ble_eq_true rfl, Nat.le_of_ble_eq_true rfl⟩) dX11_init_186 (fun q21 => ?_)
  refine cw_eq (ws' := (h0, .inr (11, [.ref q1, .ref q2, .ref q3, .int 0, .int (-1), .int (-1), .ref q4, .ref q5, .ref q6, .ref q7, .ref q8, .ref q9, .int 0, .int 0, .int 0, .int 0, .int 0, .int 0, .int 0, .int 0, .int 0, .ref q10, .ref q11, .int 0, .ref q12, .ref q13, .int 0, .int 0, .ref q14, .ref q15, .int 0, .ref q16, .ref q17, .ref q18, .ref q19, .int 0, .ref q20, .null, .null, .int 0, .int 0, .null])) :: [(q1, .inl (ca 0, 170, .inl (fun _ => 0))), (q2, .inl (ca 0, 170, .inl (fun _ => 0))), (q3, .inl (ca 6, 300, .inl (fun _ => 0))), (q4, .inl (ca 0, 4, .inl (fun _ => 0))), (q5, .inl (ca 0, 40, .inl (fun _ => 0))), (q6, .inl (ca 0, 40, .inl (fun _ => 0))), (q7, .inl (ca 0, 1600, .inl (fun _ => 0))), (q8, .inl (ca 0, 1600, .inl (fun _ => 0))), (q9, .inl (ca 0, 4000, .inl (fun _ => 0))), (q10, .inl (ca 0, 40, .inl (fun _ => 0))), (q11, .inl (ca 0, 41, .inl (fun _ => 0))), (q12, .inl (ca 0, 80, .inl (fun _ => 0))), (q13, .inl (ca 0, 80, .inl (fun _ => 0))), (q14, .inl (ca 0, 10, .inl (fun _ => 0))), (q15, .inl (ca 0, 10, .inl (fun _ => 0))), (q16, .inl (ca 0, 400, .inl (fun _ => 0))), (q17, .inl (ca 0, 400, .inl (fun _ => 0))), (q18, .inl (ca 0, 7, .inl (fun _ => 0))), (q19, .inl (ca 8, 200, .inr (.inl (gx_rl (fun _ => 0))))), (q20, .inl (ca 0, 120, .inl (fun _ => 0))), (q21, .inl (ca 0, 320, .inl (fun _ => 0)))]) rfl ?_
  refine cw_putF hC cl_X11 ff_X11_79 rfl rfl rfl (Nat.le_of_ble_eq_true rfl) dX11_init_188 ?_
  refine cw_eq (ws' := (h0, .inr (11, [.ref q1, .ref q2, .ref q3, .int 0, .int (-1), .int (-1), .ref q4, .ref q5, .ref q6, .ref q7, .ref q8, .ref q9, .int 0, .int 0, .int 0, .int 0, .int 0, .int 0, .int 0, .int 0, .int 0, .ref q10, .ref q11, .int 0, .ref q12, .ref q13, .int 0, .int 0, .ref q14, .ref q15, .int 0, .ref q16, .ref q17, .ref q18, .ref q19, .int 0, .ref q20, .ref q21, .null, .int 0, .int 0, .null])) :: [(q1, .inl (ca 0, 170, .inl (fun _ => 0))), (q2, .inl (ca 0, 170, .inl (fun _ => 0))), (q3, .inl (ca 6, 300, .inl (fun _ => 0))), (q4, .inl (ca 0, 4, .inl (fun _ => 0))), (q5, .inl (ca 0, 40, .inl (fun _ => 0))), (q6, .inl (ca 0, 40, .inl (fun _ => 0))), (q7, .inl (ca 0, 1600, .inl (fun _ => 0))), (q8, .inl (ca 0, 1600, .inl (fun _ => 0))), (q9, .inl (ca 0, 4000, .inl (fun _ => 0))), (q10, .inl (ca 0, 40, .inl (fun _ => 0))), (q11, .inl (ca 0, 41, .inl (fun _ => 0))), (q12, .inl (ca 0, 80, .inl (fun _ => 0))), (q13, .inl (ca 0, 80, .inl (fun _ => 0))), (q14, .inl (ca 0, 10, .inl (fun _ => 0))), (q15, .inl (ca 0, 10, .inl (fun _ => 0))), (q16, .inl (ca 0, 400, .inl (fun _ => 0))), (q17, .inl (ca 0, 400, .inl (fun _ => 0))), (q18, .inl (ca 0, 7, .inl (fun _ => 0))), (q19, .inl (ca 8, 200, .inr (.inl (gx_rl (fun _ => 0))))), (q20, .inl (ca 0, 120, .inl (fun _ => 0))), (q21, .inl (ca 0, 320, .inl (fun _ => 0)))]) rfl ?_
  refine cw_aload_n hC dX11_init_191 rfl 0 rfl ?_
  refine cw_bipush (v := 20) hC dX11_init_192 (by decide) ?_
  refine cw_newa (atype := .int) (ty := .int) (N := 20) (a0 := (20, .inl (fun _ => 0))) hC 0 ka_int rfl rfl (fun _ _ h => h) (fun _ => rfl) (by decide) (by decide) (by decide) (by rw [hR]; exact ⟨Nat.le_of_ble_eq_true rfl, Nat.le_of_ble_eq_true rfl⟩) dX11_init_194 (fun q22 => ?_)
  refine cw_eq (ws' := (h0, .inr (11, [.ref q1, .ref q2, .ref q3, .int 0, .int (-1), .int (-1), .ref q4, .ref q5, .ref q6, .ref q7, .ref q8, .ref q9, .int 0, .int 0, .int 0, .int 0, .int 0, .int 0, .int 0, .int 0, .int 0, .ref q10, .ref q11, .int 0, .ref q12, .ref q13, .int 0, .int 0, .ref q14, .ref q15, .int 0, .ref q16, .ref q17, .ref q18, .ref q19, .int 0, .ref q20, .ref q21, .null, .int 0, .int 0, .null])) :: [(q1, .inl (ca 0, 170, .inl (fun _ => 0))), (q2, .inl (ca 0, 170, .inl (fun _ => 0))), (q3, .inl (ca 6, 300, .inl (fun _ => 0))), (q4, .inl (ca 0, 4, .inl (fun _ => 0))), (q5, .inl (ca 0, 40, .inl (fun _ => 0))), (q6, .inl (ca 0, 40, .inl (fun _ => 0))), (q7, .inl (ca 0, 1600, .inl (fun _ => 0))), (q8, .inl (ca 0, 1600, .inl (fun _ => 0))), (q9, .inl (ca 0, 4000, .inl (fun _ => 0))), (q10, .inl (ca 0, 40, .inl (fun _ => 0))), (q11, .inl (ca 0, 41, .inl (fun _ => 0))), (q12, .inl (ca 0, 80, .inl (fun _ => 0))), (q13, .inl (ca 0, 80, .inl (fun _ => 0))), (q14, .inl (ca 0, 10, .inl (fun _ => 0))), (q15, .inl (ca 0, 10, .inl (fun _ => 0))), (q16, .inl (ca 0, 400, .inl (fun _ => 0))), (q17, .inl (ca 0, 400, .inl (fun _ => 0))), (q18, .inl (ca 0, 7, .inl (fun _ => 0))), (q19, .inl (ca 8, 200, .inr (.inl (gx_rl (fun _ => 0))))), (q20, .inl (ca 0, 120, .inl (fun _ => 0))), (q21, .inl (ca 0, 320, .inl (fun _ => 0))), (q22, .inl (ca 0, 20, .inl (fun _ => 0)))]) rfl ?_
  refine cw_putF hC cl_X11 ff_X11_82 rfl rfl rfl (Nat.le_of_ble_eq_true rfl) dX11_init_196 ?_
  refine cw_eq (ws' := (h0, .inr (11, [.ref q1, .ref q2, .ref q3, .int 0, .int (-1), .int (-1), .ref q4, .ref q5, .ref q6, .ref q7, .ref q8, .ref q9, .int 0, .int 0, .int 0, .int 0, .int 0, .int 0, .int 0, .int 0, .int 0, .ref q10, .ref q11, .int 0, .ref q12, .ref q13, .int 0, .int 0, .ref q14, .ref q15, .int 0, .ref q16, .ref q17, .ref q18, .ref q19, .int 0, .ref q20, .ref q21, .ref q22, .int 0, .int 0, .null])) :: [(q1, .inl (ca 0, 170, .inl (fun _ => 0))), (q2, .inl (ca 0, 170, .inl (fun _ => 0))), (q3, .inl (ca 6, 300, .inl (fun _ => 0))), (q4, .inl (ca 0, 4, .inl (fun _ => 0))), (q5, .inl (ca 0, 40, .inl (fun _ => 0))), (q6, .inl (ca 0, 40, .inl (fun _ => 0))), (q7, .inl (ca 0, 1600, .inl (fun _ => 0))), (q8, .inl (ca 0, 1600, .inl (fun _ => 0))), (q9, .inl (ca 0, 4000, .inl (fun _ => 0))), (q10, .inl (ca 0, 40, .inl (fun _ => 0))), (q11, .inl (ca 0, 41, .inl (fun _ => 0))), (q12, .inl (ca 0, 80, .inl (fun _ => 0))), (q13, .inl (ca 0, 80, .inl (fun _ => 0))), (q14, .inl (ca 0, 10, .inl (fun _ => 0))), (q15, .inl (ca 0, 10, .inl (fun _ => 0))), (q16, .inl (ca 0, 400, .inl (fun _ => 0))), (q17, .inl (ca 0, 400, .inl (fun _ => 0))), (q18, .inl (ca 0, 7, .inl (fun _ => 0))), (q19, .inl (ca 8, 200, .inr (.inl (gx_rl (fun _ => 0))))), (q20, .inl (ca 0, 120, .inl (fun _ => 0))), (q21, .inl (ca 0, 320, .inl (fun _ => 0))), (q22, .inl (ca 0, 20, .inl (fun _ => 0)))]) rfl ?_
  refine cw_aload_n hC dX11_init_199 rfl 0 rfl ?_
  refine cw_sipush (v := 320) hC dX11_init_200 (by decide) ?_
  refine cw_newa (atype := .boolean) (ty := .boolean) (N := 320) (a0 := (320, .inl (fun _ => 0))) hC 7 ka_boolean rfl rfl (fun _ _ h => h) (fun _ => rfl) (by decide) (by decide) (by decide) (by rw [hR]; exact ⟨Nat.le_of_ble_eq_true rfl, Nat.le_of_ble_eq_true rfl⟩) dX11_init_203 (fun q23 => ?_)
  refine cw_eq (ws' := (h0, .inr (11, [.ref q1, .ref q2, .ref q3, .int 0, .int (-1), .int (-1), .ref q4, .ref q5, .ref q6, .ref q7, .ref q8, .ref q9, .int 0, .int 0, .int 0, .int 0, .int 0, .int 0, .int 0, .int 0, .int 0, .ref q10, .ref q11, .int 0, .ref q12, .ref q13, .int 0, .int 0, .ref q14, .ref q15, .int 0, .ref q16, .ref q17, .ref q18, .ref q19, .int 0, .ref q20, .ref q21, .ref q22, .int 0, .int 0, .null])) :: [(q1, .inl (ca 0, 170, .inl (fun _ => 0))), (q2, .inl (ca 0, 170, .inl (fun _ => 0))), (q3, .inl (ca 6, 300, .inl (fun _ => 0))), (q4, .inl (ca 0, 4, .inl (fun _ => 0))), (q5, .inl (ca 0, 40, .inl (fun _ => 0))), (q6, .inl (ca 0, 40, .inl (fun _ => 0))), (q7, .inl (ca 0, 1600, .inl (fun _ => 0))), (q8, .inl (ca 0, 1600, .inl (fun _ => 0))), (q9, .inl (ca 0, 4000, .inl (fun _ => 0))), (q10, .inl (ca 0, 40, .inl (fun _ => 0))), (q11, .inl (ca 0, 41, .inl (fun _ => 0))), (q12, .inl (ca 0, 80, .inl (fun _ => 0))), (q13, .inl (ca 0, 80, .inl (fun _ => 0))), (q14, .inl (ca 0, 10, .inl (fun _ => 0))), (q15, .inl (ca 0, 10, .inl (fun _ => 0))), (q16, .inl (ca 0, 400, .inl (fun _ => 0))), (q17, .inl (ca 0, 400, .inl (fun _ => 0))), (q18, .inl (ca 0, 7, .inl (fun _ => 0))), (q19, .inl (ca 8, 200, .inr (.inl (gx_rl (fun _ => 0))))), (q20, .inl (ca 0, 120, .inl (fun _ => 0))), (q21, .inl (ca 0, 320, .inl (fun _ => 0))), (q22, .inl (ca 0, 20, .inl (fun _ => 0))), (q23, .inl (ca 7, 320, .inl (fun _ => 0)))]) rfl ?_
  refine cw_putF hC cl_X11 ff_X11_85 rfl rfl rfl (Nat.le_of_ble_eq_true rfl) dX11_init_205 ?_
  refine cw_eq (ws' := (h0, .inr (11, [.ref q1, .ref q2, .ref q3, .int 0, .int (-1), .int (-1), .ref q4, .ref q5, .ref q6, .ref q7, .ref q8, .ref q9, .int 0, .int 0, .int 0, .int 0, .int 0, .int 0, .int 0, .int 0, .int 0, .ref q10, .ref q11, .int 0, .ref q12, .ref q13, .int 0, .int 0, .ref q14, .ref q15, .int 0, .ref q16, .ref q17, .ref q18, .ref q19, .int 0, .ref q20, .ref q21, .ref q22, .int 0, .int 0, .ref q23])) :: [(q1, .inl (ca 0, 170, .inl (fun _ => 0))), (q2, .inl (ca 0, 170, .inl (fun _ => 0))), (q3, .inl (ca 6, 300, .inl (fun _ => 0))), (q4, .inl (ca 0, 4, .inl (fun _ => 0))), (q5, .inl (ca 0, 40, .inl (fun _ => 0))), (q6, .inl (ca 0, 40, .inl (fun _ => 0))), (q7, .inl (ca 0, 1600, .inl (fun _ => 0))), (q8, .inl (ca 0, 1600, .inl (fun _ => 0))), (q9, .inl (ca 0, 4000, .inl (fun _ => 0))), (q10, .inl (ca 0, 40, .inl (fun _ => 0))), (q11, .inl (ca 0, 41, .inl (fun _ => 0))), (q12, .inl (ca 0, 80, .inl (fun _ => 0))), (q13, .inl (ca 0, 80, .inl (fun _ => 0))), (q14, .inl (ca 0, 10, .inl (fun _ => 0))), (q15, .inl (ca 0, 10, .inl (fun _ => 0))), (q16, .inl (ca 0, 400, .inl (fun _ => 0))), (q17, .inl (ca 0, 400, .inl (fun _ => 0))), (q18, .inl (ca 0, 7, .inl (fun _ => 0))), (q19, .inl (ca 8, 200, .inr (.inl (gx_rl (fun _ => 0))))), (q20, .inl (ca 0, 120, .inl (fun _ => 0))), (q21, .inl (ca 0, 320, .inl (fun _ => 0))), (q22, .inl (ca 0, 20, .inl (fun _ => 0))), (q23, .inl (ca 7, 320, .inl (fun _ => 0)))]) rfl ?_
  obtain ⟨ad, had⟩ : ∃ ad : Nat → Nat, ad = (fun k => [h0, q1, q2, q3, q4, q5, q6, q7, q8, q9, q10, q11, q12, q13, q14, q15, q16, q17, q18, q19, q20, q21, q22, q23].getD k 0) := ⟨_, rfl⟩
  refine cw_eq (ws' := gx_w (wR w.1 ca ad) sP) (by rw [fl_R, had]; rfl) ?_
  have hh0 : h0 = ad 0 := by rw [had]; rfl
  clear had
  subst hh0
  refine cw_aload_n (x := ad 0) hC dX11_init_208 rfl 0 rfl ?_
  refine cr_get hC rfl dX11_init_209 ?_
  refine cw_iconst (v := 1) hC dX11_init_212 (by decide) ?_
  refine cw_iconst (v := (-1)) hC dX11_init_213 (by decide) ?_
  refine cr_st (j := 1) (x := (-1)) hC (by decide) (by unfold vp_in; decide) dX11_init_214 ?_
  refine cw_aload_n (x := ad 0) hC dX11_init_215 rfl 0 rfl ?_
  refine cr_get hC rfl dX11_init_216 ?_
  refine cw_iconst (v := 2) hC dX11_init_219 (by decide) ?_
  refine cw_bipush (v := 10) hC dX11_init_220 (by decide) ?_
  refine cr_st (j := 2) (x := 10) hC (by decide) (by unfold vp_in; decide) dX11_init_222 ?_
  refine cw_aload_n (x := ad 0) hC dX11_init_223 rfl 0 rfl ?_
  refine cr_get hC rfl dX11_init_224 ?_
  refine cw_iconst (v := 4) hC dX11_init_227 (by decide) ?_
  refine cw_bipush (v := 16) hC dX11_init_228 (by decide) ?_
  refine cr_st (j := 4) (x := 16) hC (by decide) (by unfold vp_in; decide) dX11_init_230 ?_
  refine cw_aload_n (x := ad 0) hC dX11_init_231 rfl 0 rfl ?_
  refine cr_get hC rfl dX11_init_232 ?_
  refine cw_bipush (v := 6) hC dX11_init_235 (by decide) ?_
  refine cw_iconst (v := 1) hC dX11_init_237 (by decide) ?_
  refine cr_st (j := 6) (x := 1) hC (by decide) (by unfold vp_in; decide) dX11_init_238 ?_
  refine cw_iconst (v := 0) hC dX11_init_239 (by decide) ?_
  refine cw_istore_n (lv' := [(1, .int 0), (0, .ref (ad 0))]) hC dX11_init_240 rfl (by decide) rfl ?_
  refine cw_iload_n hC dX11_init_241 rfl 0 rfl ?_
  refine cw_iconst (v := 2) hC dX11_init_242 (by decide) ?_
  refine cw_icmp_ge (tgt := 304) hC dX11_init_243 (by decide) (fun hc => absurd hc (by decide)) (fun _ => ?_)
  refine cw_aload_n (x := ad 0) hC dX11_init_246 rfl 1 rfl ?_
  refine cr_get hC rfl dX11_init_247 ?_
  refine cw_bipush (v := 10) hC dX11_init_250 (by decide) ?_
  refine cw_iload_n hC dX11_init_252 rfl 0 rfl ?_
  refine cw_iadd hC dX11_init_253 ?_
  refine cw_iload_n hC dX11_init_254 rfl 0 rfl ?_
  refine cr_st (j := 10) (x := 0) hC (by decide) (by unfold vp_in; decide) dX11_init_255 ?_
  refine cw_aload_n (x := ad 0) hC dX11_init_256 rfl 1 rfl ?_
  refine cr_get hC rfl dX11_init_257 ?_
  refine cw_bipush (v := 12) hC dX11_init_260 (by decide) ?_
  refine cw_iload_n hC dX11_init_262 rfl 0 rfl ?_
  refine cw_iadd hC dX11_init_263 ?_
  refine cw_bipush (v := 10) hC dX11_init_264 (by decide) ?_
  refine cr_st (j := 12) (x := 10) hC (by decide) (by unfold vp_in; decide) dX11_init_266 ?_
  refine cw_aload_n (x := ad 0) hC dX11_init_267 rfl 1 rfl ?_
  refine cr_get hC rfl dX11_init_268 ?_
  refine cw_bipush (v := 16) hC dX11_init_271 (by decide) ?_
  refine cw_iload_n hC dX11_init_273 rfl 0 rfl ?_
  refine cw_iadd hC dX11_init_274 ?_
  refine cw_iconst (v := 1) hC dX11_init_275 (by decide) ?_
  refine cr_st (j := 16) (x := 1) hC (by decide) (by unfold vp_in; decide) dX11_init_276 ?_
  refine cw_aload_n (x := ad 0) hC dX11_init_277 rfl 1 rfl ?_
  refine cr_get hC rfl dX11_init_278 ?_
  refine cw_bipush (v := 18) hC dX11_init_281 (by decide) ?_
  refine cw_iload_n hC dX11_init_283 rfl 0 rfl ?_
  refine cw_iadd hC dX11_init_284 ?_
  refine cw_iconst (v := 1) hC dX11_init_285 (by decide) ?_
  refine cr_st (j := 18) (x := 1) hC (by decide) (by unfold vp_in; decide) dX11_init_286 ?_
  refine cw_aload_n (x := ad 0) hC dX11_init_287 rfl 1 rfl ?_
  refine cr_get hC rfl dX11_init_288 ?_
  refine cw_bipush (v := 20) hC dX11_init_291 (by decide) ?_
  refine cw_iload_n hC dX11_init_293 rfl 0 rfl ?_
  refine cw_iadd hC dX11_init_294 ?_
  refine cw_bipush (v := 16) hC dX11_init_295 (by decide) ?_
  refine cr_st (j := 20) (x := 16) hC (by decide) (by unfold vp_in; decide) dX11_init_297 ?_
  refine cw_iinc (v := 1) (lv' := [(1, .int 1), (0, .ref (ad 0))]) hC dX11_init_298 (k := 0) rfl (by decide) (by decide) rfl ?_
  refine cw_goto (tgt := 241) hC dX11_init_301 (by decide) ?_
  refine cw_iload_n hC dX11_init_241 rfl 0 rfl ?_
  refine cw_iconst (v := 2) hC dX11_init_242 (by decide) ?_
  refine cw_icmp_ge (tgt := 304) hC dX11_init_243 (by decide) (fun hc => absurd hc (by decide)) (fun _ => ?_)
  refine cw_aload_n (x := ad 0) hC dX11_init_246 rfl 1 rfl ?_
  refine cr_get hC rfl dX11_init_247 ?_
  refine cw_bipush (v := 10) hC dX11_init_250 (by decide) ?_
  refine cw_iload_n hC dX11_init_252 rfl 0 rfl ?_
  refine cw_iadd hC dX11_init_253 ?_
  refine cw_iload_n hC dX11_init_254 rfl 0 rfl ?_
  refine cr_st (j := 11) (x := 1) hC (by decide) (by unfold vp_in; decide) dX11_init_255 ?_
  refine cw_aload_n (x := ad 0) hC dX11_init_256 rfl 1 rfl ?_
  refine cr_get hC rfl dX11_init_257 ?_
  refine cw_bipush (v := 12) hC dX11_init_260 (by decide) ?_
  refine cw_iload_n hC dX11_init_262 rfl 0 rfl ?_
  refine cw_iadd hC dX11_init_263 ?_
  refine cw_bipush (v := 10) hC dX11_init_264 (by decide) ?_
  refine cr_st (j := 13) (x := 10) hC (by decide) (by unfold vp_in; decide) dX11_init_266 ?_
  refine cw_aload_n (x := ad 0) hC dX11_init_267 rfl 1 rfl ?_
  refine cr_get hC rfl dX11_init_268 ?_
  refine cw_bipush (v := 16) hC dX11_init_271 (by decide) ?_
  refine cw_iload_n hC dX11_init_273 rfl 0 rfl ?_
  refine cw_iadd hC dX11_init_274 ?_
  refine cw_iconst (v := 1) hC dX11_init_275 (by decide) ?_
  refine cr_st (j := 17) (x := 1) hC (by decide) (by unfold vp_in; decide) dX11_init_276 ?_
  refine cw_aload_n (x := ad 0) hC dX11_init_277 rfl 1 rfl ?_
  refine cr_get hC rfl dX11_init_278 ?_
  refine cw_bipush (v := 18) hC dX11_init_281 (by decide) ?_
  refine cw_iload_n hC dX11_init_283 rfl 0 rfl ?_
  refine cw_iadd hC dX11_init_284 ?_
  refine cw_iconst (v := 1) hC dX11_init_285 (by decide) ?_
  refine cr_st (j := 19) (x := 1) hC (by decide) (by unfold vp_in; decide) dX11_init_286 ?_
  refine cw_aload_n (x := ad 0) hC dX11_init_287 rfl 1 rfl ?_
  refine cr_get hC rfl dX11_init_288 ?_
  refine cw_bipush (v := 20) hC dX11_init_291 (by decide) ?_
  refine cw_iload_n hC dX11_init_293 rfl 0 rfl ?_
  refine cw_iadd hC dX11_init_294 ?_
  refine cw_bipush (v := 16) hC dX11_init_295 (by decide) ?_
  refine cr_st (j := 21) (x := 16) hC (by decide) (by unfold vp_in; decide) dX11_init_297 ?_
  refine cw_iinc (v := 2) (lv' := [(1, .int 2), (0, .ref (ad 0))]) hC dX11_init_298 (k := 0) rfl (by decide) (by decide) rfl ?_
  refine cw_goto (tgt := 241) hC dX11_init_301 (by decide) ?_
  refine cw_iload_n hC dX11_init_241 rfl 0 rfl ?_
  refine cw_iconst (v := 2) hC dX11_init_242 (by decide) ?_
  refine cw_icmp_ge (tgt := 304) hC dX11_init_243 (by decide) (fun _ => ?_) (fun hc => absurd (by decide) hc)
  refine cw_aload_n (x := ad 0) hC dX11_init_304 rfl 1 rfl ?_
  refine cw_iconst (v := 1) hC dX11_init_305 (by decide) ?_
  exact cr_copies hC hF hR hr dX11_init_306 dX11_init_309
/-- the reference's constructor -/
theorem ct_X11_init {l : Launch} {ca : Nat → ClassId} {w : gx_V} {d : gx_D} (h0 sz : Nat) : Met l yX11_init (.code yX11_init cX11_init 2 none :: gx_U) rm_X11_init (va_Pc [.ref h0] (fun U => U.heap.size = sz ∧ va_P w.1 vwCl [(h0, .inr (11, [.null, .null, .null, .int 0, .int 0, .int 0, .null, .null, .null, .null, .null, .null, .int 0, .int 0, .int 0, .int 0, .int 0, .int 0, .int 0, .int 0, .int 0, .null, .null, .int 0, .null, .null, .int 0, .int 0, .null, .null, .int 0, .null, .null, .null, .null, .int 0, .null, .null, .null, .int 0, .int 0, .null]))] U.heap ∧ gx_I ca w U ∧ gx_F d (fun q => q = h0 ∨ sz ≤ q) U U.heap)) (sR_Q w ca h0 sz) 23 9972 (fun q => q = h0 ∨ sz ≤ q) := by
  refine Met.ofW (cc := cX11_init) (maxL := 2) (ret := none) (by decide +kernel) rfl ?_
  intro p e s m args below meth c s₁ B hml hv
  obtain ⟨rfl, hsz, hP, hI, hF⟩ := hv
  have hts := atoms_spec (ws := .code yX11_init cX11_init 2 none :: gx_U) B.pre
  have hown : s.vm.findClass RX11 = some m.cls := findClass_of_methodNamed B.named
  subst hsz
  rw [lg_entry_eq]
  have hD : va_D (fun q => q = h0 ∨ s.heap.size ≤ q) [(h0, (.inr (11, [.null, .null, .null, .int 0, .int 0, .int 0, .null, .null, .null, .null, .null, .null, .int 0, .int 0, .int 0, .int 0, .int 0, .int 0, .int 0, .int 0, .int 0, .null, .null, .int 0, .null, .null, .int 0, .int 0, .null, .null, .int 0, .null, .null, .null, .null, .int 0, .null, .null, .null, .int 0, .int 0, .null]) : va_E))] := by
    refine ⟨fun i j p q hp hq _ => ?_, fun k q hk => ?_⟩
    · have h1 := (List.getElem?_eq_some_iff.mp hp).1
      have h2 := (List.getElem?_eq_some_iff.mp hq).1
      simp at h1 h2
      omega
    · have h1 := (List.getElem?_eq_some_iff.mp hk).1
      simp at h1
      subst h1
      cases hk
      exact Or.inl rfl
  exact cr_init (z := (p, l, e, rm_X11_init, s, m, [Value.ref h0].toArray, below, meth, c)) (h0 := h0) ⟨⟨B.exec, B.bytes, hml, hown, fun w h => hts w (List.mem_cons_of_mem _ h)⟩, B.notSynchronized, hI, (name_of_methodNamed B.named B.method).1.trans rfl⟩ hF rfl B.returns s.heap [] _ hP hD va_S.rf (lv_entry [.ref h0] (Nat.le_of_ble_eq_true rfl))
