set_option maxRecDepth 20000 in
theorem J_X2_dotsFrom {z : gx_X} {d : gx_D} {w : gx_V} {ca : Nat → ClassId} (hC : gx_C z d w cX2_dotsFrom 3 RX2) (hw : gx_isC ca w) (hR : gx_R z = rm_X2_dotsFrom) (hr : (gx_me z).sig.returnType = (some .int)) {o0 : Nat} (ho0 : pk_Ch o0) {M : gx_M} {v1 : Int32} {v2 : Int32} {Q : Int32 → Prop} (h : T_X2_dotsFrom M o0 v1 v2 Q) : GW z w 3 (gx_Qi w (fun r M1 => M1 = M ∧ Q r) (gx_s z).heap.size) M 0 [(0, .ref (gx_ad w o0)), (1, .int v1), (2, .int v2)] [] := by
  unfold T_X2_dotsFrom at h
  have ⟨ho0a, ho0b⟩ := ho0
  refine gw_aload_n hC dX2_dotsFrom_0 rfl 0 rfl ?_
  refine gw_get hC cl_X2 fg_X2_24 (gn_Ch hw ⟨by omega, by omega⟩) (gc_Ch hw ⟨by omega, by omega⟩ _) (gv_X2_4 _ _ _) dX2_dotsFrom_1 ?_
  refine gw_iconst (v := 1) hC dX2_dotsFrom_4 (by decide) ?_
  refine gw_icmp_ge (tgt := 12) hC dX2_dotsFrom_5 (by decide) (fun hc => ?_) (fun hc => ?_)
  · have h := gx_t h hc
    refine gw_iload_n hC dX2_dotsFrom_12 rfl 2 rfl ?_
    refine gw_aload_n hC dX2_dotsFrom_13 rfl 0 rfl ?_
    refine gw_get hC cl_X2 fg_X2_24 (gn_Ch hw ⟨by omega, by omega⟩) (gc_Ch hw ⟨by omega, by omega⟩ _) (gv_X2_4 _ _ _) dX2_dotsFrom_14 ?_
    refine gw_calli (gx_rS hC (n := 2) (As := [.int v2, .int (M o0 4)]) (rest := []) (fun sz => c_J9_floorDiv_7cf53 hw  h sz) cs_X2_37_J9_floorDiv_7cf53 (by rw [hR]; exact rr_X2_dotsFrom_J9_floorDiv_7cf53) rfl rfl (Nat.le_of_ble_eq_true rfl) dX2_dotsFrom_17) ?_
    intro r1 m2 ⟨hm2, h⟩
    rw [hm2]
    refine gw_iload_n hC dX2_dotsFrom_20 rfl 1 rfl ?_
    refine gw_iadd hC dX2_dotsFrom_21 ?_
    refine gw_aload_n hC dX2_dotsFrom_22 rfl 0 rfl ?_
    refine gw_get hC cl_X2 fg_X2_27 (gn_Ch hw ⟨by omega, by omega⟩) (gc_Ch hw ⟨by omega, by omega⟩ _) (gv_X2_5 _ _ _) dX2_dotsFrom_23 ?_
    refine gw_iadd hC dX2_dotsFrom_26 ?_
    exact gw_iret hC hr dX2_dotsFrom_27 ⟨rfl, h⟩
  · have h := gx_f h hc
    refine gw_iconst (v := (-1)) hC dX2_dotsFrom_8 (by decide) ?_
    refine gw_goto (tgt := 27) hC dX2_dotsFrom_9 (by decide) ?_
    exact gw_iret hC hr dX2_dotsFrom_27 ⟨rfl, h⟩
theorem c_X2_dotsFrom {l : Launch} {d : gx_D} {w : gx_V} {ca : Nat → ClassId} (hw : gx_isC ca w) {o0 : Nat} (ho0 : pk_Ch o0) {M : gx_M} {v1 : Int32} {v2 : Int32} {Q : Int32 → Prop} (h : T_X2_dotsFrom M o0 v1 v2 Q) : gx_Mi l d w yX2_dotsFrom cX2_dotsFrom 3 .int rm_X2_dotsFrom [.ref (gx_ad w o0), .int v1, .int v2] M (fun r M1 => M1 = M ∧ Q r) := fun sz =>
  gx_of (own := RX2) (by decide +kernel) rfl (Nat.le_of_ble_eq_true rfl) (fun z hC hl hR hsz hr => by subst hsz; exact J_X2_dotsFrom hC hw hR hr ho0 h) rfl
set_option maxRecDepth 20000 in
theorem J_X7_brighten {z : gx_X} {d : gx_D} {w : gx_V} {ca : Nat → ClassId} (hC : gx_C z d w cX7_brighten 4 RX7) (hw : gx_isC ca w) (hR : gx_R z = rm_X7_brighten) (hr : (gx_me z).sig.returnType = none)   {M : gx_M} {v1 : Int32} {v2 : Int32} {Q : gx_M → Prop} (h : T_X7_brighten M v1 v2 Q) : GW z w 4 (gx_Qv w Q (gx_s z).heap.size) M 0 [(0, .ref (gx_ad w 8)), (1, .int v1), (2, .int v2)] [] := by
  unfold T_X7_brighten at h
  refine gw_iload_n hC dX7_brighten_0 rfl 1 rfl ?_
  refine gw_iconst (v := 0) hC dX7_brighten_1 (by decide) ?_
  refine gw_bipush (v := 19) hC dX7_brighten_2 (by decide) ?_
  refine gw_calli (gx_rN hC (n := 3) (As := [.int v1, .int 0, .int 19]) (rest := []) (fun sz => c_X10_within hw  h sz) cn_X7_15_X10_within (by rw [hR]; exact rr_X7_brighten_X10_within) rfl rfl (Nat.le_of_ble_eq_true rfl) dX7_brighten_4) ?_
  intro r1 m2 ⟨hm2, h⟩
  rw [hm2]
  refine gw_if_eq (tgt := 48) hC dX7_brighten_7 (by decide) (fun hc => ?_) (fun hc => ?_)
  · have h := gx_t h hc
    exact gw_vret hC hr dX7_brighten_48 h
  · have h := gx_f h hc
    refine gw_iload_n hC dX7_brighten_10 rfl 2 rfl ?_
    refine gw_iconst (v := 0) hC dX7_brighten_11 (by decide) ?_
    refine gw_bipush (v := 15) hC dX7_brighten_12 (by decide) ?_
    refine gw_calli (gx_rN hC (n := 3) (As := [.int v2, .int 0, .int 15]) (rest := []) (fun sz => c_X10_within hw  h sz) cn_X7_15_X10_within (by rw [hR]; exact rr_X7_brighten_X10_within) rfl rfl (Nat.le_of_ble_eq_true rfl) dX7_brighten_14) ?_
    intro r3 m4 ⟨hm4, h⟩
    rw [hm4]
    refine gw_if_eq (tgt := 48) hC dX7_brighten_17 (by decide) (fun hc => ?_) (fun hc => ?_)
    · have h := gx_t h hc
      exact gw_vret hC hr dX7_brighten_48 h
    · have h := gx_f h hc
      refine gw_iload_n hC dX7_brighten_20 rfl 1 rfl ?_
      refine gw_bipush (v := 16) hC dX7_brighten_21 (by decide) ?_
      refine gw_imul hC dX7_brighten_23 ?_
      refine gw_iload_n hC dX7_brighten_24 rfl 2 rfl ?_
      refine gw_iadd hC dX7_brighten_25 ?_
      refine gw_nm (fun x5 hx5 => ?_)
      have h := h x5 hx5
      refine gw_istore_n (lv' := [(3, .int x5), (0, .ref (gx_ad w 8)), (1, .int v1), (2, .int v2)]) hC dX7_brighten_26 rfl (by decide) rfl ?_
      refine gw_aload_n hC dX7_brighten_27 rfl 1 rfl ?_
      refine gw_get hC cl_X7 fg_X7_9 (hw.lt (by decide)) (gc_8 hw _) (gv_X7_0 _ _ _) dX7_brighten_28 ?_
      refine gw_iload_n hC dX7_brighten_31 rfl 0 rfl ?_
      refine gw_aload_n hC dX7_brighten_32 rfl 1 rfl ?_
      refine gw_get hC cl_X7 fg_X7_9 (hw.lt (by decide)) (gc_8 hw _) (gv_X7_0 _ _ _) dX7_brighten_33 ?_
      refine gw_iload_n hC dX7_brighten_36 rfl 0 rfl ?_
      obtain ⟨hi, h⟩ := h
      refine gw_iald hC (hw.lt (by decide)) (gc_9 hw _) (gt_0 hw) hi dX7_brighten_37 ?_
      refine gw_bipush (v := 16) hC dX7_brighten_38 (by decide) ?_
      refine gw_iadd hC dX7_brighten_40 ?_
      refine gw_sipush (v := 999) hC dX7_brighten_41 (by decide) ?_
      refine gw_mmin hC cm_X7_19 cm_st_min cm_ini cm_co_min (by rw [hR]; decide) (by rw [hR]; exact Nat.le_of_ble_eq_true rfl) dX7_brighten_44 ?_
      obtain ⟨hi, h⟩ := h
      refine gw_iast hC (hw.lt (by decide)) (gc_9 hw) (gt_0 hw) hi dX7_brighten_47 ?_
      refine gw_nmM (fun M6 hM6 => ?_)
      have h := h M6 hM6
      exact gw_vret hC hr dX7_brighten_48 h
theorem c_X7_brighten {l : Launch} {d : gx_D} {w : gx_V} {ca : Nat → ClassId} (hw : gx_isC ca w)   {M : gx_M} {v1 : Int32} {v2 : Int32} {Q : gx_M → Prop} (h : T_X7_brighten M v1 v2 Q) : gx_Mv l d w yX7_brighten cX7_brighten 4 rm_X7_brighten [.ref (gx_ad w 8), .int v1, .int v2] M Q := fun sz =>
  gx_of (own := RX7) (by decide +kernel) rfl (Nat.le_of_ble_eq_true rfl) (fun z hC hl hR hsz hr => by subst hsz; exact J_X7_brighten hC hw hR hr  h) rfl
set_option maxRecDepth 20000 in
theorem J_X1_turnAt {z : gx_X} {d : gx_D} {w : gx_V} {ca : Nat → ClassId} (hC : gx_C z d w cX1_turnAt 2 RX1) (hw : gx_isC ca w) (hR : gx_R z = rm_X1_turnAt) (hr : (gx_me z).sig.returnType = (some .int))   {M : gx_M} {v1 : Int32} {Q : Int32 → Prop} (h : T_X1_turnAt M v1 Q) : GW z w 2 (gx_Qi w (fun r M1 => M1 = M ∧ Q r) (gx_s z).heap.size) M 0 [(0, .ref (gx_ad w 1)), (1, .int v1)] [] := by
  unfold T_X1_turnAt at h
  refine gw_aload_n hC dX1_turnAt_0 rfl 0 rfl ?_
  refine gw_get hC cl_X1 fg_X1_12 (hw.lt (by decide)) (gc_1 hw _) (gv_X1_0 _ _ _) dX1_turnAt_1 ?_
  refine gw_get hC cl_X8 fg_X1_182 (hw.lt (by decide)) (gc_Se hw (by decide) _) (gv_X8_6 _ _ _) dX1_turnAt_4 ?_
  refine gw_iconst (v := 1) hC dX1_turnAt_7 (by decide) ?_
  refine gw_icmp_ne (tgt := 26) hC dX1_turnAt_8 (by decide) (fun hc => ?_) (fun hc => ?_)
  · have h := gx_f h hc
    refine gw_aload_n hC dX1_turnAt_26 rfl 0 rfl ?_
    refine gw_get hC cl_X1 fg_X1_12 (hw.lt (by decide)) (gc_1 hw _) (gv_X1_0 _ _ _) dX1_turnAt_27 ?_
    refine gw_get hC cl_X8 fg_X1_182 (hw.lt (by decide)) (gc_Se hw (by decide) _) (gv_X8_6 _ _ _) dX1_turnAt_30 ?_
    refine gw_iconst (v := 2) hC dX1_turnAt_33 (by decide) ?_
    refine gw_icmp_ne (tgt := 67) hC dX1_turnAt_34 (by decide) (fun hc => ?_) (fun hc => ?_)
    · have h := gx_f h hc
      refine gw_iconst (v := 0) hC dX1_turnAt_67 (by decide) ?_
      exact gw_iret hC hr dX1_turnAt_68 ⟨rfl, h⟩
    · have h := gx_t h hc
      refine gw_aload_n hC dX1_turnAt_37 rfl 0 rfl ?_
      refine gw_get hC cl_X1 fg_X1_12 (hw.lt (by decide)) (gc_1 hw _) (gv_X1_0 _ _ _) dX1_turnAt_38 ?_
      refine gw_get hC cl_X8 fg_X1_195 (hw.lt (by decide)) (gc_Se hw (by decide) _) (gv_X8_7 _ _ _) dX1_turnAt_41 ?_
      refine gw_if_le (tgt := 67) hC dX1_turnAt_44 (by decide) (fun hc => ?_) (fun hc => ?_)
      · have h := gx_t h hc
        refine gw_iconst (v := 0) hC dX1_turnAt_67 (by decide) ?_
        exact gw_iret hC hr dX1_turnAt_68 ⟨rfl, h⟩
      · have h := gx_f h hc
        refine gw_iload_n hC dX1_turnAt_47 rfl 1 rfl ?_
        refine gw_aload_n hC dX1_turnAt_48 rfl 0 rfl ?_
        refine gw_get hC cl_X1 fg_X1_12 (hw.lt (by decide)) (gc_1 hw _) (gv_X1_0 _ _ _) dX1_turnAt_49 ?_
        refine gw_get hC cl_X8 fg_X1_195 (hw.lt (by decide)) (gc_Se hw (by decide) _) (gv_X8_7 _ _ _) dX1_turnAt_52 ?_
        obtain ⟨hz, h⟩ := h
        refine gw_idiv hC dX1_turnAt_55 hz ?_
        refine gw_iconst (v := 2) hC dX1_turnAt_56 (by decide) ?_
        refine gw_irem hC dX1_turnAt_57 (by decide) ?_
        refine gw_if_ne (tgt := 65) hC dX1_turnAt_58 (by decide) (fun hc => ?_) (fun hc => ?_)
        · have h := gx_f h hc
          refine gw_iconst (v := 1) hC dX1_turnAt_65 (by decide) ?_
          exact gw_iret hC hr dX1_turnAt_66 ⟨rfl, h⟩
        · have h := gx_t h hc
          refine gw_iconst (v := 0) hC dX1_turnAt_61 (by decide) ?_
          refine gw_goto (tgt := 66) hC dX1_turnAt_62 (by decide) ?_
          exact gw_iret hC hr dX1_turnAt_66 ⟨rfl, h⟩
  · have h := gx_t h hc
    refine gw_aload_n hC dX1_turnAt_11 rfl 0 rfl ?_
    refine gw_get hC cl_X1 fg_X1_48 (hw.lt (by decide)) (gc_1 hw _) (gv_X1_7 _ _ _) dX1_turnAt_12 ?_
    refine gw_iconst (v := 2) hC dX1_turnAt_15 (by decide) ?_
    refine gw_irem hC dX1_turnAt_16 (by decide) ?_
    refine gw_if_ne (tgt := 24) hC dX1_turnAt_17 (by decide) (fun hc => ?_) (fun hc => ?_)
    · have h := gx_f h hc
      refine gw_iconst (v := 0) hC dX1_turnAt_24 (by decide) ?_
      exact gw_iret hC hr dX1_turnAt_25 ⟨rfl, h⟩
    · have h := gx_t h hc
      refine gw_iconst (v := 1) hC dX1_turnAt_20 (by decide) ?_
      refine gw_goto (tgt := 25) hC dX1_turnAt_21 (by decide) ?_
      exact gw_iret hC hr dX1_turnAt_25 ⟨rfl, h⟩
theorem c_X1_turnAt {l : Launch} {d : gx_D} {w : gx_V} {ca : Nat → ClassId} (hw : gx_isC ca w)   {M : gx_M} {v1 : Int32} {Q : Int32 → Prop} (h : T_X1_turnAt M v1 Q) : gx_Mi l d w yX1_turnAt cX1_turnAt 2 .int rm_X1_turnAt [.ref (gx_ad w 1), .int v1] M (fun r M1 => M1 = M ∧ Q r) := fun sz =>
  gx_of (own := RX1) (by decide +kernel) rfl (Nat.le_of_ble_eq_true rfl) (fun z hC hl hR hsz hr => by subst hsz; exact J_X1_turnAt hC hw hR hr  h) rfl
set_option maxRecDepth 20000 in
theorem J_X1_drawDot {z : gx_X} {d : gx_D} {w : gx_V} {ca : Nat → ClassId} (hC : gx_C z d w cX1_drawDot 5 RX1) (hw : gx_isC ca w) (hR : gx_R z = rm_X1_drawDot) (hr : (gx_me z).sig.returnType = none)   {M : gx_M} {v2 : Int32} {v3 : Int32} {Q : gx_M → Prop} (h : T_X1_drawDot M v2 v3 Q) : GW z w 5 (gx_Qv w Q (gx_s z).heap.size) M 0 [(0, .ref (gx_ad w 1)), (1, .ref (gx_ad w 8)), (2, .int v2), (3, .int v3)] [] := by
  unfold T_X1_drawDot at h
  refine gw_aload_n hC dX1_drawDot_0 rfl 0 rfl ?_
  refine gw_get hC cl_X1 fg_X1_12 (hw.lt (by decide)) (gc_1 hw _) (gv_X1_0 _ _ _) dX1_drawDot_1 ?_
  refine gw_get hC cl_X8 fg_X1_182 (hw.lt (by decide)) (gc_Se hw (by decide) _) (gv_X8_6 _ _ _) dX1_drawDot_4 ?_
  refine gw_iconst (v := 3) hC dX1_drawDot_7 (by decide) ?_
  refine gw_icmp_ne (tgt := 66) hC dX1_drawDot_8 (by decide) (fun hc => ?_) (fun hc => ?_)
  · have h := gx_f h hc
    refine gw_aload_n hC dX1_drawDot_66 rfl 0 rfl ?_
    refine gw_iload_n hC dX1_drawDot_67 rfl 3 rfl ?_
    refine gw_calli (gx_rV hC (n := 1) (As := [.int v3]) (rest := []) (fun sz => c_X1_turnAt hw  h sz) cv_X1_192_X1_turnAt (by rw [hR]; exact rr_X1_drawDot_X1_turnAt) ⟨(hw.lt (by decide)), _, _, _, _, gc_1 hw _, cl_X1.1⟩ rfl rfl (Nat.le_of_ble_eq_true rfl) dX1_drawDot_68) ?_
    intro r1 m2 ⟨hm2, h⟩
    rw [hm2]
    refine gw_istore (lv' := [(4, .int r1), (0, .ref (gx_ad w 1)), (1, .ref (gx_ad w 8)), (2, .int v2), (3, .int v3)]) hC dX1_drawDot_71 (by decide) rfl ?_
    refine gw_aload_n hC dX1_drawDot_73 rfl 2 rfl ?_
    refine gw_iload_n hC dX1_drawDot_74 rfl 3 rfl ?_
    refine gw_aload_n hC dX1_drawDot_75 rfl 1 rfl ?_
    refine gw_get hC cl_X1 fg_X1_12 (hw.lt (by decide)) (gc_1 hw _) (gv_X1_0 _ _ _) dX1_drawDot_76 ?_
    refine gw_get hC cl_X8 fg_X1_54 (hw.lt (by decide)) (gc_Se hw (by decide) _) (gv_X8_1 _ _ _) dX1_drawDot_79 ?_
    refine gw_rr (o' := 38) (by omega) ?_
    refine gw_iload hC dX1_drawDot_82 0 rfl ?_
    obtain ⟨hi, h⟩ := h
    have hb3 := vp_lt hi
    refine gw_aald hC (hw.lt (by decide)) (gc_CA hw (by decide) _) (gt_4 hw) rfl hi dX1_drawDot_84 ?_
    refine gw_rr (o' := 58 + r1.toNatClampNeg) (by omega) ?_
    refine gw_bipush (v := 8) hC dX1_drawDot_85 (by decide) ?_
    refine gw_aload_n hC dX1_drawDot_87 rfl 1 rfl ?_
    refine gw_get hC cl_X1 fg_X1_38 (hw.lt (by decide)) (gc_1 hw _) (gv_X1_4 _ _ _) dX1_drawDot_88 ?_
    refine gw_iload hC dX1_drawDot_91 0 rfl ?_
    obtain ⟨hi, h⟩ := h
    have hb4 := vp_lt hi
    refine gw_aald hC (hw.lt (by decide)) (gc_12 hw _) (gt_1 hw) rfl hi dX1_drawDot_93 ?_
    refine gw_rr (o' := 13 + r1.toNatClampNeg) (by omega) ?_
    refine gw_iload_n hC dX1_drawDot_94 rfl 4 rfl ?_
    obtain ⟨hi, h⟩ := h
    refine gw_iald hC (gn_a20 hw (gk_ou hb4)) (gc_a20 hw (gk_ou hb4) _) (gt_0 hw) hi dX1_drawDot_95 ?_
    refine gw_calli (gx_rV hC (n := 2) (As := [.int 8, .int (M (13 + r1.toNatClampNeg) v3.toNatClampNeg)]) (rest := [.int v2, .ref (gx_ad w 8)]) (fun sz => c_X2_dotsFrom hw ⟨by omega, by omega⟩ h sz) cv_X1_185_X2_dotsFrom (by rw [hR]; exact rr_X1_drawDot_X2_dotsFrom) ⟨(gn_Ch hw ⟨by omega, by omega⟩), _, _, _, _, gc_Ch hw ⟨by omega, by omega⟩ _, cl_X2.1⟩ rfl rfl (Nat.le_of_ble_eq_true rfl) dX1_drawDot_96) ?_
    intro r5 m6 ⟨hm6, h⟩
    rw [hm6]
    refine gw_callv (gx_rV hC (n := 2) (As := [.int v2, .int r5]) (rest := []) (fun sz => c_X7_brighten hw  h sz) cv_X1_188_X7_brighten (by rw [hR]; exact rr_X1_drawDot_X7_brighten) ⟨(hw.lt (by decide)), _, _, _, _, gc_8 hw _, cl_X7.1⟩ rfl rfl (Nat.le_of_ble_eq_true rfl) dX1_drawDot_99) ?_
    intro M7 h
    exact gw_vret hC hr dX1_drawDot_102 h
  · have h := gx_t h hc
    refine gw_aload_n hC dX1_drawDot_11 rfl 0 rfl ?_
    refine gw_get hC cl_X1 fg_X1_12 (hw.lt (by decide)) (gc_1 hw _) (gv_X1_0 _ _ _) dX1_drawDot_12 ?_
    refine gw_get hC cl_X8 fg_X1_54 (hw.lt (by decide)) (gc_Se hw (by decide) _) (gv_X8_1 _ _ _) dX1_drawDot_15 ?_
    refine gw_rr (o' := 38) (by omega) ?_
    refine gw_iconst (v := 0) hC dX1_drawDot_18 (by decide) ?_
    refine gw_aald hC (hw.lt (by decide)) (gc_CA hw (by decide) _) (gt_4 hw) rfl (i := 0) (by unfold vp_in; decide) dX1_drawDot_19 ?_
    refine gw_rr (o' := 58) (by decide) ?_
    refine gw_bipush (v := 10) hC dX1_drawDot_20 (by decide) ?_
    refine gw_aload_n hC dX1_drawDot_22 rfl 0 rfl ?_
    refine gw_get hC cl_X1 fg_X1_38 (hw.lt (by decide)) (gc_1 hw _) (gv_X1_4 _ _ _) dX1_drawDot_23 ?_
    refine gw_iconst (v := 0) hC dX1_drawDot_26 (by decide) ?_
    refine gw_aald hC (hw.lt (by decide)) (gc_12 hw _) (gt_1 hw) rfl (i := 0) (by unfold vp_in; decide) dX1_drawDot_27 ?_
    refine gw_rr (o' := 13) (by decide) ?_
    refine gw_iload_n hC dX1_drawDot_28 rfl 3 rfl ?_
    obtain ⟨hi, h⟩ := h
    refine gw_iald hC (hw.lt (by decide)) (gc_a20 hw (by decide) _) (gt_0 hw) hi dX1_drawDot_29 ?_
    refine gw_calli (gx_rV hC (n := 2) (As := [.int 10, .int (M 13 v3.toNatClampNeg)]) (rest := []) (fun sz => c_X2_dotsFrom hw (by decide) h sz) cv_X1_185_X2_dotsFrom (by rw [hR]; exact rr_X1_drawDot_X2_dotsFrom) ⟨(hw.lt (by decide)), _, _, _, _, gc_Ch hw (by decide) _, cl_X2.1⟩ rfl rfl (Nat.le_of_ble_eq_true rfl) dX1_drawDot_30) ?_
    intro r8 m9 ⟨hm9, h⟩
    rw [hm9]
    refine gw_istore (lv' := [(4, .int r8), (0, .ref (gx_ad w 1)), (1, .ref (gx_ad w 8)), (2, .int v2), (3, .int v3)]) hC dX1_drawDot_33 (by decide) rfl ?_
    refine gw_aload_n hC dX1_drawDot_35 rfl 2 rfl ?_
    refine gw_iload hC dX1_drawDot_36 0 rfl ?_
    refine gw_aload_n hC dX1_drawDot_38 rfl 1 rfl ?_
    refine gw_get hC cl_X1 fg_X1_12 (hw.lt (by decide)) (gc_1 hw _) (gv_X1_0 _ _ _) dX1_drawDot_39 ?_
    refine gw_get hC cl_X8 fg_X1_54 (hw.lt (by decide)) (gc_Se hw (by decide) _) (gv_X8_1 _ _ _) dX1_drawDot_42 ?_
    refine gw_rr (o' := 38) (by omega) ?_
    refine gw_iconst (v := 1) hC dX1_drawDot_45 (by decide) ?_
    refine gw_aald hC (hw.lt (by decide)) (gc_CA hw (by decide) _) (gt_4 hw) rfl (i := 1) (by unfold vp_in; decide) dX1_drawDot_46 ?_
    refine gw_rr (o' := 59) (by decide) ?_
    refine gw_bipush (v := 8) hC dX1_drawDot_47 (by decide) ?_
    refine gw_aload_n hC dX1_drawDot_49 rfl 1 rfl ?_
    refine gw_get hC cl_X1 fg_X1_38 (hw.lt (by decide)) (gc_1 hw _) (gv_X1_4 _ _ _) dX1_drawDot_50 ?_
    refine gw_iconst (v := 1) hC dX1_drawDot_53 (by decide) ?_
    refine gw_aald hC (hw.lt (by decide)) (gc_12 hw _) (gt_1 hw) rfl (i := 1) (by unfold vp_in; decide) dX1_drawDot_54 ?_
    refine gw_rr (o' := 14) (by decide) ?_
    refine gw_iload_n hC dX1_drawDot_55 rfl 4 rfl ?_
    obtain ⟨hi, h⟩ := h
    refine gw_iald hC (hw.lt (by decide)) (gc_a20 hw (by decide) _) (gt_0 hw) hi dX1_drawDot_56 ?_
    refine gw_calli (gx_rV hC (n := 2) (As := [.int 8, .int (M 14 v3.toNatClampNeg)]) (rest := [.int r8, .ref (gx_ad w 8)]) (fun sz => c_X2_dotsFrom hw (by decide) h sz) cv_X1_185_X2_dotsFrom (by rw [hR]; exact rr_X1_drawDot_X2_dotsFrom) ⟨(hw.lt (by decide)), _, _, _, _, gc_Ch hw (by decide) _, cl_X2.1⟩ rfl rfl (Nat.le_of_ble_eq_true rfl) dX1_drawDot_57) ?_
    intro r10 m11 ⟨hm11, h⟩
    rw [hm11]
    refine gw_callv (gx_rV hC (n := 2) (As := [.int r8, .int r10]) (rest := []) (fun sz => c_X7_brighten hw  h sz) cv_X1_188_X7_brighten (by rw [hR]; exact rr_X1_drawDot_X7_brighten) ⟨(hw.lt (by decide)), _, _, _, _, gc_8 hw _, cl_X7.1⟩ rfl rfl (Nat.le_of_ble_eq_true rfl) dX1_drawDot_60) ?_
    intro M12 h
    refine gw_goto (tgt := 102) hC dX1_drawDot_63 (by decide) ?_
    exact gw_vret hC hr dX1_drawDot_102 h
theorem c_X1_drawDot {l : Launch} {d : gx_D} {w : gx_V} {ca : Nat → ClassId} (hw : gx_isC ca w)   {M : gx_M} {v2 : Int32} {v3 : Int32} {Q : gx_M → Prop} (h : T_X1_drawDot M v2 v3 Q) : gx_Mv l d w yX1_drawDot cX1_drawDot 5 rm_X1_drawDot [.ref (gx_ad w 1), .ref (gx_ad w 8), .int v2, .int v3] M Q := fun sz =>
  gx_of (own := RX1) (by decide +kernel) rfl (Nat.le_of_ble_eq_true rfl) (fun z hC hl hR hsz hr => by subst hsz; exact J_X1_drawDot hC hw hR hr  h) rfl
set_option maxRecDepth 20000 in
theorem J_X1_drawSweep_50 {z : gx_X} {d : gx_D} {w : gx_V} {ca : Nat → ClassId} (hC : gx_C z d w cX1_drawSweep 5 RX1) (hw : gx_isC ca w) (hR : gx_R z = rm_X1_drawSweep) (hr : (gx_me z).sig.returnType = none)  {Q : gx_M → Prop} {K2 : gx_M → Int32 → Int32 → Prop} (hK2 : ∀ (M : gx_M) (v2 : Int32) (v3 : Int32), K2 M v2 v3 → GW z w 5 (gx_Qv w Q (gx_s z).heap.size) M 2 [(0, .ref (gx_ad w 1)), (1, .ref (gx_ad w 8)), (2, .int v2), (3, .int v3)] []) (M : gx_M) (v2 : Int32) (v3 : Int32)  (h : T_X1_drawSweep_50 Q K2 M v2 v3) : GW z w 5 (gx_Qv w Q (gx_s z).heap.size) M 50 [(0, .ref (gx_ad w 1)), (1, .ref (gx_ad w 8)), (2, .int v2), (3, .int v3)] [] := by
  unfold T_X1_drawSweep_50 at h
  obtain ⟨x2, hx2⟩ : ∃ y : Int32, y = v3 + 1 := ⟨_, rfl⟩
  have h := h x2 hx2
  refine gw_iinc (v := x2) (lv' := [(3, .int x2), (0, .ref (gx_ad w 1)), (1, .ref (gx_ad w 8)), (2, .int v2)]) hC dX1_drawSweep_50 (k := 3) rfl (by rw [hx2]; rfl) (by decide) rfl ?_
  refine gw_goto (tgt := 2) hC dX1_drawSweep_53 (by decide) ?_
  refine gw_sub (lv' := [(0, .ref (gx_ad w 1)), (1, .ref (gx_ad w 8)), (2, .int v2), (3, .int x2)]) [1, 2, 3, 0] rfl ?_
  exact hK2 M v2 x2 h
set_option maxRecDepth 20000 in
theorem J_X1_drawSweep_2 {z : gx_X} {d : gx_D} {w : gx_V} {ca : Nat → ClassId} (hC : gx_C z d w cX1_drawSweep 5 RX1) (hw : gx_isC ca w) (hR : gx_R z = rm_X1_drawSweep) (hr : (gx_me z).sig.returnType = none)  {Q : gx_M → Prop}   : ∀ (n : Nat) (M : gx_M) (v2 : Int32) (v3 : Int32) , T_X1_drawSweep_2 Q  n M v2 v3 → GW z w 5 (gx_Qv w Q (gx_s z).heap.size) M 2 [(0, .ref (gx_ad w 1)), (1, .ref (gx_ad w 8)), (2, .int v2), (3, .int v3)] [] := by
  intro n
  induction n with
  | zero =>
    intro M v2 v3 h
    exact h.elim
  | succ n ih =>
    intro M v2 v3 h
    rw [T_X1_drawSweep_2] at h
    refine gw_iload_n hC dX1_drawSweep_2 rfl 3 rfl ?_
    refine gw_bipush (v := 20) hC dX1_drawSweep_3 (by decide) ?_
    refine gw_icmp_ge (tgt := 56) hC dX1_drawSweep_5 (by decide) (fun hc => ?_) (fun hc => ?_)
    · have h := gx_t h hc
      exact gw_vret hC hr dX1_drawSweep_56 h
    · have h := gx_f h hc
      refine gw_aload_n hC dX1_drawSweep_8 rfl 0 rfl ?_
      refine gw_get hC cl_X1 fg_X1_51 (hw.lt (by decide)) (gc_1 hw _) (gv_X1_8 _ _ _) dX1_drawSweep_9 ?_
      refine gw_iload_n hC dX1_drawSweep_12 rfl 3 rfl ?_
      refine gw_aload_n hC dX1_drawSweep_13 rfl 0 rfl ?_
      refine gw_get hC cl_X1 fg_X1_12 (hw.lt (by decide)) (gc_1 hw _) (gv_X1_0 _ _ _) dX1_drawSweep_14 ?_
      refine gw_get hC cl_X8 fg_X1_120 (hw.lt (by decide)) (gc_Se hw (by decide) _) (gv_X8_3 _ _ _) dX1_drawSweep_17 ?_
      refine gw_imul hC dX1_drawSweep_20 ?_
      refine gw_iadd hC dX1_drawSweep_21 ?_
      refine gw_nm (fun x1 hx1 => ?_)
      have h := h x1 hx1
      refine gw_istore (lv' := [(4, .int x1), (0, .ref (gx_ad w 1)), (1, .ref (gx_ad w 8)), (2, .int v2), (3, .int v3)]) hC dX1_drawSweep_22 (by decide) rfl ?_
      refine gw_iload hC dX1_drawSweep_24 0 rfl ?_
      refine gw_iload_n hC dX1_drawSweep_26 rfl 3 rfl ?_
      refine gw_icmp_ge (tgt := 50) hC dX1_drawSweep_27 (by decide) (fun hc => ?_) (fun hc => ?_)
      · have h := gx_t h hc
        refine gw_sub (lv' := [(0, .ref (gx_ad w 1)), (1, .ref (gx_ad w 8)), (2, .int v2), (3, .int v3)]) [1, 2, 3, 4] rfl ?_
        exact J_X1_drawSweep_50 hC hw hR hr ih M v2 v3 h
      · have h := gx_f h hc
        refine gw_iload hC dX1_drawSweep_30 0 rfl ?_
        refine gw_iconst (v := 0) hC dX1_drawSweep_32 (by decide) ?_
        refine gw_sipush (v := 1999) hC dX1_drawSweep_33 (by decide) ?_
        refine gw_calli (gx_rN hC (n := 3) (As := [.int x1, .int 0, .int 1999]) (rest := []) (fun sz => c_X10_within hw  h sz) cn_X1_84_X10_within (by rw [hR]; exact rr_X1_drawSweep_X10_within) rfl rfl (Nat.le_of_ble_eq_true rfl) dX1_drawSweep_36) ?_
        intro r3 m4 ⟨hm4, h⟩
        rw [hm4]
        refine gw_if_eq (tgt := 50) hC dX1_drawSweep_39 (by decide) (fun hc => ?_) (fun hc => ?_)
        · have h := gx_t h hc
          refine gw_sub (lv' := [(0, .ref (gx_ad w 1)), (1, .ref (gx_ad w 8)), (2, .int v2), (3, .int v3)]) [1, 2, 3, 4] rfl ?_
          exact J_X1_drawSweep_50 hC hw hR hr ih M v2 v3 h
        · have h := gx_f h hc
          refine gw_aload_n hC dX1_drawSweep_42 rfl 1 rfl ?_
          refine gw_aload_n hC dX1_drawSweep_43 rfl 2 rfl ?_
          refine gw_iload_n hC dX1_drawSweep_44 rfl 4 rfl ?_
          refine gw_iload hC dX1_drawSweep_45 0 rfl ?_
          refine gw_callv (gx_rV hC (n := 3) (As := [.ref (gx_ad w 8), .int v3, .int x1]) (rest := []) (fun sz => c_X1_drawDot hw  h sz) cv_X1_178_X1_drawDot (by rw [hR]; exact rr_X1_drawSweep_X1_drawDot) ⟨(hw.lt (by decide)), _, _, _, _, gc_1 hw _, cl_X1.1⟩ rfl rfl (Nat.le_of_ble_eq_true rfl) dX1_drawSweep_47) ?_
          intro M5 h
          refine gw_sub (lv' := [(0, .ref (gx_ad w 1)), (1, .ref (gx_ad w 8)), (2, .int v2), (3, .int v3)]) [1, 2, 3, 4] rfl ?_
          exact J_X1_drawSweep_50 hC hw hR hr ih M5 v2 v3 h
set_option maxRecDepth 20000 in
theorem J_X1_drawSweep {z : gx_X} {d : gx_D} {w : gx_V} {ca : Nat → ClassId} (hC : gx_C z d w cX1_drawSweep 5 RX1) (hw : gx_isC ca w) (hR : gx_R z = rm_X1_drawSweep) (hr : (gx_me z).sig.returnType = none)   {M : gx_M} {v2 : Int32} {Q : gx_M → Prop} (h : T_X1_drawSweep M v2 Q) : GW z w 5 (gx_Qv w Q (gx_s z).heap.size) M 0 [(0, .ref (gx_ad w 1)), (1, .ref (gx_ad w 8)), (2, .int v2)] [] := by
  unfold T_X1_drawSweep at h
  refine gw_iconst (v := 0) hC dX1_drawSweep_0 (by decide) ?_
  refine gw_istore_n (lv' := [(3, .int 0), (0, .ref (gx_ad w 1)), (1, .ref (gx_ad w 8)), (2, .int v2)]) hC dX1_drawSweep_1 rfl (by decide) rfl ?_
  obtain ⟨k6, h⟩ := h
  refine gw_sub (lv' := [(0, .ref (gx_ad w 1)), (1, .ref (gx_ad w 8)), (2, .int v2), (3, .int 0)]) [1, 2, 3, 0] rfl ?_
  exact J_X1_drawSweep_2 hC hw hR hr  k6 M v2 0 h
theorem c_X1_drawSweep {l : Launch} {d : gx_D} {w : gx_V} {ca : Nat → ClassId} (hw : gx_isC ca w)   {M : gx_M} {v2 : Int32} {Q : gx_M → Prop} (h : T_X1_drawSweep M v2 Q) : gx_Mv l d w yX1_drawSweep cX1_drawSweep 5 rm_X1_drawSweep [.ref (gx_ad w 1), .ref (gx_ad w 8), .int v2] M Q := fun sz =>
  gx_of (own := RX1) (by decide +kernel) rfl (Nat.le_of_ble_eq_true rfl) (fun z hC hl hR hsz hr => by subst hsz; exact J_X1_drawSweep hC hw hR hr  h) rfl
set_option maxRecDepth 20000 in
theorem J_X1_draw_55 {z : gx_X} {d : gx_D} {w : gx_V} {ca : Nat → ClassId} (hC : gx_C z d w cX1_draw 4 RX1) (hw : gx_isC ca w) (hR : gx_R z = rm_X1_draw) (hr : (gx_me z).sig.returnType = none)  {Q : gx_M → Prop} {K17 : gx_M → Int32 → Int32 → Prop} (hK17 : ∀ (M : gx_M) (v2 : Int32) (v3 : Int32), K17 M v2 v3 → GW z w 4 (gx_Qv w Q (gx_s z).heap.size) M 17 [(0, .ref (gx_ad w 1)), (1, .ref (gx_ad w 8)), (2, .int v2), (3, .int v3)] []) (M : gx_M) (v2 : Int32) (v3 : Int32)  (h : T_X1_draw_55 Q K17 M v2 v3) : GW z w 4 (gx_Qv w Q (gx_s z).heap.size) M 55 [(0, .ref (gx_ad w 1)), (1, .ref (gx_ad w 8)), (2, .int v2), (3, .int v3)] [] := by
  unfold T_X1_draw_55 at h
  obtain ⟨x6, hx6⟩ : ∃ y : Int32, y = v3 + 1 := ⟨_, rfl⟩
  have h := h x6 hx6
  refine gw_iinc (v := x6) (lv' := [(3, .int x6), (0, .ref (gx_ad w 1)), (1, .ref (gx_ad w 8)), (2, .int v2)]) hC dX1_draw_55 (k := 3) rfl (by rw [hx6]; rfl) (by decide) rfl ?_
  refine gw_goto (tgt := 17) hC dX1_draw_58 (by decide) ?_
  refine gw_sub (lv' := [(0, .ref (gx_ad w 1)), (1, .ref (gx_ad w 8)), (2, .int v2), (3, .int x6)]) [1, 2, 3, 0] rfl ?_
  exact hK17 M v2 x6 h
set_option maxRecDepth 20000 in
theorem J_X1_draw_17 {z : gx_X} {d : gx_D} {w : gx_V} {ca : Nat → ClassId} (hC : gx_C z d w cX1_draw 4 RX1) (hw : gx_isC ca w) (hR : gx_R z = rm_X1_draw) (hr : (gx_me z).sig.returnType = none)  {Q : gx_M → Prop} {K61 : gx_M → Prop} (hK61 : ∀ (M : gx_M), K61 M → GW z w 4 (gx_Qv w Q (gx_s z).heap.size) M 61 [] []) : ∀ (n : Nat) (M : gx_M) (v2 : Int32) (v3 : Int32) , T_X1_draw_17 Q K61 n M v2 v3 → GW z w 4 (gx_Qv w Q (gx_s z).heap.size) M 17 [(0, .ref (gx_ad w 1)), (1, .ref (gx_ad w 8)), (2, .int v2), (3, .int v3)] [] := by
  intro n
  induction n with
  | zero =>
    intro M v2 v3 h
    exact h.elim
  | succ n ih =>
    intro M v2 v3 h
    rw [T_X1_draw_17] at h
    refine gw_iload_n hC dX1_draw_17 rfl 3 rfl ?_
    refine gw_iload_n hC dX1_draw_18 rfl 2 rfl ?_
    refine gw_icmp_ge (tgt := 61) hC dX1_draw_19 (by decide) (fun hc => ?_) (fun hc => ?_)
    · have h := gx_t h hc
      refine gw_sub (lv' := []) [] rfl ?_
      exact hK61 M h
    · have h := gx_f h hc
      refine gw_aload_n hC dX1_draw_22 rfl 0 rfl ?_
      refine gw_iload_n hC dX1_draw_23 rfl 2 rfl ?_
      refine gw_calli (gx_rV hC (n := 1) (As := [.int v2]) (rest := []) (fun sz => c_X1_next hw  h sz) cv_X1_165_X1_next (by rw [hR]; exact rr_X1_draw_X1_next) ⟨(hw.lt (by decide)), _, _, _, _, gc_1 hw _, cl_X1.1⟩ rfl rfl (Nat.le_of_ble_eq_true rfl) dX1_draw_24) ?_
      intro r5 M4 h
      refine gw_if_eq (tgt := 61) hC dX1_draw_27 (by decide) (fun hc => ?_) (fun hc => ?_)
      · have h := gx_t h hc
        refine gw_sub (lv' := []) [] rfl ?_
        exact hK61 M4 h
      · have h := gx_f h hc
        refine gw_aload_n hC dX1_draw_30 rfl 0 rfl ?_
        refine gw_get hC cl_X1 fg_X1_51 (hw.lt (by decide)) (gc_1 hw _) (gv_X1_8 _ _ _) dX1_draw_31 ?_
        refine gw_iload_n hC dX1_draw_34 rfl 2 rfl ?_
        refine gw_icmp_ge (tgt := 55) hC dX1_draw_35 (by decide) (fun hc => ?_) (fun hc => ?_)
        · have h := gx_t h hc
          exact J_X1_draw_55 hC hw hR hr ih M4 v2 v3 h
        · have h := gx_f h hc
          refine gw_aload_n hC dX1_draw_38 rfl 1 rfl ?_
          refine gw_aload_n hC dX1_draw_39 rfl 0 rfl ?_
          refine gw_get hC cl_X1 fg_X1_12 (hw.lt (by decide)) (gc_1 hw _) (gv_X1_0 _ _ _) dX1_draw_40 ?_
          refine gw_get hC cl_X8 fg_X1_168 (hw.lt (by decide)) (gc_Se hw (by decide) _) (gv_X8_5 _ _ _) dX1_draw_43 ?_
          refine gw_callv (gx_rV hC (n := 1) (As := [.int (M4 34 5)]) (rest := []) (fun sz => c_X7_dim hw  h sz) cv_X1_171_X7_dim (by rw [hR]; exact rr_X1_draw_X7_dim) ⟨(hw.lt (by decide)), _, _, _, _, gc_8 hw _, cl_X7.1⟩ rfl rfl (Nat.le_of_ble_eq_true rfl) dX1_draw_46) ?_
          intro M7 h
          refine gw_aload_n hC dX1_draw_49 rfl 0 rfl ?_
          refine gw_aload_n hC dX1_draw_50 rfl 1 rfl ?_
          refine gw_iload_n hC dX1_draw_51 rfl 2 rfl ?_
          refine gw_callv (gx_rV hC (n := 2) (As := [.ref (gx_ad w 8), .int v2]) (rest := []) (fun sz => c_X1_drawSweep hw  h sz) cv_X1_174_X1_drawSweep (by rw [hR]; exact rr_X1_draw_X1_drawSweep) ⟨(hw.lt (by decide)), _, _, _, _, gc_1 hw _, cl_X1.1⟩ rfl rfl (Nat.le_of_ble_eq_true rfl) dX1_draw_52) ?_
          intro M8 h
          exact J_X1_draw_55 hC hw hR hr ih M8 v2 v3 h
set_option maxRecDepth 20000 in
theorem J_X1_draw {z : gx_X} {d : gx_D} {w : gx_V} {ca : Nat → ClassId} (hC : gx_C z d w cX1_draw 4 RX1) (hw : gx_isC ca w) (hR : gx_R z = rm_X1_draw) (hr : (gx_me z).sig.returnType = none)   {M : gx_M} {v2 : Int32} {Q : gx_M → Prop} (h : T_X1_draw M v2 Q) : GW z w 4 (gx_Qv w Q (gx_s z).heap.size) M 0 [(0, .ref (gx_ad w 1)), (1, .ref (gx_ad w 8)), (2, .int v2)] [] := by
  unfold T_X1_draw at h
  refine gw_aload_n hC dX1_draw_0 rfl 1 rfl ?_
  refine gw_callv (gx_rV hC (n := 0) (As := []) (rest := []) (fun sz => c_X7_darken hw  h sz) cv_X1_157_X7_darken (by rw [hR]; exact rr_X1_draw_X7_darken) ⟨(hw.lt (by decide)), _, _, _, _, gc_8 hw _, cl_X7.1⟩ rfl rfl (Nat.le_of_ble_eq_true rfl) dX1_draw_1) ?_
  intro M1 h
  refine gw_aload_n hC dX1_draw_4 rfl 0 rfl ?_
  refine gw_iload_n hC dX1_draw_5 rfl 2 rfl ?_
  refine gw_iconst (v := 1) hC dX1_draw_6 (by decide) ?_
  refine gw_isub hC dX1_draw_7 ?_
  refine gw_callv (gx_rV hC (n := 1) (As := [.int (v2 - 1)]) (rest := []) (fun sz => c_X1_traceTo hw  h sz) cv_X1_88_X1_traceTo (by rw [hR]; exact rr_X1_draw_X1_traceTo) ⟨(hw.lt (by decide)), _, _, _, _, gc_1 hw _, cl_X1.1⟩ rfl rfl (Nat.le_of_ble_eq_true rfl) dX1_draw_8) ?_
  intro M2 h
  refine gw_aload_n hC dX1_draw_11 rfl 0 rfl ?_
  refine gw_callv (gx_rV hC (n := 0) (As := []) (rest := []) (fun sz => c_X1_restart hw  h sz) cv_X1_162_X1_restart (by rw [hR]; exact rr_X1_draw_X1_restart) ⟨(hw.lt (by decide)), _, _, _, _, gc_1 hw _, cl_X1.1⟩ rfl rfl (Nat.le_of_ble_eq_true rfl) dX1_draw_12) ?_
  intro M3 h
  refine gw_iconst (v := 0) hC dX1_draw_15 (by decide) ?_
  refine gw_istore_n (lv' := [(3, .int 0), (0, .ref (gx_ad w 1)), (1, .ref (gx_ad w 8)), (2, .int v2)]) hC dX1_draw_16 rfl (by decide) rfl ?_
  obtain ⟨k9, h⟩ := h
  refine gw_sub (lv' := [(0, .ref (gx_ad w 1)), (1, .ref (gx_ad w 8)), (2, .int v2), (3, .int 0)]) [1, 2, 3, 0] rfl ?_
  exact J_X1_draw_17 hC hw hR hr (fun M10 h => by
      exact gw_vret hC hr dX1_draw_61 h) k9 M3 v2 0 h
theorem c_X1_draw {l : Launch} {d : gx_D} {w : gx_V} {ca : Nat → ClassId} (hw : gx_isC ca w)   {M : gx_M} {v2 : Int32} {Q : gx_M → Prop} (h : T_X1_draw M v2 Q) : gx_Mv l d w yX1_draw cX1_draw 4 rm_X1_draw [.ref (gx_ad w 1), .ref (gx_ad w 8), .int v2] M Q := fun sz =>
  gx_of (own := RX1) (by decide +kernel) rfl (Nat.le_of_ble_eq_true rfl) (fun z hC hl hR hsz hr => by subst hsz; exact J_X1_draw hC hw hR hr  h) rfl
set_option maxRecDepth 20000 in
theorem J_X3_isOn {z : gx_X} {d : gx_D} {w : gx_V} {ca : Nat → ClassId} (hC : gx_C z d w cX3_isOn 2 RX3) (hw : gx_isC ca w) (hR : gx_R z = rm_X3_isOn) (hr : (gx_me z).sig.returnType = (some .boolean)) {o0 : Nat} (ho0 : pk_Pt o0) {M : gx_M} {v1 : Int32} {Q : Int32 → Prop} (h : T_X3_isOn M o0 v1 Q) : GW z w 2 (gx_Qi w (fun r M1 => M1 = M ∧ Q r) (gx_s z).heap.size) M 0 [(0, .ref (gx_ad w o0)), (1, .int v1)] [] := by
  unfold T_X3_isOn at h
  have ⟨ho0a, ho0b⟩ := ho0
  refine gw_aload_n hC dX3_isOn_0 rfl 0 rfl ?_
  refine gw_iload_n hC dX3_isOn_1 rfl 1 rfl ?_
  refine gw_calli (gx_rV hC (n := 1) (As := [.int v1]) (rest := []) (fun sz => c_X3_phase hw ⟨by omega, by omega⟩ h sz) cv_X3_27_X3_phase (by rw [hR]; exact rr_X3_isOn_X3_phase) ⟨(gn_Pt hw ⟨by omega, by omega⟩), _, _, _, _, gc_Pt hw ⟨by omega, by omega⟩ _, cl_X3.1⟩ rfl rfl (Nat.le_of_ble_eq_true rfl) dX3_isOn_2) ?_
  intro r1 m2 ⟨hm2, h⟩
  rw [hm2]
  refine gw_aload_n hC dX3_isOn_5 rfl 0 rfl ?_
  refine gw_get hC cl_X3 fg_X3_21 (gn_Pt hw ⟨by omega, by omega⟩) (gc_Pt hw ⟨by omega, by omega⟩ _) (gv_X3_3 _ _ _) dX3_isOn_6 ?_
  refine gw_icmp_ge (tgt := 16) hC dX3_isOn_9 (by decide) (fun hc => ?_) (fun hc => ?_)
  · have h := gx_t h hc
    refine gw_iconst (v := 0) hC dX3_isOn_16 (by decide) ?_
    exact gw_zret hC hr rfl dX3_isOn_17 ⟨rfl, h⟩
  · have h := gx_f h hc
    refine gw_iconst (v := 1) hC dX3_isOn_12 (by decide) ?_
    refine gw_goto (tgt := 17) hC dX3_isOn_13 (by decide) ?_
    exact gw_zret hC hr rfl dX3_isOn_17 ⟨rfl, h⟩
theorem c_X3_isOn {l : Launch} {d : gx_D} {w : gx_V} {ca : Nat → ClassId} (hw : gx_isC ca w) {o0 : Nat} (ho0 : pk_Pt o0) {M : gx_M} {v1 : Int32} {Q : Int32 → Prop} (h : T_X3_isOn M o0 v1 Q) : gx_Mi l d w yX3_isOn cX3_isOn 2 .boolean rm_X3_isOn [.ref (gx_ad w o0), .int v1] M (fun r M1 => M1 = M ∧ Q r) := fun sz =>
  gx_of (own := RX3) (by decide +kernel) rfl (Nat.le_of_ble_eq_true rfl) (fun z hC hl hR hsz hr => by subst hsz; exact J_X3_isOn hC hw hR hr ho0 h) rfl
set_option maxRecDepth 20000 in
theorem J_X1_isShown_43 {z : gx_X} {d : gx_D} {w : gx_V} {ca : Nat → ClassId} (hC : gx_C z d w cX1_isShown 3 RX1) (hw : gx_isC ca w) (hR : gx_R z = rm_X1_isShown) (hr : (gx_me z).sig.returnType = (some .boolean)) {M : gx_M} {Q : Int32 → Prop}     (h : T_X1_isShown_43 M Q  ) : GW z w 3 (gx_Qi w (fun r M1 => M1 = M ∧ Q r) (gx_s z).heap.size) M 43 [] [] := by
  unfold T_X1_isShown_43 at h
  refine gw_iconst (v := 1) hC dX1_isShown_43 (by decide) ?_
  refine gw_goto (tgt := 48) hC dX1_isShown_44 (by decide) ?_
  exact gw_zret hC hr rfl dX1_isShown_48 ⟨rfl, h⟩
set_option maxRecDepth 20000 in
theorem J_X1_isShown {z : gx_X} {d : gx_D} {w : gx_V} {ca : Nat → ClassId} (hC : gx_C z d w cX1_isShown 3 RX1) (hw : gx_isC ca w) (hR : gx_R z = rm_X1_isShown) (hr : (gx_me z).sig.returnType = (some .boolean))   {M : gx_M} {v1 : Int32} {v2 : Int32} {Q : Int32 → Prop} (h : T_X1_isShown M v1 v2 Q) : GW z w 3 (gx_Qi w (fun r M1 => M1 = M ∧ Q r) (gx_s z).heap.size) M 0 [(0, .ref (gx_ad w 1)), (1, .int v1), (2, .int v2)] [] := by
  unfold T_X1_isShown at h
  refine gw_aload_n hC dX1_isShown_0 rfl 0 rfl ?_
  refine gw_get hC cl_X1 fg_X1_12 (hw.lt (by decide)) (gc_1 hw _) (gv_X1_0 _ _ _) dX1_isShown_1 ?_
  refine gw_get hC cl_X8 fg_X1_182 (hw.lt (by decide)) (gc_Se hw (by decide) _) (gv_X8_6 _ _ _) dX1_isShown_4 ?_
  refine gw_iconst (v := 3) hC dX1_isShown_7 (by decide) ?_
  refine gw_icmp_ne (tgt := 49) hC dX1_isShown_8 (by decide) (fun hc => ?_) (fun hc => ?_)
  · have h := gx_f h hc
    refine gw_aload_n hC dX1_isShown_49 rfl 0 rfl ?_
    refine gw_get hC cl_X1 fg_X1_12 (hw.lt (by decide)) (gc_1 hw _) (gv_X1_0 _ _ _) dX1_isShown_50 ?_
    refine gw_get hC cl_X8 fg_X1_54 (hw.lt (by decide)) (gc_Se hw (by decide) _) (gv_X8_1 _ _ _) dX1_isShown_53 ?_
    refine gw_rr (o' := 38) (by omega) ?_
    refine gw_aload_n hC dX1_isShown_56 rfl 0 rfl ?_
    refine gw_iload_n hC dX1_isShown_57 rfl 2 rfl ?_
    refine gw_calli (gx_rV hC (n := 1) (As := [.int v2]) (rest := [.ref (gx_ad w 38)]) (fun sz => c_X1_turnAt hw  h sz) cv_X1_192_X1_turnAt (by rw [hR]; exact rr_X1_isShown_X1_turnAt) ⟨(hw.lt (by decide)), _, _, _, _, gc_1 hw _, cl_X1.1⟩ rfl rfl (Nat.le_of_ble_eq_true rfl) dX1_isShown_58) ?_
    intro r1 m2 ⟨hm2, h⟩
    rw [hm2]
    obtain ⟨hi, h⟩ := h
    have hb3 := vp_lt hi
    refine gw_aald hC (hw.lt (by decide)) (gc_CA hw (by decide) _) (gt_4 hw) rfl hi dX1_isShown_61 ?_
    refine gw_rr (o' := 58 + r1.toNatClampNeg) (by omega) ?_
    refine gw_get hC cl_X2 fg_X1_58 (gn_Ch hw ⟨by omega, by omega⟩) (gc_Ch hw ⟨by omega, by omega⟩ _) (gv_X2_0 _ _ _) dX1_isShown_62 ?_
    refine gw_iload_n hC dX1_isShown_65 rfl 1 rfl ?_
    refine gw_icmp_ne (tgt := 73) hC dX1_isShown_66 (by decide) (fun hc => ?_) (fun hc => ?_)
    · have h := gx_f h hc
      refine gw_iconst (v := 0) hC dX1_isShown_73 (by decide) ?_
      exact gw_zret hC hr rfl dX1_isShown_74 ⟨rfl, h⟩
    · have h := gx_t h hc
      refine gw_iconst (v := 1) hC dX1_isShown_69 (by decide) ?_
      refine gw_goto (tgt := 74) hC dX1_isShown_70 (by decide) ?_
      exact gw_zret hC hr rfl dX1_isShown_74 ⟨rfl, h⟩
  · have h := gx_t h hc
    refine gw_aload_n hC dX1_isShown_11 rfl 0 rfl ?_
    refine gw_get hC cl_X1 fg_X1_12 (hw.lt (by decide)) (gc_1 hw _) (gv_X1_0 _ _ _) dX1_isShown_12 ?_
    refine gw_get hC cl_X8 fg_X1_54 (hw.lt (by decide)) (gc_Se hw (by decide) _) (gv_X8_1 _ _ _) dX1_isShown_15 ?_
    refine gw_rr (o' := 38) (by omega) ?_
    refine gw_iconst (v := 0) hC dX1_isShown_18 (by decide) ?_
    refine gw_aald hC (hw.lt (by decide)) (gc_CA hw (by decide) _) (gt_4 hw) rfl (i := 0) (by unfold vp_in; decide) dX1_isShown_19 ?_
    refine gw_rr (o' := 58) (by decide) ?_
    refine gw_get hC cl_X2 fg_X1_58 (hw.lt (by decide)) (gc_Ch hw (by decide) _) (gv_X2_0 _ _ _) dX1_isShown_20 ?_
    refine gw_iload_n hC dX1_isShown_23 rfl 1 rfl ?_
    refine gw_icmp_eq (tgt := 43) hC dX1_isShown_24 (by decide) (fun hc => ?_) (fun hc => ?_)
    · have h := gx_t h hc
      refine gw_sub (lv' := []) [] rfl ?_
      exact J_X1_isShown_43 hC hw hR hr   h
    · have h := gx_f h hc
      refine gw_aload_n hC dX1_isShown_27 rfl 0 rfl ?_
      refine gw_get hC cl_X1 fg_X1_12 (hw.lt (by decide)) (gc_1 hw _) (gv_X1_0 _ _ _) dX1_isShown_28 ?_
      refine gw_get hC cl_X8 fg_X1_54 (hw.lt (by decide)) (gc_Se hw (by decide) _) (gv_X8_1 _ _ _) dX1_isShown_31 ?_
      refine gw_rr (o' := 38) (by omega) ?_
      refine gw_iconst (v := 1) hC dX1_isShown_34 (by decide) ?_
      refine gw_aald hC (hw.lt (by decide)) (gc_CA hw (by decide) _) (gt_4 hw) rfl (i := 1) (by unfold vp_in; decide) dX1_isShown_35 ?_
      refine gw_rr (o' := 59) (by decide) ?_
      refine gw_get hC cl_X2 fg_X1_58 (hw.lt (by decide)) (gc_Ch hw (by decide) _) (gv_X2_0 _ _ _) dX1_isShown_36 ?_
      refine gw_iload_n hC dX1_isShown_39 rfl 1 rfl ?_
      refine gw_icmp_ne (tgt := 47) hC dX1_isShown_40 (by decide) (fun hc => ?_) (fun hc => ?_)
      · have h := gx_f h hc
        refine gw_iconst (v := 0) hC dX1_isShown_47 (by decide) ?_
        exact gw_zret hC hr rfl dX1_isShown_48 ⟨rfl, h⟩
      · have h := gx_t h hc
        refine gw_sub (lv' := []) [] rfl ?_
        exact J_X1_isShown_43 hC hw hR hr   h
theorem c_X1_isShown {l : Launch} {d : gx_D} {w : gx_V} {ca : Nat → ClassId} (hw : gx_isC ca w)   {M : gx_M} {v1 : Int32} {v2 : Int32} {Q : Int32 → Prop} (h : T_X1_isShown M v1 v2 Q) : gx_Mi l d w yX1_isShown cX1_isShown 3 .boolean rm_X1_isShown [.ref (gx_ad w 1), .int v1, .int v2] M (fun r M1 => M1 = M ∧ Q r) := fun sz =>
  gx_of (own := RX1) (by decide +kernel) rfl (Nat.le_of_ble_eq_true rfl) (fun z hC hl hR hsz hr => by subst hsz; exact J_X1_isShown hC hw hR hr  h) rfl
set_option maxRecDepth 20000 in
theorem J_X1_catches_75 {z : gx_X} {d : gx_D} {w : gx_V} {ca : Nat → ClassId} (hC : gx_C z d w cX1_catches 7 RX1) (hw : gx_isC ca w) (hR : gx_R z = rm_X1_catches) (hr : (gx_me z).sig.returnType = (some .boolean))  {Q : Int32 → gx_M → Prop} {K24 : gx_M → Int32 → Nat → Int32 → Int32 → Int32 → Prop} (hK24 : ∀ (M : gx_M) (v1 : Int32) (o2 : Nat) (v3 : Int32) (v4 : Int32) (v5 : Int32) (ho2 : pk_Pt o2), K24 M v1 o2 v3 v4 v5 → GW z w 7 (gx_Qi w Q (gx_s z).heap.size) M 24 [(0, .ref (gx_ad w 1)), (1, .int v1), (2, .ref (gx_ad w o2)), (3, .int v3), (4, .int v4), (5, .int v5)] []) (M : gx_M) (v1 : Int32) (o2 : Nat) (v3 : Int32) (v4 : Int32) (v5 : Int32) (ho2 : pk_Pt o2) (h : T_X1_catches_75 Q K24 M v1 o2 v3 v4 v5) : GW z w 7 (gx_Qi w Q (gx_s z).heap.size) M 75 [(0, .ref (gx_ad w 1)), (1, .int v1), (2, .ref (gx_ad w o2)), (3, .int v3), (4, .int v4), (5, .int v5)] [] := by
  unfold T_X1_catches_75 at h
  have ⟨ho2a, ho2b⟩ := ho2
  obtain ⟨x5, hx5⟩ : ∃ y : Int32, y = v5 + 1 := ⟨_, rfl⟩
  have h := h x5 hx5
  refine gw_iinc (v := x5) (lv' := [(5, .int x5), (0, .ref (gx_ad w 1)), (1, .int v1), (2, .ref (gx_ad w o2)), (3, .int v3), (4, .int v4)]) hC dX1_catches_75 (k := 5) rfl (by rw [hx5]; rfl) (by decide) rfl ?_
  refine gw_goto (tgt := 24) hC dX1_catches_78 (by decide) ?_
  refine gw_sub (lv' := [(0, .ref (gx_ad w 1)), (1, .int v1), (2, .ref (gx_ad w o2)), (3, .int v3), (4, .int v4), (5, .int x5)]) [1, 2, 3, 4, 5, 0] rfl ?_
  exact hK24 M v1 o2 v3 v4 x5 ⟨by omega, by omega⟩ h
set_option maxRecDepth 20000 in
theorem J_X1_catches_24 {z : gx_X} {d : gx_D} {w : gx_V} {ca : Nat → ClassId} (hC : gx_C z d w cX1_catches 7 RX1) (hw : gx_isC ca w) (hR : gx_R z = rm_X1_catches) (hr : (gx_me z).sig.returnType = (some .boolean))  {Q : Int32 → gx_M → Prop} {K81 : gx_M → Int32 → Nat → Int32 → Int32 → Prop} (hK81 : ∀ (M : gx_M) (v1 : Int32) (o2 : Nat) (v3 : Int32) (v4 : Int32) (ho2 : pk_Pt o2), K81 M v1 o2 v3 v4 → GW z w 7 (gx_Qi w Q (gx_s z).heap.size) M 81 [(0, .ref (gx_ad w 1)), (1, .int v1), (2, .ref (gx_ad w o2)), (3, .int v3), (4, .int v4)] []) : ∀ (n : Nat) (M : gx_M) (v1 : Int32) (o2 : Nat) (v3 : Int32) (v4 : Int32) (v5 : Int32) (ho2 : pk_Pt o2), T_X1_catches_24 Q K81 n M v1 o2 v3 v4 v5 → GW z w 7 (gx_Qi w Q (gx_s z).heap.size) M 24 [(0, .ref (gx_ad w 1)), (1, .int v1), (2, .ref (gx_ad w o2)), (3, .int v3), (4, .int v4), (5, .int v5)] [] := by
  intro n
  induction n with
  | zero =>
    intro M v1 o2 v3 v4 v5 ho2 h
    exact h.elim
  | succ n ih =>
    intro M v1 o2 v3 v4 v5 ho2 h
    rw [T_X1_catches_24] at h
    have ⟨ho2a, ho2b⟩ := ho2
    refine gw_iload hC dX1_catches_24 5 rfl ?_
    refine gw_bipush (v := 20) hC dX1_catches_26 (by decide) ?_
    refine gw_icmp_ge (tgt := 81) hC dX1_catches_28 (by decide) (fun hc => ?_) (fun hc => ?_)
    · have h := gx_t h hc
      refine gw_sub (lv' := [(0, .ref (gx_ad w 1)), (1, .int v1), (2, .ref (gx_ad w o2)), (3, .int v3), (4, .int v4)]) [0, 1, 2, 3, 4] rfl ?_
      exact hK81 M v1 o2 v3 v4 ⟨by omega, by omega⟩ h
    · have h := gx_f h hc
      refine gw_aload_n hC dX1_catches_31 rfl 0 rfl ?_
      refine gw_get hC cl_X1 fg_X1_51 (hw.lt (by decide)) (gc_1 hw _) (gv_X1_8 _ _ _) dX1_catches_32 ?_
      refine gw_iload hC dX1_catches_35 5 rfl ?_
      refine gw_aload_n hC dX1_catches_37 rfl 0 rfl ?_
      refine gw_get hC cl_X1 fg_X1_12 (hw.lt (by decide)) (gc_1 hw _) (gv_X1_0 _ _ _) dX1_catches_38 ?_
      refine gw_get hC cl_X8 fg_X1_120 (hw.lt (by decide)) (gc_Se hw (by decide) _) (gv_X8_3 _ _ _) dX1_catches_41 ?_
      refine gw_imul hC dX1_catches_44 ?_
      refine gw_iadd hC dX1_catches_45 ?_
      refine gw_nm (fun x4 hx4 => ?_)
      have h := h x4 hx4
      refine gw_istore (lv' := [(6, .int x4), (0, .ref (gx_ad w 1)), (1, .int v1), (2, .ref (gx_ad w o2)), (3, .int v3), (4, .int v4), (5, .int v5)]) hC dX1_catches_46 (by decide) rfl ?_
      refine gw_iload hC dX1_catches_48 0 rfl ?_
      refine gw_iload_n hC dX1_catches_50 rfl 4 rfl ?_
      refine gw_icmp_ge (tgt := 75) hC dX1_catches_51 (by decide) (fun hc => ?_) (fun hc => ?_)
      · have h := gx_t h hc
        refine gw_sub (lv' := [(0, .ref (gx_ad w 1)), (1, .int v1), (2, .ref (gx_ad w o2)), (3, .int v3), (4, .int v4), (5, .int v5)]) [1, 2, 3, 4, 5, 6] rfl ?_
        exact J_X1_catches_75 hC hw hR hr ih M v1 o2 v3 v4 v5 ⟨by omega, by omega⟩ h
      · have h := gx_f h hc
        refine gw_aload_n hC dX1_catches_54 rfl 3 rfl ?_
        refine gw_iload hC dX1_catches_55 0 rfl ?_
        refine gw_calli (gx_rV hC (n := 1) (As := [.int x4]) (rest := []) (fun sz => c_X3_isOn hw ⟨by omega, by omega⟩ h sz) cv_X1_198_X3_isOn (by rw [hR]; exact rr_X1_catches_X3_isOn) ⟨(gn_Pt hw ⟨by omega, by omega⟩), _, _, _, _, gc_Pt hw ⟨by omega, by omega⟩ _, cl_X3.1⟩ rfl rfl (Nat.le_of_ble_eq_true rfl) dX1_catches_57) ?_
        intro r6 m7 ⟨hm7, h⟩
        rw [hm7]
        refine gw_if_eq (tgt := 75) hC dX1_catches_60 (by decide) (fun hc => ?_) (fun hc => ?_)
        · have h := gx_t h hc
          refine gw_sub (lv' := [(0, .ref (gx_ad w 1)), (1, .int v1), (2, .ref (gx_ad w o2)), (3, .int v3), (4, .int v4), (5, .int v5)]) [1, 2, 3, 4, 5, 6] rfl ?_
          exact J_X1_catches_75 hC hw hR hr ih M v1 o2 v3 v4 v5 ⟨by omega, by omega⟩ h
        · have h := gx_f h hc
          refine gw_aload_n hC dX1_catches_63 rfl 1 rfl ?_
          refine gw_iload_n hC dX1_catches_64 rfl 2 rfl ?_
          refine gw_iload hC dX1_catches_65 0 rfl ?_
          refine gw_calli (gx_rV hC (n := 2) (As := [.int v1, .int x4]) (rest := []) (fun sz => c_X1_isShown hw  h sz) cv_X1_203_X1_isShown (by rw [hR]; exact rr_X1_catches_X1_isShown) ⟨(hw.lt (by decide)), _, _, _, _, gc_1 hw _, cl_X1.1⟩ rfl rfl (Nat.le_of_ble_eq_true rfl) dX1_catches_67) ?_
          intro r8 m9 ⟨hm9, h⟩
          rw [hm9]
          refine gw_if_eq (tgt := 75) hC dX1_catches_70 (by decide) (fun hc => ?_) (fun hc => ?_)
          · have h := gx_t h hc
            refine gw_sub (lv' := [(0, .ref (gx_ad w 1)), (1, .int v1), (2, .ref (gx_ad w o2)), (3, .int v3), (4, .int v4), (5, .int v5)]) [1, 2, 3, 4, 5, 6] rfl ?_
            exact J_X1_catches_75 hC hw hR hr ih M v1 o2 v3 v4 v5 ⟨by omega, by omega⟩ h
          · have h := gx_f h hc
            refine gw_iconst (v := 1) hC dX1_catches_73 (by decide) ?_
            exact gw_zret hC hr rfl dX1_catches_74 h
set_option maxRecDepth 20000 in
theorem J_X1_catches_7 {z : gx_X} {d : gx_D} {w : gx_V} {ca : Nat → ClassId} (hC : gx_C z d w cX1_catches 7 RX1) (hw : gx_isC ca w) (hR : gx_R z = rm_X1_catches) (hr : (gx_me z).sig.returnType = (some .boolean))  {Q : Int32 → gx_M → Prop} {K87 : gx_M → Prop} (hK87 : ∀ (M : gx_M), K87 M → GW z w 7 (gx_Qi w Q (gx_s z).heap.size) M 87 [] []) : ∀ (n : Nat) (M : gx_M) (v1 : Int32) (o2 : Nat) (v3 : Int32) (v4 : Int32) (ho2 : pk_Pt o2), T_X1_catches_7 Q K87 n M v1 o2 v3 v4 → GW z w 7 (gx_Qi w Q (gx_s z).heap.size) M 7 [(0, .ref (gx_ad w 1)), (1, .int v1), (2, .ref (gx_ad w o2)), (3, .int v3), (4, .int v4)] [] := by
  intro n
  induction n with
  | zero =>
    intro M v1 o2 v3 v4 ho2 h
    exact h.elim
  | succ n ih =>
    intro M v1 o2 v3 v4 ho2 h
    rw [T_X1_catches_7] at h
    have ⟨ho2a, ho2b⟩ := ho2
    refine gw_iload hC dX1_catches_7 4 rfl ?_
    refine gw_iload_n hC dX1_catches_9 rfl 3 rfl ?_
    refine gw_icmp_ge (tgt := 87) hC dX1_catches_10 (by decide) (fun hc => ?_) (fun hc => ?_)
    · have h := gx_t h hc
      refine gw_sub (lv' := []) [] rfl ?_
      exact hK87 M h
    · have h := gx_f h hc
      refine gw_aload_n hC dX1_catches_13 rfl 0 rfl ?_
      refine gw_iload_n hC dX1_catches_14 rfl 3 rfl ?_
      refine gw_calli (gx_rV hC (n := 1) (As := [.int v3]) (rest := []) (fun sz => c_X1_next hw  h sz) cv_X1_165_X1_next (by rw [hR]; exact rr_X1_catches_X1_next) ⟨(hw.lt (by decide)), _, _, _, _, gc_1 hw _, cl_X1.1⟩ rfl rfl (Nat.le_of_ble_eq_true rfl) dX1_catches_15) ?_
      intro r3 M2 h
      refine gw_if_eq (tgt := 87) hC dX1_catches_18 (by decide) (fun hc => ?_) (fun hc => ?_)
      · have h := gx_t h hc
        refine gw_sub (lv' := []) [] rfl ?_
        exact hK87 M2 h
      · have h := gx_f h hc
        refine gw_iconst (v := 0) hC dX1_catches_21 (by decide) ?_
        refine gw_istore (lv' := [(5, .int 0), (0, .ref (gx_ad w 1)), (1, .int v1), (2, .ref (gx_ad w o2)), (3, .int v3), (4, .int v4)]) hC dX1_catches_22 (by decide) rfl ?_
        obtain ⟨k10, h⟩ := h
        refine gw_sub (lv' := [(0, .ref (gx_ad w 1)), (1, .int v1), (2, .ref (gx_ad w o2)), (3, .int v3), (4, .int v4), (5, .int 0)]) [1, 2, 3, 4, 5, 0] rfl ?_
        exact J_X1_catches_24 hC hw hR hr (fun M15 v1_11 o2_12 v3_13 v4_14 ho2_12 h => by
            have ⟨ho2_12a, ho2_12b⟩ := ho2_12
            obtain ⟨x16, hx16⟩ : ∃ y : Int32, y = v4_14 + 1 := ⟨_, rfl⟩
            have h := h x16 hx16
            refine gw_iinc (v := x16) (lv' := [(4, .int x16), (0, .ref (gx_ad w 1)), (1, .int v1_11), (2, .ref (gx_ad w o2_12)), (3, .int v3_13)]) hC dX1_catches_81 (k := 4) rfl (by rw [hx16]; rfl) (by decide) rfl ?_
            refine gw_goto (tgt := 7) hC dX1_catches_84 (by decide) ?_
            refine gw_sub (lv' := [(0, .ref (gx_ad w 1)), (1, .int v1_11), (2, .ref (gx_ad w o2_12)), (3, .int v3_13), (4, .int x16)]) [1, 2, 3, 4, 0] rfl ?_
            exact ih M15 v1_11 o2_12 v3_13 x16 ⟨by omega, by omega⟩ h) k10 M2 v1 o2 v3 v4 0 ⟨by omega, by omega⟩ h
set_option maxRecDepth 20000 in
theorem J_X1_catches {z : gx_X} {d : gx_D} {w : gx_V} {ca : Nat → ClassId} (hC : gx_C z d w cX1_catches 7 RX1) (hw : gx_isC ca w) (hR : gx_R z = rm_X1_catches) (hr : (gx_me z).sig.returnType = (some .boolean)) {o2 : Nat} (ho2 : pk_Pt o2) {M : gx_M} {v1 : Int32} {v3 : Int32} {Q : Int32 → gx_M → Prop} (h : T_X1_catches M o2 v1 v3 Q) : GW z w 7 (gx_Qi w Q (gx_s z).heap.size) M 0 [(0, .ref (gx_ad w 1)), (1, .int v1), (2, .ref (gx_ad w o2)), (3, .int v3)] [] := by
  unfold T_X1_catches at h
  have ⟨ho2a, ho2b⟩ := ho2
  refine gw_aload_n hC dX1_catches_0 rfl 0 rfl ?_
  refine gw_callv (gx_rV hC (n := 0) (As := []) (rest := []) (fun sz => c_X1_restart hw  h sz) cv_X1_162_X1_restart (by rw [hR]; exact rr_X1_catches_X1_restart) ⟨(hw.lt (by decide)), _, _, _, _, gc_1 hw _, cl_X1.1⟩ rfl rfl (Nat.le_of_ble_eq_true rfl) dX1_catches_1) ?_
  intro M1 h
  refine gw_iconst (v := 0) hC dX1_catches_4 (by decide) ?_
  refine gw_istore (lv' := [(4, .int 0), (0, .ref (gx_ad w 1)), (1, .int v1), (2, .ref (gx_ad w o2)), (3, .int v3)]) hC dX1_catches_5 (by decide) rfl ?_
  obtain ⟨k17, h⟩ := h
  refine gw_sub (lv' := [(0, .ref (gx_ad w 1)), (1, .int v1), (2, .ref (gx_ad w o2)), (3, .int v3), (4, .int 0)]) [1, 2, 3, 4, 0] rfl ?_
  exact J_X1_catches_7 hC hw hR hr (fun M18 h => by
      refine gw_iconst (v := 0) hC dX1_catches_87 (by decide) ?_
      exact gw_zret hC hr rfl dX1_catches_88 h) k17 M1 v1 o2 v3 0 ⟨by omega, by omega⟩ h
theorem c_X1_catches {l : Launch} {d : gx_D} {w : gx_V} {ca : Nat → ClassId} (hw : gx_isC ca w) {o2 : Nat} (ho2 : pk_Pt o2) {M : gx_M} {v1 : Int32} {v3 : Int32} {Q : Int32 → gx_M → Prop} (h : T_X1_catches M o2 v1 v3 Q) : gx_Mi l d w yX1_catches cX1_catches 7 .boolean rm_X1_catches [.ref (gx_ad w 1), .int v1, .ref (gx_ad w o2), .int v3] M Q := fun sz =>
  gx_of (own := RX1) (by decide +kernel) rfl (Nat.le_of_ble_eq_true rfl) (fun z hC hl hR hsz hr => by subst hsz; exact J_X1_catches hC hw hR hr ho2 h) rfl
set_option maxRecDepth 20000 in
theorem J_X2_setProbe {z : gx_X} {d : gx_D} {w : gx_V} {ca : Nat → ClassId} (hC : gx_C z d w cX2_setProbe 4 RX2) (hw : gx_isC ca w) (hR : gx_R z = rm_X2_setProbe) (hr : (gx_me z).sig.returnType = none) {o0 : Nat} (ho0 : pk_Ch o0) {M : gx_M} {v1 : Int32} {v2 : Int32} {v3 : Int32} {Q : gx_M → Prop} (h : T_X2_setProbe M o0 v1 v2 v3 Q) : GW z w 4 (gx_Qv w Q (gx_s z).heap.size) M 0 [(0, .ref (gx_ad w o0)), (1, .int v1), (2, .int v2), (3, .int v3)] [] := by
  unfold T_X2_setProbe at h
  have ⟨ho0a, ho0b⟩ := ho0
  refine gw_aload_n hC dX2_setProbe_0 rfl 0 rfl ?_
  refine gw_iload_n hC dX2_setProbe_1 rfl 1 rfl ?_
  refine gw_put hC cl_X2 fp_X2_15 (gn_Ch hw ⟨by omega, by omega⟩) (gc_Ch hw ⟨by omega, by omega⟩ _) ((gc_Ch hw ⟨by omega, by omega⟩ _).trans (gs_X2_1 _ _ _ _)) rfl rfl (by simp [fs_X2]) dX2_setProbe_2 ?_
  refine gw_nmM (fun M1 hM1 => ?_)
  have h := h M1 hM1
  refine gw_aload_n hC dX2_setProbe_5 rfl 0 rfl ?_
  refine gw_iload_n hC dX2_setProbe_6 rfl 2 rfl ?_
  refine gw_put hC cl_X2 fp_X2_18 (gn_Ch hw ⟨by omega, by omega⟩) (gc_Ch hw ⟨by omega, by omega⟩ _) ((gc_Ch hw ⟨by omega, by omega⟩ _).trans (gs_X2_2 _ _ _ _)) rfl rfl (by simp [fs_X2]) dX2_setProbe_7 ?_
  refine gw_nmM (fun M2 hM2 => ?_)
  have h := h M2 hM2
  refine gw_aload_n hC dX2_setProbe_10 rfl 0 rfl ?_
  refine gw_iload_n hC dX2_setProbe_11 rfl 3 rfl ?_
  refine gw_put hC cl_X2 fp_X2_21 (gn_Ch hw ⟨by omega, by omega⟩) (gc_Ch hw ⟨by omega, by omega⟩ _) ((gc_Ch hw ⟨by omega, by omega⟩ _).trans (gs_X2_3 _ _ _ _)) rfl rfl (by simp [fs_X2]) dX2_setProbe_12 ?_
  refine gw_nmM (fun M3 hM3 => ?_)
  have h := h M3 hM3
  exact gw_vret hC hr dX2_setProbe_15 h
theorem c_X2_setProbe {l : Launch} {d : gx_D} {w : gx_V} {ca : Nat → ClassId} (hw : gx_isC ca w) {o0 : Nat} (ho0 : pk_Ch o0) {M : gx_M} {v1 : Int32} {v2 : Int32} {v3 : Int32} {Q : gx_M → Prop} (h : T_X2_setProbe M o0 v1 v2 v3 Q) : gx_Mv l d w yX2_setProbe cX2_setProbe 4 rm_X2_setProbe [.ref (gx_ad w o0), .int v1, .int v2, .int v3] M Q := fun sz =>
  gx_of (own := RX2) (by decide +kernel) rfl (Nat.le_of_ble_eq_true rfl) (fun z hC hl hR hsz hr => by subst hsz; exact J_X2_setProbe hC hw hR hr ho0 h) rfl
set_option maxRecDepth 20000 in
theorem J_X2_setView {z : gx_X} {d : gx_D} {w : gx_V} {ca : Nat → ClassId} (hC : gx_C z d w cX2_setView 4 RX2) (hw : gx_isC ca w) (hR : gx_R z = rm_X2_setView) (hr : (gx_me z).sig.returnType = none) {o0 : Nat} (ho0 : pk_Ch o0) {M : gx_M} {v1 : Int32} {v2 : Int32} {v3 : Int32} {Q : gx_M → Prop} (h : T_X2_setView M o0 v1 v2 v3 Q) : GW z w 4 (gx_Qv w Q (gx_s z).heap.size) M 0 [(0, .ref (gx_ad w o0)), (1, .int v1), (2, .int v2), (3, .int v3)] [] := by
  unfold T_X2_setView at h
  have ⟨ho0a, ho0b⟩ := ho0
  refine gw_aload_n hC dX2_setView_0 rfl 0 rfl ?_
  refine gw_iload_n hC dX2_setView_1 rfl 1 rfl ?_
  refine gw_put hC cl_X2 fp_X2_9 (gn_Ch hw ⟨by omega, by omega⟩) (gc_Ch hw ⟨by omega, by omega⟩ _) ((gc_Ch hw ⟨by omega, by omega⟩ _).trans (gs_X2_0 _ _ _ _)) rfl rfl (by simp [fs_X2]) dX2_setView_2 ?_
  refine gw_nmM (fun M1 hM1 => ?_)
  have h := h M1 hM1
  refine gw_aload_n hC dX2_setView_5 rfl 0 rfl ?_
  refine gw_iload_n hC dX2_setView_6 rfl 2 rfl ?_
  refine gw_put hC cl_X2 fp_X2_24 (gn_Ch hw ⟨by omega, by omega⟩) (gc_Ch hw ⟨by omega, by omega⟩ _) ((gc_Ch hw ⟨by omega, by omega⟩ _).trans (gs_X2_4 _ _ _ _)) rfl rfl (by simp [fs_X2]) dX2_setView_7 ?_
  refine gw_nmM (fun M2 hM2 => ?_)
  have h := h M2 hM2
  refine gw_aload_n hC dX2_setView_10 rfl 0 rfl ?_
  refine gw_iload_n hC dX2_setView_11 rfl 3 rfl ?_
  refine gw_put hC cl_X2 fp_X2_27 (gn_Ch hw ⟨by omega, by omega⟩) (gc_Ch hw ⟨by omega, by omega⟩ _) ((gc_Ch hw ⟨by omega, by omega⟩ _).trans (gs_X2_5 _ _ _ _)) rfl rfl (by simp [fs_X2]) dX2_setView_12 ?_
  refine gw_nmM (fun M3 hM3 => ?_)
  have h := h M3 hM3
  exact gw_vret hC hr dX2_setView_15 h
theorem c_X2_setView {l : Launch} {d : gx_D} {w : gx_V} {ca : Nat → ClassId} (hw : gx_isC ca w) {o0 : Nat} (ho0 : pk_Ch o0) {M : gx_M} {v1 : Int32} {v2 : Int32} {v3 : Int32} {Q : gx_M → Prop} (h : T_X2_setView M o0 v1 v2 v3 Q) : gx_Mv l d w yX2_setView cX2_setView 4 rm_X2_setView [.ref (gx_ad w o0), .int v1, .int v2, .int v3] M Q := fun sz =>
  gx_of (own := RX2) (by decide +kernel) rfl (Nat.le_of_ble_eq_true rfl) (fun z hC hl hR hsz hr => by subst hsz; exact J_X2_setView hC hw hR hr ho0 h) rfl
set_option maxRecDepth 20000 in
theorem J_X2_copyFrom {z : gx_X} {d : gx_D} {w : gx_V} {ca : Nat → ClassId} (hC : gx_C z d w cX2_copyFrom 2 RX2) (hw : gx_isC ca w) (hR : gx_R z = rm_X2_copyFrom) (hr : (gx_me z).sig.returnType = none) {o0 o1 : Nat} (ho0 : pk_Ch o0) (ho1 : pk_Ch o1) {M : gx_M}  {Q : gx_M → Prop} (h : T_X2_copyFrom M o0 o1 Q) : GW z w 2 (gx_Qv w Q (gx_s z).heap.size) M 0 [(0, .ref (gx_ad w o0)), (1, .ref (gx_ad w o1))] [] := by
  unfold T_X2_copyFrom at h
  have ⟨ho0a, ho0b⟩ := ho0
  have ⟨ho1a, ho1b⟩ := ho1
  refine gw_aload_n hC dX2_copyFrom_0 rfl 0 rfl ?_
  refine gw_aload_n hC dX2_copyFrom_1 rfl 1 rfl ?_
  refine gw_get hC cl_X2 fg_X2_15 (gn_Ch hw ⟨by omega, by omega⟩) (gc_Ch hw ⟨by omega, by omega⟩ _) (gv_X2_1 _ _ _) dX2_copyFrom_2 ?_
  refine gw_aload_n hC dX2_copyFrom_5 rfl 1 rfl ?_
  refine gw_get hC cl_X2 fg_X2_18 (gn_Ch hw ⟨by omega, by omega⟩) (gc_Ch hw ⟨by omega, by omega⟩ _) (gv_X2_2 _ _ _) dX2_copyFrom_6 ?_
  refine gw_aload_n hC dX2_copyFrom_9 rfl 1 rfl ?_
  refine gw_get hC cl_X2 fg_X2_21 (gn_Ch hw ⟨by omega, by omega⟩) (gc_Ch hw ⟨by omega, by omega⟩ _) (gv_X2_3 _ _ _) dX2_copyFrom_10 ?_
  refine gw_callv (gx_rV hC (n := 3) (As := [.int (M o1 1), .int (M o1 2), .int (M o1 3)]) (rest := []) (fun sz => c_X2_setProbe hw ⟨by omega, by omega⟩ h sz) cv_X2_30_X2_setProbe (by rw [hR]; exact rr_X2_copyFrom_X2_setProbe) ⟨(gn_Ch hw ⟨by omega, by omega⟩), _, _, _, _, gc_Ch hw ⟨by omega, by omega⟩ _, cl_X2.1⟩ rfl rfl (Nat.le_of_ble_eq_true rfl) dX2_copyFrom_13) ?_
  intro M1 h
  refine gw_aload_n hC dX2_copyFrom_16 rfl 0 rfl ?_
  refine gw_aload_n hC dX2_copyFrom_17 rfl 1 rfl ?_
  refine gw_get hC cl_X2 fg_X2_9 (gn_Ch hw ⟨by omega, by omega⟩) (gc_Ch hw ⟨by omega, by omega⟩ _) (gv_X2_0 _ _ _) dX2_copyFrom_18 ?_
  refine gw_aload_n hC dX2_copyFrom_21 rfl 1 rfl ?_
  refine gw_get hC cl_X2 fg_X2_24 (gn_Ch hw ⟨by omega, by omega⟩) (gc_Ch hw ⟨by omega, by omega⟩ _) (gv_X2_4 _ _ _) dX2_copyFrom_22 ?_
  refine gw_aload_n hC dX2_copyFrom_25 rfl 1 rfl ?_
  refine gw_get hC cl_X2 fg_X2_27 (gn_Ch hw ⟨by omega, by omega⟩) (gc_Ch hw ⟨by omega, by omega⟩ _) (gv_X2_5 _ _ _) dX2_copyFrom_26 ?_
  refine gw_callv (gx_rV hC (n := 3) (As := [.int (M1 o1 0), .int (M1 o1 4), .int (M1 o1 5)]) (rest := []) (fun sz => c_X2_setView hw ⟨by omega, by omega⟩ h sz) cv_X2_34_X2_setView (by rw [hR]; exact rr_X2_copyFrom_X2_setView) ⟨(gn_Ch hw ⟨by omega, by omega⟩), _, _, _, _, gc_Ch hw ⟨by omega, by omega⟩ _, cl_X2.1⟩ rfl rfl (Nat.le_of_ble_eq_true rfl) dX2_copyFrom_29) ?_
  intro M2 h
  exact gw_vret hC hr dX2_copyFrom_32 h
theorem c_X2_copyFrom {l : Launch} {d : gx_D} {w : gx_V} {ca : Nat → ClassId} (hw : gx_isC ca w) {o0 o1 : Nat} (ho0 : pk_Ch o0) (ho1 : pk_Ch o1) {M : gx_M}  {Q : gx_M → Prop} (h : T_X2_copyFrom M o0 o1 Q) : gx_Mv l d w yX2_copyFrom cX2_copyFrom 2 rm_X2_copyFrom [.ref (gx_ad w o0), .ref (gx_ad w o1)] M Q := fun sz =>
  gx_of (own := RX2) (by decide +kernel) rfl (Nat.le_of_ble_eq_true rfl) (fun z hC hl hR hsz hr => by subst hsz; exact J_X2_copyFrom hC hw hR hr ho0 ho1 h) rfl
set_option maxRecDepth 20000 in
theorem J_X3_set {z : gx_X} {d : gx_D} {w : gx_V} {ca : Nat → ClassId} (hC : gx_C z d w cX3_set 6 RX3) (hw : gx_isC ca w) (hR : gx_R z = rm_X3_set) (hr : (gx_me z).sig.returnType = none) {o0 : Nat} (ho0 : pk_Pt o0) {M : gx_M} {v1 : Int32} {v2 : Int32} {v3 : Int32} {v4 : Int32} {v5 : Int32} {Q : gx_M → Prop} (h : T_X3_set M o0 v1 v2 v3 v4 v5 Q) : GW z w 6 (gx_Qv w Q (gx_s z).heap.size) M 0 [(0, .ref (gx_ad w o0)), (1, .int v1), (2, .int v2), (3, .int v3), (4, .int v4), (5, .int v5)] [] := by
  unfold T_X3_set at h
  have ⟨ho0a, ho0b⟩ := ho0
  refine gw_aload_n hC dX3_set_0 rfl 0 rfl ?_
  refine gw_iload_n hC dX3_set_1 rfl 1 rfl ?_
  refine gw_put hC cl_X3 fp_X3_9 (gn_Pt hw ⟨by omega, by omega⟩) (gc_Pt hw ⟨by omega, by omega⟩ _) ((gc_Pt hw ⟨by omega, by omega⟩ _).trans (gs_X3_0 _ _ _ _)) rfl rfl (by simp [fs_X3]) dX3_set_2 ?_
  refine gw_nmM (fun M1 hM1 => ?_)
  have h := h M1 hM1
  refine gw_aload_n hC dX3_set_5 rfl 0 rfl ?_
  refine gw_iload_n hC dX3_set_6 rfl 2 rfl ?_
  refine gw_put hC cl_X3 fp_X3_15 (gn_Pt hw ⟨by omega, by omega⟩) (gc_Pt hw ⟨by omega, by omega⟩ _) ((gc_Pt hw ⟨by omega, by omega⟩ _).trans (gs_X3_1 _ _ _ _)) rfl rfl (by simp [fs_X3]) dX3_set_7 ?_
  refine gw_nmM (fun M2 hM2 => ?_)
  have h := h M2 hM2
  refine gw_aload_n hC dX3_set_10 rfl 0 rfl ?_
  refine gw_iload_n hC dX3_set_11 rfl 3 rfl ?_
  refine gw_put hC cl_X3 fp_X3_18 (gn_Pt hw ⟨by omega, by omega⟩) (gc_Pt hw ⟨by omega, by omega⟩ _) ((gc_Pt hw ⟨by omega, by omega⟩ _).trans (gs_X3_2 _ _ _ _)) rfl rfl (by simp [fs_X3]) dX3_set_12 ?_
  refine gw_nmM (fun M3 hM3 => ?_)
  have h := h M3 hM3
  refine gw_aload_n hC dX3_set_15 rfl 0 rfl ?_
  refine gw_iload hC dX3_set_16 4 rfl ?_
  refine gw_put hC cl_X3 fp_X3_21 (gn_Pt hw ⟨by omega, by omega⟩) (gc_Pt hw ⟨by omega, by omega⟩ _) ((gc_Pt hw ⟨by omega, by omega⟩ _).trans (gs_X3_3 _ _ _ _)) rfl rfl (by simp [fs_X3]) dX3_set_18 ?_
  refine gw_nmM (fun M4 hM4 => ?_)
  have h := h M4 hM4
  refine gw_aload_n hC dX3_set_21 rfl 0 rfl ?_
  refine gw_iload hC dX3_set_22 5 rfl ?_
  refine gw_put hC cl_X3 fp_X3_24 (gn_Pt hw ⟨by omega, by omega⟩) (gc_Pt hw ⟨by omega, by omega⟩ _) ((gc_Pt hw ⟨by omega, by omega⟩ _).trans (gs_X3_4 _ _ _ _)) rfl rfl (by simp [fs_X3]) dX3_set_24 ?_
  refine gw_nmM (fun M5 hM5 => ?_)
  have h := h M5 hM5
  exact gw_vret hC hr dX3_set_27 h
theorem c_X3_set {l : Launch} {d : gx_D} {w : gx_V} {ca : Nat → ClassId} (hw : gx_isC ca w) {o0 : Nat} (ho0 : pk_Pt o0) {M : gx_M} {v1 : Int32} {v2 : Int32} {v3 : Int32} {v4 : Int32} {v5 : Int32} {Q : gx_M → Prop} (h : T_X3_set M o0 v1 v2 v3 v4 v5 Q) : gx_Mv l d w yX3_set cX3_set 6 rm_X3_set [.ref (gx_ad w o0), .int v1, .int v2, .int v3, .int v4, .int v5] M Q := fun sz =>
  gx_of (own := RX3) (by decide +kernel) rfl (Nat.le_of_ble_eq_true rfl) (fun z hC hl hR hsz hr => by subst hsz; exact J_X3_set hC hw hR hr ho0 h) rfl
set_option maxRecDepth 20000 in
theorem J_X4_empty {z : gx_X} {d : gx_D} {w : gx_V} {ca : Nat → ClassId} (hC : gx_C z d w cX4_empty 1 RX4) (hw : gx_isC ca w) (hR : gx_R z = rm_X4_empty) (hr : (gx_me z).sig.returnType = none) {o0 : Nat} (ho0 : pk_Pr o0) {M : gx_M}  {Q : gx_M → Prop} (h : T_X4_empty M o0 Q) : GW z w 1 (gx_Qv w Q (gx_s z).heap.size) M 0 [(0, .ref (gx_ad w o0))] [] := by
  unfold T_X4_empty at h
  have ⟨ho0a, ho0b⟩ := ho0
  refine gw_aload_n hC dX4_empty_0 rfl 0 rfl ?_
  refine gw_iconst (v := 0) hC dX4_empty_1 (by decide) ?_
  refine gw_put hC cl_X4 fp_X4_18 (gn_Pr hw ⟨by omega, by omega⟩) (gc_Pr hw ⟨by omega, by omega⟩ _) ((gc_Pr hw ⟨by omega, by omega⟩ _).trans (gs_X4_2 _ _ _ _)) rfl rfl (by simp [fs_X4]) dX4_empty_2 ?_
  refine gw_nmM (fun M1 hM1 => ?_)
  have h := h M1 hM1
  refine gw_aload_n hC dX4_empty_5 rfl 0 rfl ?_
  refine gw_iconst (v := 0) hC dX4_empty_6 (by decide) ?_
  refine gw_put hC cl_X4 fp_X4_22 (gn_Pr hw ⟨by omega, by omega⟩) (gc_Pr hw ⟨by omega, by omega⟩ _) ((gc_Pr hw ⟨by omega, by omega⟩ _).trans (gs_X4_3 _ _ _ _)) rfl rfl (by simp [fs_X4]) dX4_empty_7 ?_
  refine gw_nmM (fun M2 hM2 => ?_)
  have h := h M2 hM2
  exact gw_vret hC hr dX4_empty_10 h
theorem c_X4_empty {l : Launch} {d : gx_D} {w : gx_V} {ca : Nat → ClassId} (hw : gx_isC ca w) {o0 : Nat} (ho0 : pk_Pr o0) {M : gx_M}  {Q : gx_M → Prop} (h : T_X4_empty M o0 Q) : gx_Mv l d w yX4_empty cX4_empty 1 rm_X4_empty [.ref (gx_ad w o0)] M Q := fun sz =>
  gx_of (own := RX4) (by decide +kernel) rfl (Nat.le_of_ble_eq_true rfl) (fun z hC hl hR hsz hr => by subst hsz; exact J_X4_empty hC hw hR hr ho0 h) rfl
set_option maxRecDepth 20000 in
theorem J_X6_restart {z : gx_X} {d : gx_D} {w : gx_V} {ca : Nat → ClassId} (hC : gx_C z d w cX6_restart 2 RX6) (hw : gx_isC ca w) (hR : gx_R z = rm_X6_restart) (hr : (gx_me z).sig.returnType = none)   {M : gx_M} {v1 : Int32} {Q : gx_M → Prop} (h : T_X6_restart M v1 Q) : GW z w 2 (gx_Qv w Q (gx_s z).heap.size) M 0 [(0, .ref (gx_ad w 5)), (1, .int v1)] [] := by
  unfold T_X6_restart at h
  refine gw_aload_n hC dX6_restart_0 rfl 0 rfl ?_
  refine gw_iload_n hC dX6_restart_1 rfl 1 rfl ?_
  refine gw_put hC cl_X6 fp_X6_15 (hw.lt (by decide)) (gc_5 hw _) ((gc_5 hw _).trans (gs_X6_1 _ _ _ _)) rfl rfl (by simp [fs_X6]) dX6_restart_2 ?_
  refine gw_nmM (fun M1 hM1 => ?_)
  have h := h M1 hM1
  refine gw_aload_n hC dX6_restart_5 rfl 0 rfl ?_
  refine gw_iconst (v := 0) hC dX6_restart_6 (by decide) ?_
  refine gw_put hC cl_X6 fp_X6_19 (hw.lt (by decide)) (gc_5 hw _) ((gc_5 hw _).trans (gs_X6_2 _ _ _ _)) rfl rfl (by simp [fs_X6]) dX6_restart_7 ?_
  refine gw_nmM (fun M2 hM2 => ?_)
  have h := h M2 hM2
  exact gw_vret hC hr dX6_restart_10 h
theorem c_X6_restart {l : Launch} {d : gx_D} {w : gx_V} {ca : Nat → ClassId} (hw : gx_isC ca w)   {M : gx_M} {v1 : Int32} {Q : gx_M → Prop} (h : T_X6_restart M v1 Q) : gx_Mv l d w yX6_restart cX6_restart 2 rm_X6_restart [.ref (gx_ad w 5), .int v1] M Q := fun sz =>
  gx_of (own := RX6) (by decide +kernel) rfl (Nat.le_of_ble_eq_true rfl) (fun z hC hl hR hsz hr => by subst hsz; exact J_X6_restart hC hw hR hr  h) rfl
set_option maxRecDepth 20000 in
theorem J_X6_byteAt {z : gx_X} {d : gx_D} {w : gx_V} {ca : Nat → ClassId} (hC : gx_C z d w cX6_byteAt 2 RX6) (hw : gx_isC ca w) (hR : gx_R z = rm_X6_byteAt) (hr : (gx_me z).sig.returnType = (some .int))   {M : gx_M} {v1 : Int32} {Q : Int32 → Prop} (h : T_X6_byteAt M v1 Q) : GW z w 2 (gx_Qi w (fun r M1 => M1 = M ∧ Q r) (gx_s z).heap.size) M 0 [(0, .ref (gx_ad w 5)), (1, .int v1)] [] := by
  unfold T_X6_byteAt at h
  refine gw_iconst (v := 0) hC dX6_byteAt_0 (by decide) ?_
  refine gw_iload_n hC dX6_byteAt_1 rfl 1 rfl ?_
  refine gw_icmp_gt (tgt := 31) hC dX6_byteAt_2 (by decide) (fun hc => ?_) (fun hc => ?_)
  · have h := gx_t h hc
    refine gw_iconst (v := (-1)) hC dX6_byteAt_31 (by decide) ?_
    exact gw_iret hC hr dX6_byteAt_32 ⟨rfl, h⟩
  · have h := gx_f h hc
    refine gw_iload_n hC dX6_byteAt_5 rfl 1 rfl ?_
    refine gw_aload_n hC dX6_byteAt_6 rfl 0 rfl ?_
    refine gw_get hC cl_X6 fg_X6_15 (hw.lt (by decide)) (gc_5 hw _) (gv_X6_1 _ _ _) dX6_byteAt_7 ?_
    refine gw_icmp_ge (tgt := 31) hC dX6_byteAt_10 (by decide) (fun hc => ?_) (fun hc => ?_)
    · have h := gx_t h hc
      refine gw_iconst (v := (-1)) hC dX6_byteAt_31 (by decide) ?_
      exact gw_iret hC hr dX6_byteAt_32 ⟨rfl, h⟩
    · have h := gx_f h hc
      refine gw_iload_n hC dX6_byteAt_13 rfl 1 rfl ?_
      refine gw_aload_n hC dX6_byteAt_14 rfl 0 rfl ?_
      refine gw_get hC cl_X6 fg_X6_9 (hw.lt (by decide)) (gc_5 hw _) (gv_X6_0 _ _ _) dX6_byteAt_15 ?_
      refine gw_alen (v := 300) hC (hw.lt (by decide)) (gc_a3 hw (by decide) _) (gt_0 hw) rfl dX6_byteAt_18 ?_
      refine gw_icmp_ge (tgt := 31) hC dX6_byteAt_19 (by decide) (fun hc => ?_) (fun hc => ?_)
      · have h := gx_t h hc
        refine gw_iconst (v := (-1)) hC dX6_byteAt_31 (by decide) ?_
        exact gw_iret hC hr dX6_byteAt_32 ⟨rfl, h⟩
      · have h := gx_f h hc
        refine gw_aload_n hC dX6_byteAt_22 rfl 0 rfl ?_
        refine gw_get hC cl_X6 fg_X6_9 (hw.lt (by decide)) (gc_5 hw _) (gv_X6_0 _ _ _) dX6_byteAt_23 ?_
        refine gw_iload_n hC dX6_byteAt_26 rfl 1 rfl ?_
        obtain ⟨hi, h⟩ := h
        refine gw_iald hC (hw.lt (by decide)) (gc_a3 hw (by decide) _) (gt_0 hw) hi dX6_byteAt_27 ?_
        refine gw_goto (tgt := 32) hC dX6_byteAt_28 (by decide) ?_
        exact gw_iret hC hr dX6_byteAt_32 ⟨rfl, h⟩
theorem c_X6_byteAt {l : Launch} {d : gx_D} {w : gx_V} {ca : Nat → ClassId} (hw : gx_isC ca w)   {M : gx_M} {v1 : Int32} {Q : Int32 → Prop} (h : T_X6_byteAt M v1 Q) : gx_Mi l d w yX6_byteAt cX6_byteAt 2 .int rm_X6_byteAt [.ref (gx_ad w 5), .int v1] M (fun r M1 => M1 = M ∧ Q r) := fun sz =>
  gx_of (own := RX6) (by decide +kernel) rfl (Nat.le_of_ble_eq_true rfl) (fun z hC hl hR hsz hr => by subst hsz; exact J_X6_byteAt hC hw hR hr  h) rfl
set_option maxRecDepth 20000 in
theorem J_X6_isBlank_12 {z : gx_X} {d : gx_D} {w : gx_V} {ca : Nat → ClassId} (hC : gx_C z d w cX6_isBlank 1 RX6) (hw : gx_isC ca w) (hR : gx_R z = rm_X6_isBlank) (hr : (gx_me z).sig.returnType = (some .boolean)) {M : gx_M} {Q : Int32 → Prop}     (h : T_X6_isBlank_12 M Q  ) : GW z w 1 (gx_Qi w (fun r M1 => M1 = M ∧ Q r) (gx_s z).heap.size) M 12 [] [] := by
  unfold T_X6_isBlank_12 at h
  refine gw_iconst (v := 1) hC dX6_isBlank_12 (by decide) ?_
  refine gw_goto (tgt := 17) hC dX6_isBlank_13 (by decide) ?_
  exact gw_zret hC hr rfl dX6_isBlank_17 ⟨rfl, h⟩
set_option maxRecDepth 20000 in
theorem J_X6_isBlank {z : gx_X} {d : gx_D} {w : gx_V} {ca : Nat → ClassId} (hC : gx_C z d w cX6_isBlank 1 RX6) (hw : gx_isC ca w) (hR : gx_R z = rm_X6_isBlank) (hr : (gx_me z).sig.returnType = (some .boolean))   {M : gx_M} {v0 : Int32} {Q : Int32 → Prop} (h : T_X6_isBlank M v0 Q) : GW z w 1 (gx_Qi w (fun r M1 => M1 = M ∧ Q r) (gx_s z).heap.size) M 0 [(0, .int v0)] [] := by
  unfold T_X6_isBlank at h
  refine gw_iload_n hC dX6_isBlank_0 rfl 0 rfl ?_
  refine gw_bipush (v := 32) hC dX6_isBlank_1 (by decide) ?_
  refine gw_icmp_eq (tgt := 12) hC dX6_isBlank_3 (by decide) (fun hc => ?_) (fun hc => ?_)
  · have h := gx_t h hc
    refine gw_sub (lv' := []) [] rfl ?_
    exact J_X6_isBlank_12 hC hw hR hr   h
  · have h := gx_f h hc
    refine gw_iload_n hC dX6_isBlank_6 rfl 0 rfl ?_
    refine gw_bipush (v := 10) hC dX6_isBlank_7 (by decide) ?_
    refine gw_icmp_ne (tgt := 16) hC dX6_isBlank_9 (by decide) (fun hc => ?_) (fun hc => ?_)
    · have h := gx_f h hc
      refine gw_iconst (v := 0) hC dX6_isBlank_16 (by decide) ?_
      exact gw_zret hC hr rfl dX6_isBlank_17 ⟨rfl, h⟩
    · have h := gx_t h hc
      refine gw_sub (lv' := []) [] rfl ?_
      exact J_X6_isBlank_12 hC hw hR hr   h
theorem c_X6_isBlank {l : Launch} {d : gx_D} {w : gx_V} {ca : Nat → ClassId} (hw : gx_isC ca w)   {M : gx_M} {v0 : Int32} {Q : Int32 → Prop} (h : T_X6_isBlank M v0 Q) : gx_Mi l d w yX6_isBlank cX6_isBlank 1 .boolean rm_X6_isBlank [.int v0] M (fun r M1 => M1 = M ∧ Q r) := fun sz =>
  gx_of (own := RX6) (by decide +kernel) rfl (Nat.le_of_ble_eq_true rfl) (fun z hC hl hR hsz hr => by subst hsz; exact J_X6_isBlank hC hw hR hr  h) rfl
set_option maxRecDepth 20000 in
theorem J_X6_isLetter_22 {z : gx_X} {d : gx_D} {w : gx_V} {ca : Nat → ClassId} (hC : gx_C z d w cX6_isLetter 1 RX6) (hw : gx_isC ca w) (hR : gx_R z = rm_X6_isLetter) (hr : (gx_me z).sig.returnType = (some .boolean)) {M : gx_M} {Q : Int32 → Prop}     (h : T_X6_isLetter_22 M Q  ) : GW z w 1 (gx_Qi w (fun r M1 => M1 = M ∧ Q r) (gx_s z).heap.size) M 22 [] [] := by
  unfold T_X6_isLetter_22 at h
  refine gw_iconst (v := 1) hC dX6_isLetter_22 (by decide) ?_
  refine gw_goto (tgt := 27) hC dX6_isLetter_23 (by decide) ?_
  exact gw_zret hC hr rfl dX6_isLetter_27 ⟨rfl, h⟩
set_option maxRecDepth 20000 in
theorem J_X6_isLetter {z : gx_X} {d : gx_D} {w : gx_V} {ca : Nat → ClassId} (hC : gx_C z d w cX6_isLetter 1 RX6) (hw : gx_isC ca w) (hR : gx_R z = rm_X6_isLetter) (hr : (gx_me z).sig.returnType = (some .boolean))   {M : gx_M} {v0 : Int32} {Q : Int32 → Prop} (h : T_X6_isLetter M v0 Q) : GW z w 1 (gx_Qi w (fun r M1 => M1 = M ∧ Q r) (gx_s z).heap.size) M 0 [(0, .int v0)] [] := by
  unfold T_X6_isLetter at h
  refine gw_iload_n hC dX6_isLetter_0 rfl 0 rfl ?_
  refine gw_bipush (v := 97) hC dX6_isLetter_1 (by decide) ?_
  refine gw_bipush (v := 122) hC dX6_isLetter_3 (by decide) ?_
  refine gw_calli (gx_rN hC (n := 3) (As := [.int v0, .int 97, .int 122]) (rest := []) (fun sz => c_X10_within hw  h sz) cn_X6_107_X10_within (by rw [hR]; exact rr_X6_isLetter_X10_within) rfl rfl (Nat.le_of_ble_eq_true rfl) dX6_isLetter_5) ?_
  intro r1 m2 ⟨hm2, h⟩
  rw [hm2]
  refine gw_if_ne (tgt := 22) hC dX6_isLetter_8 (by decide) (fun hc => ?_) (fun hc => ?_)
  · have h := gx_f h hc
    refine gw_sub (lv' := []) [] rfl ?_
    exact J_X6_isLetter_22 hC hw hR hr   h
  · have h := gx_t h hc
    refine gw_iload_n hC dX6_isLetter_11 rfl 0 rfl ?_
    refine gw_bipush (v := 65) hC dX6_isLetter_12 (by decide) ?_
    refine gw_bipush (v := 90) hC dX6_isLetter_14 (by decide) ?_
    refine gw_calli (gx_rN hC (n := 3) (As := [.int v0, .int 65, .int 90]) (rest := []) (fun sz => c_X10_within hw  h sz) cn_X6_107_X10_within (by rw [hR]; exact rr_X6_isLetter_X10_within) rfl rfl (Nat.le_of_ble_eq_true rfl) dX6_isLetter_16) ?_
    intro r3 m4 ⟨hm4, h⟩
    rw [hm4]
    refine gw_if_eq (tgt := 26) hC dX6_isLetter_19 (by decide) (fun hc => ?_) (fun hc => ?_)
    · have h := gx_t h hc
      refine gw_iconst (v := 0) hC dX6_isLetter_26 (by decide) ?_
      exact gw_zret hC hr rfl dX6_isLetter_27 ⟨rfl, h⟩
    · have h := gx_f h hc
      refine gw_sub (lv' := []) [] rfl ?_
      exact J_X6_isLetter_22 hC hw hR hr   h
theorem c_X6_isLetter {l : Launch} {d : gx_D} {w : gx_V} {ca : Nat → ClassId} (hw : gx_isC ca w)   {M : gx_M} {v0 : Int32} {Q : Int32 → Prop} (h : T_X6_isLetter M v0 Q) : gx_Mi l d w yX6_isLetter cX6_isLetter 1 .boolean rm_X6_isLetter [.int v0] M (fun r M1 => M1 = M ∧ Q r) := fun sz =>
  gx_of (own := RX6) (by decide +kernel) rfl (Nat.le_of_ble_eq_true rfl) (fun z hC hl hR hsz hr => by subst hsz; exact J_X6_isLetter hC hw hR hr  h) rfl
set_option maxRecDepth 20000 in
theorem J_X6_passLetters_0 {z : gx_X} {d : gx_D} {w : gx_V} {ca : Nat → ClassId} (hC : gx_C z d w cX6_passLetters 1 RX6) (hw : gx_isC ca w) (hR : gx_R z = rm_X6_passLetters) (hr : (gx_me z).sig.returnType = none)  {Q : gx_M → Prop} {K38 : gx_M → Prop} (hK38 : ∀ (M : gx_M), K38 M → GW z w 1 (gx_Qv w Q (gx_s z).heap.size) M 38 [] []) : ∀ (n : Nat) (M : gx_M) , T_X6_passLetters_0 Q K38 n M → GW z w 1 (gx_Qv w Q (gx_s z).heap.size) M 0 [(0, .ref (gx_ad w 5))] [] := by
  intro n
  induction n with
  | zero =>
    intro M h
    exact h.elim
  | succ n ih =>
    intro M h
    rw [T_X6_passLetters_0] at h
    refine gw_aload_n hC dX6_passLetters_0 rfl 0 rfl ?_
    refine gw_get hC cl_X6 fg_X6_19 (hw.lt (by decide)) (gc_5 hw _) (gv_X6_2 _ _ _) dX6_passLetters_1 ?_
    refine gw_aload_n hC dX6_passLetters_4 rfl 0 rfl ?_
    refine gw_get hC cl_X6 fg_X6_15 (hw.lt (by decide)) (gc_5 hw _) (gv_X6_1 _ _ _) dX6_passLetters_5 ?_
    refine gw_icmp_ge (tgt := 38) hC dX6_passLetters_8 (by decide) (fun hc => ?_) (fun hc => ?_)
    · have h := gx_t h hc
      refine gw_sub (lv' := []) [] rfl ?_
      exact hK38 M h
    · have h := gx_f h hc
      refine gw_aload_n hC dX6_passLetters_11 rfl 0 rfl ?_
      refine gw_aload_n hC dX6_passLetters_12 rfl 0 rfl ?_
      refine gw_get hC cl_X6 fg_X6_19 (hw.lt (by decide)) (gc_5 hw _) (gv_X6_2 _ _ _) dX6_passLetters_13 ?_
      refine gw_calli (gx_rV hC (n := 1) (As := [.int (M 5 2)]) (rest := []) (fun sz => c_X6_byteAt hw  h sz) cv_X6_31_X6_byteAt (by rw [hR]; exact rr_X6_passLetters_X6_byteAt) ⟨(hw.lt (by decide)), _, _, _, _, gc_5 hw _, cl_X6.1⟩ rfl rfl (Nat.le_of_ble_eq_true rfl) dX6_passLetters_16) ?_
      intro r1 m2 ⟨hm2, h⟩
      rw [hm2]
      refine gw_calli (gx_rS hC (n := 1) (As := [.int r1]) (rest := []) (fun sz => c_X6_isLetter hw  h sz) cs_X6_39_X6_isLetter (by rw [hR]; exact rr_X6_passLetters_X6_isLetter) rfl rfl (Nat.le_of_ble_eq_true rfl) dX6_passLetters_19) ?_
      intro r3 m4 ⟨hm4, h⟩
      rw [hm4]
      refine gw_if_eq (tgt := 38) hC dX6_passLetters_22 (by decide) (fun hc => ?_) (fun hc => ?_)
      · have h := gx_t h hc
        refine gw_sub (lv' := []) [] rfl ?_
        exact hK38 M h
      · have h := gx_f h hc
        refine gw_aload_n hC dX6_passLetters_25 rfl 0 rfl ?_
        refine gw_dup hC dX6_passLetters_26 rfl ?_
        refine gw_get hC cl_X6 fg_X6_19 (hw.lt (by decide)) (gc_5 hw _) (gv_X6_2 _ _ _) dX6_passLetters_27 ?_
        refine gw_iconst (v := 1) hC dX6_passLetters_30 (by decide) ?_
        refine gw_iadd hC dX6_passLetters_31 ?_
        refine gw_put hC cl_X6 fp_X6_19 (hw.lt (by decide)) (gc_5 hw _) ((gc_5 hw _).trans (gs_X6_2 _ _ _ _)) rfl rfl (by simp [fs_X6]) dX6_passLetters_32 ?_
        refine gw_nmM (fun M5 hM5 => ?_)
        have h := h M5 hM5
        refine gw_goto (tgt := 0) hC dX6_passLetters_35 (by decide) ?_
        exact ih M5 h
set_option maxRecDepth 20000 in
theorem J_X6_passLetters {z : gx_X} {d : gx_D} {w : gx_V} {ca : Nat → ClassId} (hC : gx_C z d w cX6_passLetters 1 RX6) (hw : gx_isC ca w) (hR : gx_R z = rm_X6_passLetters) (hr : (gx_me z).sig.returnType = none)   {M : gx_M}  {Q : gx_M → Prop} (h : T_X6_passLetters M  Q) : GW z w 1 (gx_Qv w Q (gx_s z).heap.size) M 0 [(0, .ref (gx_ad w 5))] [] := by
  unfold T_X6_passLetters at h
  obtain ⟨k6, h⟩ := h
  exact J_X6_passLetters_0 hC hw hR hr (fun M7 h => by
      exact gw_vret hC hr dX6_passLetters_38 h) k6 M h
theorem c_X6_passLetters {l : Launch} {d : gx_D} {w : gx_V} {ca : Nat → ClassId} (hw : gx_isC ca w)   {M : gx_M}  {Q : gx_M → Prop} (h : T_X6_passLetters M  Q) : gx_Mv l d w yX6_passLetters cX6_passLetters 1 rm_X6_passLetters [.ref (gx_ad w 5)] M Q := fun sz =>
  gx_of (own := RX6) (by decide +kernel) rfl (Nat.le_of_ble_eq_true rfl) (fun z hC hl hR hsz hr => by subst hsz; exact J_X6_passLetters hC hw hR hr  h) rfl
set_option maxRecDepth 20000 in
theorem J_X6_spells_20 {z : gx_X} {d : gx_D} {w : gx_V} {ca : Nat → ClassId} (hC : gx_C z d w cX6_spells 3 RX6) (hw : gx_isC ca w) (hR : gx_R z = rm_X6_spells) (hr : (gx_me z).sig.returnType = (some .boolean)) {M : gx_M} {Q : Int32 → Prop}   : ∀ (n : Nat) (s1 : Nat) (v2 : Int32) (hs1 : s1 < 12), T_X6_spells_20 M Q  n s1 v2 → GW z w 3 (gx_Qi w (fun r M1 => M1 = M ∧ Q r) (gx_s z).heap.size) M 20 [(0, .ref (gx_ad w 5)), (1, .ref (d.1 s1)), (2, .int v2)] [] := by
  intro n
  induction n with
  | zero =>
    intro s1 v2 hs1 h
    exact h.elim
  | succ n ih =>
    intro s1 v2 hs1 h
    rw [T_X6_spells_20] at h
    refine gw_iload_n hC dX6_spells_20 rfl 2 rfl ?_
    refine gw_aload_n hC dX6_spells_21 rfl 1 rfl ?_
    refine gw_slen hC hs1 (Nat.le_of_ble_eq_true rfl) (by rw [hR]; decide) dX6_spells_22 ?_
    refine gw_icmp_ge (tgt := 54) hC dX6_spells_25 (by decide) (fun hc => ?_) (fun hc => ?_)
    · have h := gx_t h hc
      refine gw_iconst (v := 1) hC dX6_spells_54 (by decide) ?_
      exact gw_zret hC hr rfl dX6_spells_55 ⟨rfl, h⟩
    · have h := gx_f h hc
      refine gw_aload_n hC dX6_spells_28 rfl 0 rfl ?_
      refine gw_aload_n hC dX6_spells_29 rfl 0 rfl ?_
      refine gw_get hC cl_X6 fg_X6_22 (hw.lt (by decide)) (gc_5 hw _) (gv_X6_3 _ _ _) dX6_spells_30 ?_
      refine gw_iload_n hC dX6_spells_33 rfl 2 rfl ?_
      refine gw_iadd hC dX6_spells_34 ?_
      refine gw_calli (gx_rV hC (n := 1) (As := [.int ((M 5 3) + v2)]) (rest := []) (fun sz => c_X6_byteAt hw  h sz) cv_X6_31_X6_byteAt (by rw [hR]; exact rr_X6_spells_X6_byteAt) ⟨(hw.lt (by decide)), _, _, _, _, gc_5 hw _, cl_X6.1⟩ rfl rfl (Nat.le_of_ble_eq_true rfl) dX6_spells_35) ?_
      intro r1 m2 ⟨hm2, h⟩
      rw [hm2]
      refine gw_aload_n hC dX6_spells_38 rfl 1 rfl ?_
      refine gw_iload_n hC dX6_spells_39 rfl 2 rfl ?_
      obtain ⟨hi, h⟩ := h
      refine gw_sch hC hs1 hi (Nat.le_of_ble_eq_true rfl) (by rw [hR]; decide) dX6_spells_40 ?_
      refine gw_icmp_eq (tgt := 48) hC dX6_spells_43 (by decide) (fun hc => ?_) (fun hc => ?_)
      · have h := gx_t h hc
        obtain ⟨x3, hx3⟩ : ∃ y : Int32, y = v2 + 1 := ⟨_, rfl⟩
        have h := h x3 hx3
        refine gw_iinc (v := x3) (lv' := [(2, .int x3), (0, .ref (gx_ad w 5)), (1, .ref (d.1 s1))]) hC dX6_spells_48 (k := 2) rfl (by rw [hx3]; rfl) (by decide) rfl ?_
        refine gw_goto (tgt := 20) hC dX6_spells_51 (by decide) ?_
        refine gw_sub (lv' := [(0, .ref (gx_ad w 5)), (1, .ref (d.1 s1)), (2, .int x3)]) [1, 2, 0] rfl ?_
        exact ih s1 x3 hs1 h
      · have h := gx_f h hc
        refine gw_iconst (v := 0) hC dX6_spells_46 (by decide) ?_
        exact gw_zret hC hr rfl dX6_spells_47 ⟨rfl, h⟩
set_option maxRecDepth 20000 in
theorem J_X6_spells {z : gx_X} {d : gx_D} {w : gx_V} {ca : Nat → ClassId} (hC : gx_C z d w cX6_spells 3 RX6) (hw : gx_isC ca w) (hR : gx_R z = rm_X6_spells) (hr : (gx_me z).sig.returnType = (some .boolean)) {s1 : Nat} (hs1 : s1 < 12) {M : gx_M}  {Q : Int32 → Prop} (h : T_X6_spells M s1 Q) : GW z w 3 (gx_Qi w (fun r M1 => M1 = M ∧ Q r) (gx_s z).heap.size) M 0 [(0, .ref (gx_ad w 5)), (1, .ref (d.1 s1))] [] := by
  unfold T_X6_spells at h
  refine gw_aload_n hC dX6_spells_0 rfl 0 rfl ?_
  refine gw_get hC cl_X6 fg_X6_19 (hw.lt (by decide)) (gc_5 hw _) (gv_X6_2 _ _ _) dX6_spells_1 ?_
  refine gw_aload_n hC dX6_spells_4 rfl 0 rfl ?_
  refine gw_get hC cl_X6 fg_X6_22 (hw.lt (by decide)) (gc_5 hw _) (gv_X6_3 _ _ _) dX6_spells_5 ?_
  refine gw_isub hC dX6_spells_8 ?_
  refine gw_aload_n hC dX6_spells_9 rfl 1 rfl ?_
  refine gw_slen hC hs1 (Nat.le_of_ble_eq_true rfl) (by rw [hR]; decide) dX6_spells_10 ?_
  refine gw_icmp_eq (tgt := 18) hC dX6_spells_13 (by decide) (fun hc => ?_) (fun hc => ?_)
  · have h := gx_t h hc
    refine gw_iconst (v := 0) hC dX6_spells_18 (by decide) ?_
    refine gw_istore_n (lv' := [(2, .int 0), (0, .ref (gx_ad w 5)), (1, .ref (d.1 s1))]) hC dX6_spells_19 rfl (by decide) rfl ?_
    obtain ⟨k4, h⟩ := h
    refine gw_sub (lv' := [(0, .ref (gx_ad w 5)), (1, .ref (d.1 s1)), (2, .int 0)]) [1, 2, 0] rfl ?_
    exact J_X6_spells_20 hC hw hR hr  k4 s1 0 hs1 h
  · have h := gx_f h hc
    refine gw_iconst (v := 0) hC dX6_spells_16 (by decide) ?_
    exact gw_zret hC hr rfl dX6_spells_17 ⟨rfl, h⟩
theorem c_X6_spells {l : Launch} {d : gx_D} {w : gx_V} {ca : Nat → ClassId} (hw : gx_isC ca w) {s1 : Nat} (hs1 : s1 < 12) {M : gx_M}  {Q : Int32 → Prop} (h : T_X6_spells M s1 Q) : gx_Mi l d w yX6_spells cX6_spells 3 .boolean rm_X6_spells [.ref (gx_ad w 5), .ref (d.1 s1)] M (fun r M1 => M1 = M ∧ Q r) := fun sz =>
  gx_of (own := RX6) (by decide +kernel) rfl (Nat.le_of_ble_eq_true rfl) (fun z hC hl hR hsz hr => by subst hsz; exact J_X6_spells hC hw hR hr hs1 h) rfl
set_option maxRecDepth 20000 in
theorem J_X6_valueSign {z : gx_X} {d : gx_D} {w : gx_V} {ca : Nat → ClassId} (hC : gx_C z d w cX6_valueSign 1 RX6) (hw : gx_isC ca w) (hR : gx_R z = rm_X6_valueSign) (hr : (gx_me z).sig.returnType = (some .int))   {M : gx_M}  {Q : Int32 → Prop} (h : T_X6_valueSign M  Q) : GW z w 1 (gx_Qi w (fun r M1 => M1 = M ∧ Q r) (gx_s z).heap.size) M 0 [(0, .ref (gx_ad w 5))] [] := by
  unfold T_X6_valueSign at h
  refine gw_aload_n hC dX6_valueSign_0 rfl 0 rfl ?_
  refine gw_ldcs (i := 5) hC (by decide) dX6_valueSign_1 ?_
  refine gw_calli (gx_rV hC (n := 1) (As := [.ref (d.1 5)]) (rest := []) (fun sz => c_X6_spells hw (by decide) h sz) cv_X6_70_X6_spells (by rw [hR]; exact rr_X6_valueSign_X6_spells) ⟨(hw.lt (by decide)), _, _, _, _, gc_5 hw _, cl_X6.1⟩ rfl rfl (Nat.le_of_ble_eq_true rfl) dX6_valueSign_3) ?_
  intro r1 m2 ⟨hm2, h⟩
  rw [hm2]
  refine gw_if_eq (tgt := 12) hC dX6_valueSign_6 (by decide) (fun hc => ?_) (fun hc => ?_)
  · have h := gx_t h hc
    refine gw_aload_n hC dX6_valueSign_12 rfl 0 rfl ?_
    refine gw_ldcs (i := 6) hC (by decide) dX6_valueSign_13 ?_
    refine gw_calli (gx_rV hC (n := 1) (As := [.ref (d.1 6)]) (rest := []) (fun sz => c_X6_spells hw (by decide) h sz) cv_X6_70_X6_spells (by rw [hR]; exact rr_X6_valueSign_X6_spells) ⟨(hw.lt (by decide)), _, _, _, _, gc_5 hw _, cl_X6.1⟩ rfl rfl (Nat.le_of_ble_eq_true rfl) dX6_valueSign_15) ?_
    intro r3 m4 ⟨hm4, h⟩
    rw [hm4]
    refine gw_if_eq (tgt := 24) hC dX6_valueSign_18 (by decide) (fun hc => ?_) (fun hc => ?_)
    · have h := gx_t h hc
      refine gw_aload_n hC dX6_valueSign_24 rfl 0 rfl ?_
      refine gw_ldcs (i := 7) hC (by decide) dX6_valueSign_25 ?_
      refine gw_calli (gx_rV hC (n := 1) (As := [.ref (d.1 7)]) (rest := []) (fun sz => c_X6_spells hw (by decide) h sz) cv_X6_70_X6_spells (by rw [hR]; exact rr_X6_valueSign_X6_spells) ⟨(hw.lt (by decide)), _, _, _, _, gc_5 hw _, cl_X6.1⟩ rfl rfl (Nat.le_of_ble_eq_true rfl) dX6_valueSign_27) ?_
      intro r5 m6 ⟨hm6, h⟩
      rw [hm6]
      refine gw_if_eq (tgt := 36) hC dX6_valueSign_30 (by decide) (fun hc => ?_) (fun hc => ?_)
      · have h := gx_t h hc
        refine gw_aload_n hC dX6_valueSign_36 rfl 0 rfl ?_
        refine gw_ldcs (i := 8) hC (by decide) dX6_valueSign_37 ?_
        refine gw_calli (gx_rV hC (n := 1) (As := [.ref (d.1 8)]) (rest := []) (fun sz => c_X6_spells hw (by decide) h sz) cv_X6_70_X6_spells (by rw [hR]; exact rr_X6_valueSign_X6_spells) ⟨(hw.lt (by decide)), _, _, _, _, gc_5 hw _, cl_X6.1⟩ rfl rfl (Nat.le_of_ble_eq_true rfl) dX6_valueSign_39) ?_
        intro r7 m8 ⟨hm8, h⟩
        rw [hm8]
        refine gw_if_eq (tgt := 48) hC dX6_valueSign_42 (by decide) (fun hc => ?_) (fun hc => ?_)
        · have h := gx_t h hc
          refine gw_aload_n hC dX6_valueSign_48 rfl 0 rfl ?_
          refine gw_ldcs (i := 9) hC (by decide) dX6_valueSign_49 ?_
          refine gw_calli (gx_rV hC (n := 1) (As := [.ref (d.1 9)]) (rest := []) (fun sz => c_X6_spells hw (by decide) h sz) cv_X6_70_X6_spells (by rw [hR]; exact rr_X6_valueSign_X6_spells) ⟨(hw.lt (by decide)), _, _, _, _, gc_5 hw _, cl_X6.1⟩ rfl rfl (Nat.le_of_ble_eq_true rfl) dX6_valueSign_51) ?_
          intro r9 m10 ⟨hm10, h⟩
          rw [hm10]
          refine gw_if_eq (tgt := 60) hC dX6_valueSign_54 (by decide) (fun hc => ?_) (fun hc => ?_)
          · have h := gx_t h hc
            refine gw_aload_n hC dX6_valueSign_60 rfl 0 rfl ?_
            refine gw_ldcs (i := 10) hC (by decide) dX6_valueSign_61 ?_
            refine gw_calli (gx_rV hC (n := 1) (As := [.ref (d.1 10)]) (rest := []) (fun sz => c_X6_spells hw (by decide) h sz) cv_X6_70_X6_spells (by rw [hR]; exact rr_X6_valueSign_X6_spells) ⟨(hw.lt (by decide)), _, _, _, _, gc_5 hw _, cl_X6.1⟩ rfl rfl (Nat.le_of_ble_eq_true rfl) dX6_valueSign_63) ?_
            intro r11 m12 ⟨hm12, h⟩
            rw [hm12]
            refine gw_if_eq (tgt := 72) hC dX6_valueSign_66 (by decide) (fun hc => ?_) (fun hc => ?_)
            · have h := gx_t h hc
              refine gw_aload_n hC dX6_valueSign_72 rfl 0 rfl ?_
              refine gw_ldcs (i := 11) hC (by decide) dX6_valueSign_73 ?_
              refine gw_calli (gx_rV hC (n := 1) (As := [.ref (d.1 11)]) (rest := []) (fun sz => c_X6_spells hw (by decide) h sz) cv_X6_70_X6_spells (by rw [hR]; exact rr_X6_valueSign_X6_spells) ⟨(hw.lt (by decide)), _, _, _, _, gc_5 hw _, cl_X6.1⟩ rfl rfl (Nat.le_of_ble_eq_true rfl) dX6_valueSign_75) ?_
              intro r13 m14 ⟨hm14, h⟩
              rw [hm14]
              refine gw_if_eq (tgt := 86) hC dX6_valueSign_78 (by decide) (fun hc => ?_) (fun hc => ?_)
              · have h := gx_t h hc
                refine gw_bipush (v := (-58)) hC dX6_valueSign_86 (by decide) ?_
                exact gw_iret hC hr dX6_valueSign_88 ⟨rfl, h⟩
              · have h := gx_f h hc
                refine gw_bipush (v := (-17)) hC dX6_valueSign_81 (by decide) ?_
                refine gw_goto (tgt := 88) hC dX6_valueSign_83 (by decide) ?_
                exact gw_iret hC hr dX6_valueSign_88 ⟨rfl, h⟩
            · have h := gx_f h hc
              refine gw_bipush (v := (-16)) hC dX6_valueSign_69 (by decide) ?_
              exact gw_iret hC hr dX6_valueSign_71 ⟨rfl, h⟩
          · have h := gx_f h hc
            refine gw_bipush (v := (-15)) hC dX6_valueSign_57 (by decide) ?_
            exact gw_iret hC hr dX6_valueSign_59 ⟨rfl, h⟩
        · have h := gx_f h hc
          refine gw_bipush (v := (-14)) hC dX6_valueSign_45 (by decide) ?_
          exact gw_iret hC hr dX6_valueSign_47 ⟨rfl, h⟩
      · have h := gx_f h hc
        refine gw_bipush (v := (-13)) hC dX6_valueSign_33 (by decide) ?_
        exact gw_iret hC hr dX6_valueSign_35 ⟨rfl, h⟩
    · have h := gx_f h hc
      refine gw_bipush (v := (-12)) hC dX6_valueSign_21 (by decide) ?_
      exact gw_iret hC hr dX6_valueSign_23 ⟨rfl, h⟩
  · have h := gx_f h hc
    refine gw_bipush (v := (-11)) hC dX6_valueSign_9 (by decide) ?_
    exact gw_iret hC hr dX6_valueSign_11 ⟨rfl, h⟩
theorem c_X6_valueSign {l : Launch} {d : gx_D} {w : gx_V} {ca : Nat → ClassId} (hw : gx_isC ca w)   {M : gx_M}  {Q : Int32 → Prop} (h : T_X6_valueSign M  Q) : gx_Mi l d w yX6_valueSign cX6_valueSign 1 .int rm_X6_valueSign [.ref (gx_ad w 5)] M (fun r M1 => M1 = M ∧ Q r) := fun sz =>
  gx_of (own := RX6) (by decide +kernel) rfl (Nat.le_of_ble_eq_true rfl) (fun z hC hl hR hsz hr => by subst hsz; exact J_X6_valueSign hC hw hR hr  h) rfl
set_option maxRecDepth 20000 in
theorem J_X6_wordSign {z : gx_X} {d : gx_D} {w : gx_V} {ca : Nat → ClassId} (hC : gx_C z d w cX6_wordSign 1 RX6) (hw : gx_isC ca w) (hR : gx_R z = rm_X6_wordSign) (hr : (gx_me z).sig.returnType = (some .int))   {M : gx_M}  {Q : Int32 → Prop} (h : T_X6_wordSign M  Q) : GW z w 1 (gx_Qi w (fun r M1 => M1 = M ∧ Q r) (gx_s z).heap.size) M 0 [(0, .ref (gx_ad w 5))] [] := by
  unfold T_X6_wordSign at h
  refine gw_aload_n hC dX6_wordSign_0 rfl 0 rfl ?_
  refine gw_ldcs (i := 0) hC (by decide) dX6_wordSign_1 ?_
  refine gw_calli (gx_rV hC (n := 1) (As := [.ref (d.1 0)]) (rest := []) (fun sz => c_X6_spells hw (by decide) h sz) cv_X6_70_X6_spells (by rw [hR]; exact rr_X6_wordSign_X6_spells) ⟨(hw.lt (by decide)), _, _, _, _, gc_5 hw _, cl_X6.1⟩ rfl rfl (Nat.le_of_ble_eq_true rfl) dX6_wordSign_3) ?_
  intro r1 m2 ⟨hm2, h⟩
  rw [hm2]
  refine gw_if_eq (tgt := 12) hC dX6_wordSign_6 (by decide) (fun hc => ?_) (fun hc => ?_)
  · have h := gx_t h hc
    refine gw_aload_n hC dX6_wordSign_12 rfl 0 rfl ?_
    refine gw_ldcs (i := 1) hC (by decide) dX6_wordSign_13 ?_
    refine gw_calli (gx_rV hC (n := 1) (As := [.ref (d.1 1)]) (rest := []) (fun sz => c_X6_spells hw (by decide) h sz) cv_X6_70_X6_spells (by rw [hR]; exact rr_X6_wordSign_X6_spells) ⟨(hw.lt (by decide)), _, _, _, _, gc_5 hw _, cl_X6.1⟩ rfl rfl (Nat.le_of_ble_eq_true rfl) dX6_wordSign_15) ?_
    intro r3 m4 ⟨hm4, h⟩
    rw [hm4]
    refine gw_if_eq (tgt := 24) hC dX6_wordSign_18 (by decide) (fun hc => ?_) (fun hc => ?_)
    · have h := gx_t h hc
      refine gw_aload_n hC dX6_wordSign_24 rfl 0 rfl ?_
      refine gw_ldcs (i := 2) hC (by decide) dX6_wordSign_25 ?_
      refine gw_calli (gx_rV hC (n := 1) (As := [.ref (d.1 2)]) (rest := []) (fun sz => c_X6_spells hw (by decide) h sz) cv_X6_70_X6_spells (by rw [hR]; exact rr_X6_wordSign_X6_spells) ⟨(hw.lt (by decide)), _, _, _, _, gc_5 hw _, cl_X6.1⟩ rfl rfl (Nat.le_of_ble_eq_true rfl) dX6_wordSign_27) ?_
      intro r5 m6 ⟨hm6, h⟩
      rw [hm6]
      refine gw_if_eq (tgt := 36) hC dX6_wordSign_30 (by decide) (fun hc => ?_) (fun hc => ?_)
      · have h := gx_t h hc
        refine gw_aload_n hC dX6_wordSign_36 rfl 0 rfl ?_
        refine gw_ldcs (i := 3) hC (by decide) dX6_wordSign_37 ?_
        refine gw_calli (gx_rV hC (n := 1) (As := [.ref (d.1 3)]) (rest := []) (fun sz => c_X6_spells hw (by decide) h sz) cv_X6_70_X6_spells (by rw [hR]; exact rr_X6_wordSign_X6_spells) ⟨(hw.lt (by decide)), _, _, _, _, gc_5 hw _, cl_X6.1⟩ rfl rfl (Nat.le_of_ble_eq_true rfl) dX6_wordSign_39) ?_
        intro r7 m8 ⟨hm8, h⟩
        rw [hm8]
        refine gw_if_eq (tgt := 48) hC dX6_wordSign_42 (by decide) (fun hc => ?_) (fun hc => ?_)
        · have h := gx_t h hc
          refine gw_aload_n hC dX6_wordSign_48 rfl 0 rfl ?_
          refine gw_ldcs (i := 4) hC (by decide) dX6_wordSign_49 ?_
          refine gw_calli (gx_rV hC (n := 1) (As := [.ref (d.1 4)]) (rest := []) (fun sz => c_X6_spells hw (by decide) h sz) cv_X6_70_X6_spells (by rw [hR]; exact rr_X6_wordSign_X6_spells) ⟨(hw.lt (by decide)), _, _, _, _, gc_5 hw _, cl_X6.1⟩ rfl rfl (Nat.le_of_ble_eq_true rfl) dX6_wordSign_51) ?_
          intro r9 m10 ⟨hm10, h⟩
          rw [hm10]
          refine gw_if_eq (tgt := 62) hC dX6_wordSign_54 (by decide) (fun hc => ?_) (fun hc => ?_)
          · have h := gx_t h hc
            refine gw_aload_n hC dX6_wordSign_62 rfl 0 rfl ?_
            refine gw_calli (gx_rV hC (n := 0) (As := []) (rest := []) (fun sz => c_X6_valueSign hw  h sz) cv_X6_82_X6_valueSign (by rw [hR]; exact rr_X6_wordSign_X6_valueSign) ⟨(hw.lt (by decide)), _, _, _, _, gc_5 hw _, cl_X6.1⟩ rfl rfl (Nat.le_of_ble_eq_true rfl) dX6_wordSign_63) ?_
            intro r11 m12 ⟨hm12, h⟩
            rw [hm12]
            exact gw_iret hC hr dX6_wordSign_66 ⟨rfl, h⟩
          · have h := gx_f h hc
            refine gw_bipush (v := (-41)) hC dX6_wordSign_57 (by decide) ?_
            refine gw_goto (tgt := 66) hC dX6_wordSign_59 (by decide) ?_
            exact gw_iret hC hr dX6_wordSign_66 ⟨rfl, h⟩
        · have h := gx_f h hc
          refine gw_bipush (v := (-42)) hC dX6_wordSign_45 (by decide) ?_
          exact gw_iret hC hr dX6_wordSign_47 ⟨rfl, h⟩
      · have h := gx_f h hc
        refine gw_bipush (v := (-43)) hC dX6_wordSign_33 (by decide) ?_
        exact gw_iret hC hr dX6_wordSign_35 ⟨rfl, h⟩
    · have h := gx_f h hc
      refine gw_bipush (v := (-55)) hC dX6_wordSign_21 (by decide) ?_
      exact gw_iret hC hr dX6_wordSign_23 ⟨rfl, h⟩
  · have h := gx_f h hc
    refine gw_bipush (v := (-54)) hC dX6_wordSign_9 (by decide) ?_
    exact gw_iret hC hr dX6_wordSign_11 ⟨rfl, h⟩
theorem c_X6_wordSign {l : Launch} {d : gx_D} {w : gx_V} {ca : Nat → ClassId} (hw : gx_isC ca w)   {M : gx_M}  {Q : Int32 → Prop} (h : T_X6_wordSign M  Q) : gx_Mi l d w yX6_wordSign cX6_wordSign 1 .int rm_X6_wordSign [.ref (gx_ad w 5)] M (fun r M1 => M1 = M ∧ Q r) := fun sz =>
  gx_of (own := RX6) (by decide +kernel) rfl (Nat.le_of_ble_eq_true rfl) (fun z hC hl hR hsz hr => by subst hsz; exact J_X6_wordSign hC hw hR hr  h) rfl
set_option maxRecDepth 20000 in
theorem J_X6_isDigit {z : gx_X} {d : gx_D} {w : gx_V} {ca : Nat → ClassId} (hC : gx_C z d w cX6_isDigit 1 RX6) (hw : gx_isC ca w) (hR : gx_R z = rm_X6_isDigit) (hr : (gx_me z).sig.returnType = (some .boolean))   {M : gx_M} {v0 : Int32} {Q : Int32 → Prop} (h : T_X6_isDigit M v0 Q) : GW z w 1 (gx_Qi w (fun r M1 => M1 = M ∧ Q r) (gx_s z).heap.size) M 0 [(0, .int v0)] [] := by
  unfold T_X6_isDigit at h
  refine gw_iload_n hC dX6_isDigit_0 rfl 0 rfl ?_
  refine gw_bipush (v := 48) hC dX6_isDigit_1 (by decide) ?_
  refine gw_bipush (v := 57) hC dX6_isDigit_3 (by decide) ?_
  refine gw_calli (gx_rN hC (n := 3) (As := [.int v0, .int 48, .int 57]) (rest := []) (fun sz => c_X10_within hw  h sz) cn_X6_107_X10_within (by rw [hR]; exact rr_X6_isDigit_X10_within) rfl rfl (Nat.le_of_ble_eq_true rfl) dX6_isDigit_5) ?_
  intro r1 m2 ⟨hm2, h⟩
  rw [hm2]
  obtain ⟨hz, h⟩ := h
  exact gw_zret hC hr (gx_nz hz) dX6_isDigit_8 ⟨rfl, h⟩
theorem c_X6_isDigit {l : Launch} {d : gx_D} {w : gx_V} {ca : Nat → ClassId} (hw : gx_isC ca w)   {M : gx_M} {v0 : Int32} {Q : Int32 → Prop} (h : T_X6_isDigit M v0 Q) : gx_Mi l d w yX6_isDigit cX6_isDigit 1 .boolean rm_X6_isDigit [.int v0] M (fun r M1 => M1 = M ∧ Q r) := fun sz =>
  gx_of (own := RX6) (by decide +kernel) rfl (Nat.le_of_ble_eq_true rfl) (fun z hC hl hR hsz hr => by subst hsz; exact J_X6_isDigit hC hw hR hr  h) rfl
set_option maxRecDepth 20000 in
theorem J_X6_readNumber_5 {z : gx_X} {d : gx_D} {w : gx_V} {ca : Nat → ClassId} (hC : gx_C z d w cX6_readNumber 1 RX6) (hw : gx_isC ca w) (hR : gx_R z = rm_X6_readNumber) (hr : (gx_me z).sig.returnType = none)  {Q : gx_M → Prop} {K72 : gx_M → Prop} (hK72 : ∀ (M : gx_M), K72 M → GW z w 1 (gx_Qv w Q (gx_s z).heap.size) M 72 [] []) : ∀ (n : Nat) (M : gx_M) , T_X6_readNumber_5 Q K72 n M → GW z w 1 (gx_Qv w Q (gx_s z).heap.size) M 5 [(0, .ref (gx_ad w 5))] [] := by
  intro n
  induction n with
  | zero =>
    intro M h
    exact h.elim
  | succ n ih =>
    intro M h
    rw [T_X6_readNumber_5] at h
    refine gw_aload_n hC dX6_readNumber_5 rfl 0 rfl ?_
    refine gw_get hC cl_X6 fg_X6_19 (hw.lt (by decide)) (gc_5 hw _) (gv_X6_2 _ _ _) dX6_readNumber_6 ?_
    refine gw_aload_n hC dX6_readNumber_9 rfl 0 rfl ?_
    refine gw_get hC cl_X6 fg_X6_15 (hw.lt (by decide)) (gc_5 hw _) (gv_X6_1 _ _ _) dX6_readNumber_10 ?_
    refine gw_icmp_ge (tgt := 72) hC dX6_readNumber_13 (by decide) (fun hc => ?_) (fun hc => ?_)
    · have h := gx_t h hc
      refine gw_sub (lv' := []) [] rfl ?_
      exact hK72 M h
    · have h := gx_f h hc
      refine gw_aload_n hC dX6_readNumber_16 rfl 0 rfl ?_
      refine gw_aload_n hC dX6_readNumber_17 rfl 0 rfl ?_
      refine gw_get hC cl_X6 fg_X6_19 (hw.lt (by decide)) (gc_5 hw _) (gv_X6_2 _ _ _) dX6_readNumber_18 ?_
      refine gw_calli (gx_rV hC (n := 1) (As := [.int (M 5 2)]) (rest := []) (fun sz => c_X6_byteAt hw  h sz) cv_X6_31_X6_byteAt (by rw [hR]; exact rr_X6_readNumber_X6_byteAt) ⟨(hw.lt (by decide)), _, _, _, _, gc_5 hw _, cl_X6.1⟩ rfl rfl (Nat.le_of_ble_eq_true rfl) dX6_readNumber_21) ?_
      intro r2 m3 ⟨hm3, h⟩
      rw [hm3]
      refine gw_calli (gx_rS hC (n := 1) (As := [.int r2]) (rest := []) (fun sz => c_X6_isDigit hw  h sz) cs_X6_49_X6_isDigit (by rw [hR]; exact rr_X6_readNumber_X6_isDigit) rfl rfl (Nat.le_of_ble_eq_true rfl) dX6_readNumber_24) ?_
      intro r4 m5 ⟨hm5, h⟩
      rw [hm5]
      refine gw_if_eq (tgt := 72) hC dX6_readNumber_27 (by decide) (fun hc => ?_) (fun hc => ?_)
      · have h := gx_t h hc
        refine gw_sub (lv' := []) [] rfl ?_
        exact hK72 M h
      · have h := gx_f h hc
        refine gw_aload_n hC dX6_readNumber_30 rfl 0 rfl ?_
        refine gw_aload_n hC dX6_readNumber_31 rfl 0 rfl ?_
        refine gw_get hC cl_X6 fg_X6_28 (hw.lt (by decide)) (gc_5 hw _) (gv_X6_5 _ _ _) dX6_readNumber_32 ?_
        refine gw_bipush (v := 10) hC dX6_readNumber_35 (by decide) ?_
        refine gw_imul hC dX6_readNumber_37 ?_
        refine gw_aload_n hC dX6_readNumber_38 rfl 0 rfl ?_
        refine gw_aload_n hC dX6_readNumber_39 rfl 0 rfl ?_
        refine gw_get hC cl_X6 fg_X6_19 (hw.lt (by decide)) (gc_5 hw _) (gv_X6_2 _ _ _) dX6_readNumber_40 ?_
        refine gw_calli (gx_rV hC (n := 1) (As := [.int (M 5 2)]) (rest := [.int ((M 5 5) * 10), .ref (gx_ad w 5)]) (fun sz => c_X6_byteAt hw  h sz) cv_X6_31_X6_byteAt (by rw [hR]; exact rr_X6_readNumber_X6_byteAt) ⟨(hw.lt (by decide)), _, _, _, _, gc_5 hw _, cl_X6.1⟩ rfl rfl (Nat.le_of_ble_eq_true rfl) dX6_readNumber_43) ?_
        intro r6 m7 ⟨hm7, h⟩
        rw [hm7]
        refine gw_iadd hC dX6_readNumber_46 ?_
        refine gw_bipush (v := 48) hC dX6_readNumber_47 (by decide) ?_
        refine gw_isub hC dX6_readNumber_49 ?_
        refine gw_sipush (v := 10000) hC dX6_readNumber_50 (by decide) ?_
        refine gw_mmin hC cm_X6_58 cm_st_min cm_ini cm_co_min (by rw [hR]; decide) (by rw [hR]; exact Nat.le_of_ble_eq_true rfl) dX6_readNumber_53 ?_
        refine gw_put hC cl_X6 fp_X6_28 (hw.lt (by decide)) (gc_5 hw _) ((gc_5 hw _).trans (gs_X6_5 _ _ _ _)) rfl rfl (by simp [fs_X6]) dX6_readNumber_56 ?_
        refine gw_nmM (fun M8 hM8 => ?_)
        have h := h M8 hM8
        refine gw_aload_n hC dX6_readNumber_59 rfl 0 rfl ?_
        refine gw_dup hC dX6_readNumber_60 rfl ?_
        refine gw_get hC cl_X6 fg_X6_19 (hw.lt (by decide)) (gc_5 hw _) (gv_X6_2 _ _ _) dX6_readNumber_61 ?_
        refine gw_iconst (v := 1) hC dX6_readNumber_64 (by decide) ?_
        refine gw_iadd hC dX6_readNumber_65 ?_
        refine gw_put hC cl_X6 fp_X6_19 (hw.lt (by decide)) (gc_5 hw _) ((gc_5 hw _).trans (gs_X6_2 _ _ _ _)) rfl rfl (by simp [fs_X6]) dX6_readNumber_66 ?_
        refine gw_nmM (fun M9 hM9 => ?_)
        have h := h M9 hM9
        refine gw_goto (tgt := 5) hC dX6_readNumber_69 (by decide) ?_
        exact ih M9 h
set_option maxRecDepth 20000 in
theorem J_X6_readNumber {z : gx_X} {d : gx_D} {w : gx_V} {ca : Nat → ClassId} (hC : gx_C z d w cX6_readNumber 1 RX6) (hw : gx_isC ca w) (hR : gx_R z = rm_X6_readNumber) (hr : (gx_me z).sig.returnType = none)   {M : gx_M}  {Q : gx_M → Prop} (h : T_X6_readNumber M  Q) : GW z w 1 (gx_Qv w Q (gx_s z).heap.size) M 0 [(0, .ref (gx_ad w 5))] [] := by
  unfold T_X6_readNumber at h
  refine gw_aload_n hC dX6_readNumber_0 rfl 0 rfl ?_
  refine gw_iconst (v := 0) hC dX6_readNumber_1 (by decide) ?_
  refine gw_put hC cl_X6 fp_X6_28 (hw.lt (by decide)) (gc_5 hw _) ((gc_5 hw _).trans (gs_X6_5 _ _ _ _)) rfl rfl (by simp [fs_X6]) dX6_readNumber_2 ?_
  refine gw_nmM (fun M1 hM1 => ?_)
  have h := h M1 hM1
  obtain ⟨k10, h⟩ := h
  exact J_X6_readNumber_5 hC hw hR hr (fun M11 h => by
      exact gw_vret hC hr dX6_readNumber_72 h) k10 M1 h
theorem c_X6_readNumber {l : Launch} {d : gx_D} {w : gx_V} {ca : Nat → ClassId} (hw : gx_isC ca w)   {M : gx_M}  {Q : gx_M → Prop} (h : T_X6_readNumber M  Q) : gx_Mv l d w yX6_readNumber cX6_readNumber 1 rm_X6_readNumber [.ref (gx_ad w 5)] M Q := fun sz =>
  gx_of (own := RX6) (by decide +kernel) rfl (Nat.le_of_ble_eq_true rfl) (fun z hC hl hR hsz hr => by subst hsz; exact J_X6_readNumber hC hw hR hr  h) rfl
set_option maxRecDepth 20000 in
theorem J_X6_passesEqual {z : gx_X} {d : gx_D} {w : gx_V} {ca : Nat → ClassId} (hC : gx_C z d w cX6_passesEqual 1 RX6) (hw : gx_isC ca w) (hR : gx_R z = rm_X6_passesEqual) (hr : (gx_me z).sig.returnType = (some .boolean))   {M : gx_M}  {Q : Int32 → gx_M → Prop} (h : T_X6_passesEqual M  Q) : GW z w 1 (gx_Qi w Q (gx_s z).heap.size) M 0 [(0, .ref (gx_ad w 5))] [] := by
  unfold T_X6_passesEqual at h
  refine gw_aload_n hC dX6_passesEqual_0 rfl 0 rfl ?_
  refine gw_aload_n hC dX6_passesEqual_1 rfl 0 rfl ?_
  refine gw_get hC cl_X6 fg_X6_19 (hw.lt (by decide)) (gc_5 hw _) (gv_X6_2 _ _ _) dX6_passesEqual_2 ?_
  refine gw_calli (gx_rV hC (n := 1) (As := [.int (M 5 2)]) (rest := []) (fun sz => c_X6_byteAt hw  h sz) cv_X6_31_X6_byteAt (by rw [hR]; exact rr_X6_passesEqual_X6_byteAt) ⟨(hw.lt (by decide)), _, _, _, _, gc_5 hw _, cl_X6.1⟩ rfl rfl (Nat.le_of_ble_eq_true rfl) dX6_passesEqual_5) ?_
  intro r1 m2 ⟨hm2, h⟩
  rw [hm2]
  refine gw_bipush (v := 61) hC dX6_passesEqual_8 (by decide) ?_
  refine gw_icmp_eq (tgt := 15) hC dX6_passesEqual_10 (by decide) (fun hc => ?_) (fun hc => ?_)
  · have h := gx_t h hc
    refine gw_aload_n hC dX6_passesEqual_15 rfl 0 rfl ?_
    refine gw_dup hC dX6_passesEqual_16 rfl ?_
    refine gw_get hC cl_X6 fg_X6_19 (hw.lt (by decide)) (gc_5 hw _) (gv_X6_2 _ _ _) dX6_passesEqual_17 ?_
    refine gw_iconst (v := 1) hC dX6_passesEqual_20 (by decide) ?_
    refine gw_iadd hC dX6_passesEqual_21 ?_
    refine gw_put hC cl_X6 fp_X6_19 (hw.lt (by decide)) (gc_5 hw _) ((gc_5 hw _).trans (gs_X6_2 _ _ _ _)) rfl rfl (by simp [fs_X6]) dX6_passesEqual_22 ?_
    refine gw_nmM (fun M3 hM3 => ?_)
    have h := h M3 hM3
    refine gw_iconst (v := 1) hC dX6_passesEqual_25 (by decide) ?_
    exact gw_zret hC hr rfl dX6_passesEqual_26 h
  · have h := gx_f h hc
    refine gw_iconst (v := 0) hC dX6_passesEqual_13 (by decide) ?_
    exact gw_zret hC hr rfl dX6_passesEqual_14 h
theorem c_X6_passesEqual {l : Launch} {d : gx_D} {w : gx_V} {ca : Nat → ClassId} (hw : gx_isC ca w)   {M : gx_M}  {Q : Int32 → gx_M → Prop} (h : T_X6_passesEqual M  Q) : gx_Mi l d w yX6_passesEqual cX6_passesEqual 1 .boolean rm_X6_passesEqual [.ref (gx_ad w 5)] M Q := fun sz =>
  gx_of (own := RX6) (by decide +kernel) rfl (Nat.le_of_ble_eq_true rfl) (fun z hC hl hR hsz hr => by subst hsz; exact J_X6_passesEqual hC hw hR hr  h) rfl
set_option maxRecDepth 20000 in
theorem J_X6_signOf {z : gx_X} {d : gx_D} {w : gx_V} {ca : Nat → ClassId} (hC : gx_C z d w cX6_signOf 2 RX6) (hw : gx_isC ca w) (hR : gx_R z = rm_X6_signOf) (hr : (gx_me z).sig.returnType = (some .int))   {M : gx_M} {v1 : Int32} {Q : Int32 → gx_M → Prop} (h : T_X6_signOf M v1 Q) : GW z w 2 (gx_Qi w Q (gx_s z).heap.size) M 0 [(0, .ref (gx_ad w 5)), (1, .int v1)] [] := by
  unfold T_X6_signOf at h
  refine gw_iload_n hC dX6_signOf_0 rfl 1 rfl ?_
  by_cases hs1 : v1 = 35
  · have h := gx_t h hs1
    refine gw_tabIn (tgt := 161) (off := 160) (v := 35) hC dX6_signOf_1 hs1 (by decide) (by decide) (by decide) (by decide) ?_
    refine gw_bipush (v := (-36)) hC dX6_signOf_161 (by decide) ?_
    exact gw_iret hC hr dX6_signOf_163 h
  have h := gx_f h hs1
  by_cases hs2 : v1 = 36
  · have h := gx_t h hs2
    refine gw_tabIn (tgt := 185) (off := 184) (v := 36) hC dX6_signOf_1 hs2 (by decide) (by decide) (by decide) (by decide) ?_
    refine gw_bipush (v := (-58)) hC dX6_signOf_185 (by decide) ?_
    exact gw_iret hC hr dX6_signOf_187 h
  have h := gx_f h hs2
  by_cases hs3 : v1 = 37
  · have h := gx_t h hs3
    refine gw_tabIn (tgt := 185) (off := 184) (v := 37) hC dX6_signOf_1 hs3 (by decide) (by decide) (by decide) (by decide) ?_
    refine gw_bipush (v := (-58)) hC dX6_signOf_185 (by decide) ?_
    exact gw_iret hC hr dX6_signOf_187 h
  have h := gx_f h hs3
  by_cases hs4 : v1 = 38
  · have h := gx_t h hs4
    refine gw_tabIn (tgt := 185) (off := 184) (v := 38) hC dX6_signOf_1 hs4 (by decide) (by decide) (by decide) (by decide) ?_
    refine gw_bipush (v := (-58)) hC dX6_signOf_185 (by decide) ?_
    exact gw_iret hC hr dX6_signOf_187 h
  have h := gx_f h hs4
  by_cases hs5 : v1 = 39
  · have h := gx_t h hs5
    refine gw_tabIn (tgt := 185) (off := 184) (v := 39) hC dX6_signOf_1 hs5 (by decide) (by decide) (by decide) (by decide) ?_
    refine gw_bipush (v := (-58)) hC dX6_signOf_185 (by decide) ?_
    exact gw_iret hC hr dX6_signOf_187 h
  have h := gx_f h hs5
  by_cases hs6 : v1 = 40
  · have h := gx_t h hs6
    refine gw_tabIn (tgt := 176) (off := 175) (v := 40) hC dX6_signOf_1 hs6 (by decide) (by decide) (by decide) (by decide) ?_
    refine gw_bipush (v := (-51)) hC dX6_signOf_176 (by decide) ?_
    exact gw_iret hC hr dX6_signOf_178 h
  have h := gx_f h hs6
  by_cases hs7 : v1 = 41
  · have h := gx_t h hs7
    refine gw_tabIn (tgt := 179) (off := 178) (v := 41) hC dX6_signOf_1 hs7 (by decide) (by decide) (by decide) (by decide) ?_
    refine gw_bipush (v := (-52)) hC dX6_signOf_179 (by decide) ?_
    exact gw_iret hC hr dX6_signOf_181 h
  have h := gx_f h hs7
  by_cases hs8 : v1 = 42
  · have h := gx_t h hs8
    refine gw_tabIn (tgt := 170) (off := 169) (v := 42) hC dX6_signOf_1 hs8 (by decide) (by decide) (by decide) (by decide) ?_
    refine gw_bipush (v := (-23)) hC dX6_signOf_170 (by decide) ?_
    exact gw_iret hC hr dX6_signOf_172 h
  have h := gx_f h hs8
  by_cases hs9 : v1 = 43
  · have h := gx_t h hs9
    refine gw_tabIn (tgt := 164) (off := 163) (v := 43) hC dX6_signOf_1 hs9 (by decide) (by decide) (by decide) (by decide) ?_
    refine gw_bipush (v := (-21)) hC dX6_signOf_164 (by decide) ?_
    exact gw_iret hC hr dX6_signOf_166 h
  have h := gx_f h hs9
  by_cases hs10 : v1 = 44
  · have h := gx_t h hs10
    refine gw_tabIn (tgt := 185) (off := 184) (v := 44) hC dX6_signOf_1 hs10 (by decide) (by decide) (by decide) (by decide) ?_
    refine gw_bipush (v := (-58)) hC dX6_signOf_185 (by decide) ?_
    exact gw_iret hC hr dX6_signOf_187 h
  have h := gx_f h hs10
  by_cases hs11 : v1 = 45
  · have h := gx_t h hs11
    refine gw_tabIn (tgt := 167) (off := 166) (v := 45) hC dX6_signOf_1 hs11 (by decide) (by decide) (by decide) (by decide) ?_
    refine gw_bipush (v := (-22)) hC dX6_signOf_167 (by decide) ?_
    exact gw_iret hC hr dX6_signOf_169 h
  have h := gx_f h hs11
  by_cases hs12 : v1 = 46
  · have h := gx_t h hs12
    refine gw_tabIn (tgt := 185) (off := 184) (v := 46) hC dX6_signOf_1 hs12 (by decide) (by decide) (by decide) (by decide) ?_
    refine gw_bipush (v := (-58)) hC dX6_signOf_185 (by decide) ?_
    exact gw_iret hC hr dX6_signOf_187 h
  have h := gx_f h hs12
  by_cases hs13 : v1 = 47
  · have h := gx_t h hs13
    refine gw_tabIn (tgt := 173) (off := 172) (v := 47) hC dX6_signOf_1 hs13 (by decide) (by decide) (by decide) (by decide) ?_
    refine gw_bipush (v := (-24)) hC dX6_signOf_173 (by decide) ?_
    exact gw_iret hC hr dX6_signOf_175 h
  have h := gx_f h hs13
  by_cases hs14 : v1 = 48
  · have h := gx_t h hs14
    refine gw_tabIn (tgt := 185) (off := 184) (v := 48) hC dX6_signOf_1 hs14 (by decide) (by decide) (by decide) (by decide) ?_
    refine gw_bipush (v := (-58)) hC dX6_signOf_185 (by decide) ?_
    exact gw_iret hC hr dX6_signOf_187 h
  have h := gx_f h hs14
  by_cases hs15 : v1 = 49
  · have h := gx_t h hs15
    refine gw_tabIn (tgt := 185) (off := 184) (v := 49) hC dX6_signOf_1 hs15 (by decide) (by decide) (by decide) (by decide) ?_
    refine gw_bipush (v := (-58)) hC dX6_signOf_185 (by decide) ?_
    exact gw_iret hC hr dX6_signOf_187 h
  have h := gx_f h hs15
  by_cases hs16 : v1 = 50
  · have h := gx_t h hs16
    refine gw_tabIn (tgt := 185) (off := 184) (v := 50) hC dX6_signOf_1 hs16 (by decide) (by decide) (by decide) (by decide) ?_
    refine gw_bipush (v := (-58)) hC dX6_signOf_185 (by decide) ?_
    exact gw_iret hC hr dX6_signOf_187 h
  have h := gx_f h hs16
  by_cases hs17 : v1 = 51
  · have h := gx_t h hs17
    refine gw_tabIn (tgt := 185) (off := 184) (v := 51) hC dX6_signOf_1 hs17 (by decide) (by decide) (by decide) (by decide) ?_
    refine gw_bipush (v := (-58)) hC dX6_signOf_185 (by decide) ?_
    exact gw_iret hC hr dX6_signOf_187 h
  have h := gx_f h hs17
  by_cases hs18 : v1 = 52
  · have h := gx_t h hs18
    refine gw_tabIn (tgt := 185) (off := 184) (v := 52) hC dX6_signOf_1 hs18 (by decide) (by decide) (by decide) (by decide) ?_
    refine gw_bipush (v := (-58)) hC dX6_signOf_185 (by decide) ?_
    exact gw_iret hC hr dX6_signOf_187 h
  have h := gx_f h hs18
  by_cases hs19 : v1 = 53
  · have h := gx_t h hs19
    refine gw_tabIn (tgt := 185) (off := 184) (v := 53) hC dX6_signOf_1 hs19 (by decide) (by decide) (by decide) (by decide) ?_
    refine gw_bipush (v := (-58)) hC dX6_signOf_185 (by decide) ?_
    exact gw_iret hC hr dX6_signOf_187 h
  have h := gx_f h hs19
  by_cases hs20 : v1 = 54
  · have h := gx_t h hs20
    refine gw_tabIn (tgt := 185) (off := 184) (v := 54) hC dX6_signOf_1 hs20 (by decide) (by decide) (by decide) (by decide) ?_
    refine gw_bipush (v := (-58)) hC dX6_signOf_185 (by decide) ?_
    exact gw_iret hC hr dX6_signOf_187 h
  have h := gx_f h hs20
  by_cases hs21 : v1 = 55
  · have h := gx_t h hs21
    refine gw_tabIn (tgt := 185) (off := 184) (v := 55) hC dX6_signOf_1 hs21 (by decide) (by decide) (by decide) (by decide) ?_
    refine gw_bipush (v := (-58)) hC dX6_signOf_185 (by decide) ?_
    exact gw_iret hC hr dX6_signOf_187 h
  have h := gx_f h hs21
  by_cases hs22 : v1 = 56
  · have h := gx_t h hs22
    refine gw_tabIn (tgt := 185) (off := 184) (v := 56) hC dX6_signOf_1 hs22 (by decide) (by decide) (by decide) (by decide) ?_
    refine gw_bipush (v := (-58)) hC dX6_signOf_185 (by decide) ?_
    exact gw_iret hC hr dX6_signOf_187 h
  have h := gx_f h hs22
  by_cases hs23 : v1 = 57
  · have h := gx_t h hs23
    refine gw_tabIn (tgt := 185) (off := 184) (v := 57) hC dX6_signOf_1 hs23 (by decide) (by decide) (by decide) (by decide) ?_
    refine gw_bipush (v := (-58)) hC dX6_signOf_185 (by decide) ?_
    exact gw_iret hC hr dX6_signOf_187 h
  have h := gx_f h hs23
  by_cases hs24 : v1 = 58
  · have h := gx_t h hs24
    refine gw_tabIn (tgt := 185) (off := 184) (v := 58) hC dX6_signOf_1 hs24 (by decide) (by decide) (by decide) (by decide) ?_
    refine gw_bipush (v := (-58)) hC dX6_signOf_185 (by decide) ?_
    exact gw_iret hC hr dX6_signOf_187 h
  have h := gx_f h hs24
  by_cases hs25 : v1 = 59
  · have h := gx_t h hs25
    refine gw_tabIn (tgt := 182) (off := 181) (v := 59) hC dX6_signOf_1 hs25 (by decide) (by decide) (by decide) (by decide) ?_
    refine gw_bipush (v := (-53)) hC dX6_signOf_182 (by decide) ?_
    exact gw_iret hC hr dX6_signOf_184 h
  have h := gx_f h hs25
  by_cases hs28 : v1 = 60
  · have h := gx_t h hs28
    refine gw_tabIn (tgt := 128) (off := 127) (v := 60) hC dX6_signOf_1 hs28 (by decide) (by decide) (by decide) (by decide) ?_
    refine gw_aload_n hC dX6_signOf_128 rfl 0 rfl ?_
    refine gw_calli (gx_rV hC (n := 0) (As := []) (rest := []) (fun sz => c_X6_passesEqual hw  h sz) cv_X6_64_X6_passesEqual (by rw [hR]; exact rr_X6_signOf_X6_passesEqual) ⟨(hw.lt (by decide)), _, _, _, _, gc_5 hw _, cl_X6.1⟩ rfl rfl (Nat.le_of_ble_eq_true rfl) dX6_signOf_129) ?_
    intro r27 M26 h
    refine gw_if_eq (tgt := 140) hC dX6_signOf_132 (by decide) (fun hc => ?_) (fun hc => ?_)
    · have h := gx_t h hc
      refine gw_bipush (v := (-31)) hC dX6_signOf_140 (by decide) ?_
      exact gw_iret hC hr dX6_signOf_142 h
    · have h := gx_f h hc
      refine gw_bipush (v := (-32)) hC dX6_signOf_135 (by decide) ?_
      refine gw_goto (tgt := 142) hC dX6_signOf_137 (by decide) ?_
      exact gw_iret hC hr dX6_signOf_142 h
  have h := gx_f h hs28
  by_cases hs29 : v1 = 61
  · have h := gx_t h hs29
    refine gw_tabIn (tgt := 158) (off := 157) (v := 61) hC dX6_signOf_1 hs29 (by decide) (by decide) (by decide) (by decide) ?_
    refine gw_bipush (v := (-35)) hC dX6_signOf_158 (by decide) ?_
    exact gw_iret hC hr dX6_signOf_160 h
  have h := gx_f h hs29
  by_cases hs32 : v1 = 62
  · have h := gx_t h hs32
    refine gw_tabIn (tgt := 143) (off := 142) (v := 62) hC dX6_signOf_1 hs32 (by decide) (by decide) (by decide) (by decide) ?_
    refine gw_aload_n hC dX6_signOf_143 rfl 0 rfl ?_
    refine gw_calli (gx_rV hC (n := 0) (As := []) (rest := []) (fun sz => c_X6_passesEqual hw  h sz) cv_X6_64_X6_passesEqual (by rw [hR]; exact rr_X6_signOf_X6_passesEqual) ⟨(hw.lt (by decide)), _, _, _, _, gc_5 hw _, cl_X6.1⟩ rfl rfl (Nat.le_of_ble_eq_true rfl) dX6_signOf_144) ?_
    intro r31 M30 h
    refine gw_if_eq (tgt := 155) hC dX6_signOf_147 (by decide) (fun hc => ?_) (fun hc => ?_)
    · have h := gx_t h hc
      refine gw_bipush (v := (-33)) hC dX6_signOf_155 (by decide) ?_
      exact gw_iret hC hr dX6_signOf_157 h
    · have h := gx_f h hc
      refine gw_bipush (v := (-34)) hC dX6_signOf_150 (by decide) ?_
      refine gw_goto (tgt := 157) hC dX6_signOf_152 (by decide) ?_
      exact gw_iret hC hr dX6_signOf_157 h
  have h := gx_f h hs32
  refine gw_tabOut (tgt := 185) 28 hC dX6_signOf_1 (by decide) (fun j hj => match j, hj with | 0, _ => fun e => hs1 (e.trans (by decide)) | 1, _ => fun e => hs2 (e.trans (by decide)) | 2, _ => fun e => hs3 (e.trans (by decide)) | 3, _ => fun e => hs4 (e.trans (by decide)) | 4, _ => fun e => hs5 (e.trans (by decide)) | 5, _ => fun e => hs6 (e.trans (by decide)) | 6, _ => fun e => hs7 (e.trans (by decide)) | 7, _ => fun e => hs8 (e.trans (by decide)) | 8, _ => fun e => hs9 (e.trans (by decide)) | 9, _ => fun e => hs10 (e.trans (by decide)) | 10, _ => fun e => hs11 (e.trans (by decide)) | 11, _ => fun e => hs12 (e.trans (by decide)) | 12, _ => fun e => hs13 (e.trans (by decide)) | 13, _ => fun e => hs14 (e.trans (by decide)) | 14, _ => fun e => hs15 (e.trans (by decide)) | 15, _ => fun e => hs16 (e.trans (by decide)) | 16, _ => fun e => hs17 (e.trans (by decide)) | 17, _ => fun e => hs18 (e.trans (by decide)) | 18, _ => fun e => hs19 (e.trans (by decide)) | 19, _ => fun e => hs20 (e.trans (by decide)) | 20, _ => fun e => hs21 (e.trans (by decide)) | 21, _ => fun e => hs22 (e.trans (by decide)) | 22, _ => fun e => hs23 (e.trans (by decide)) | 23, _ => fun e => hs24 (e.trans (by decide)) | 24, _ => fun e => hs25 (e.trans (by decide)) | 25, _ => fun e => hs28 (e.trans (by decide)) | 26, _ => fun e => hs29 (e.trans (by decide)) | 27, _ => fun e => hs32 (e.trans (by decide)) | n + 28, hj => absurd hj (by omega)) (by decide) ?_
  refine gw_bipush (v := (-58)) hC dX6_signOf_185 (by decide) ?_
  exact gw_iret hC hr dX6_signOf_187 h
theorem c_X6_signOf {l : Launch} {d : gx_D} {w : gx_V} {ca : Nat → ClassId} (hw : gx_isC ca w)   {M : gx_M} {v1 : Int32} {Q : Int32 → gx_M → Prop} (h : T_X6_signOf M v1 Q) : gx_Mi l d w yX6_signOf cX6_signOf 2 .int rm_X6_signOf [.ref (gx_ad w 5), .int v1] M Q := fun sz =>
  gx_of (own := RX6) (by decide +kernel) rfl (Nat.le_of_ble_eq_true rfl) (fun z hC hl hR hsz hr => by subst hsz; exact J_X6_signOf hC hw hR hr  h) rfl
set_option maxRecDepth 20000 in
theorem J_X6_next_0 {z : gx_X} {d : gx_D} {w : gx_V} {ca : Nat → ClassId} (hC : gx_C z d w cX6_next 2 RX6) (hw : gx_isC ca w) (hR : gx_R z = rm_X6_next) (hr : (gx_me z).sig.returnType = none)  {Q : gx_M → Prop} {K38 : gx_M → Prop} (hK38 : ∀ (M : gx_M), K38 M → GW z w 2 (gx_Qv w Q (gx_s z).heap.size) M 38 [(0, .ref (gx_ad w 5))] []) : ∀ (n : Nat) (M : gx_M) , T_X6_next_0 Q K38 n M → GW z w 2 (gx_Qv w Q (gx_s z).heap.size) M 0 [(0, .ref (gx_ad w 5))] [] := by
  intro n
  induction n with
  | zero =>
    intro M h
    exact h.elim
  | succ n ih =>
    intro M h
    rw [T_X6_next_0] at h
    refine gw_aload_n hC dX6_next_0 rfl 0 rfl ?_
    refine gw_get hC cl_X6 fg_X6_19 (hw.lt (by decide)) (gc_5 hw _) (gv_X6_2 _ _ _) dX6_next_1 ?_
    refine gw_aload_n hC dX6_next_4 rfl 0 rfl ?_
    refine gw_get hC cl_X6 fg_X6_15 (hw.lt (by decide)) (gc_5 hw _) (gv_X6_1 _ _ _) dX6_next_5 ?_
    refine gw_icmp_ge (tgt := 38) hC dX6_next_8 (by decide) (fun hc => ?_) (fun hc => ?_)
    · have h := gx_t h hc
      exact hK38 M h
    · have h := gx_f h hc
      refine gw_aload_n hC dX6_next_11 rfl 0 rfl ?_
      refine gw_aload_n hC dX6_next_12 rfl 0 rfl ?_
      refine gw_get hC cl_X6 fg_X6_19 (hw.lt (by decide)) (gc_5 hw _) (gv_X6_2 _ _ _) dX6_next_13 ?_
      refine gw_calli (gx_rV hC (n := 1) (As := [.int (M 5 2)]) (rest := []) (fun sz => c_X6_byteAt hw  h sz) cv_X6_31_X6_byteAt (by rw [hR]; exact rr_X6_next_X6_byteAt) ⟨(hw.lt (by decide)), _, _, _, _, gc_5 hw _, cl_X6.1⟩ rfl rfl (Nat.le_of_ble_eq_true rfl) dX6_next_16) ?_
      intro r1 m2 ⟨hm2, h⟩
      rw [hm2]
      refine gw_calli (gx_rS hC (n := 1) (As := [.int r1]) (rest := []) (fun sz => c_X6_isBlank hw  h sz) cs_X6_35_X6_isBlank (by rw [hR]; exact rr_X6_next_X6_isBlank) rfl rfl (Nat.le_of_ble_eq_true rfl) dX6_next_19) ?_
      intro r3 m4 ⟨hm4, h⟩
      rw [hm4]
      refine gw_if_eq (tgt := 38) hC dX6_next_22 (by decide) (fun hc => ?_) (fun hc => ?_)
      · have h := gx_t h hc
        exact hK38 M h
      · have h := gx_f h hc
        refine gw_aload_n hC dX6_next_25 rfl 0 rfl ?_
        refine gw_dup hC dX6_next_26 rfl ?_
        refine gw_get hC cl_X6 fg_X6_19 (hw.lt (by decide)) (gc_5 hw _) (gv_X6_2 _ _ _) dX6_next_27 ?_
        refine gw_iconst (v := 1) hC dX6_next_30 (by decide) ?_
        refine gw_iadd hC dX6_next_31 ?_
        refine gw_put hC cl_X6 fp_X6_19 (hw.lt (by decide)) (gc_5 hw _) ((gc_5 hw _).trans (gs_X6_2 _ _ _ _)) rfl rfl (by simp [fs_X6]) dX6_next_32 ?_
        refine gw_nmM (fun M5 hM5 => ?_)
        have h := h M5 hM5
        refine gw_goto (tgt := 0) hC dX6_next_35 (by decide) ?_
        exact ih M5 h
set_option maxRecDepth 20000 in
theorem J_X6_next_38 {z : gx_X} {d : gx_D} {w : gx_V} {ca : Nat → ClassId} (hC : gx_C z d w cX6_next 2 RX6) (hw : gx_isC ca w) (hR : gx_R z = rm_X6_next) (hr : (gx_me z).sig.returnType = none)  {Q : gx_M → Prop}   (M : gx_M)  (h : T_X6_next_38 Q  M) : GW z w 2 (gx_Qv w Q (gx_s z).heap.size) M 38 [(0, .ref (gx_ad w 5))] [] := by
  unfold T_X6_next_38 at h
  refine gw_aload_n hC dX6_next_38 rfl 0 rfl ?_
  refine gw_aload_n hC dX6_next_39 rfl 0 rfl ?_
  refine gw_get hC cl_X6 fg_X6_19 (hw.lt (by decide)) (gc_5 hw _) (gv_X6_2 _ _ _) dX6_next_40 ?_
  refine gw_put hC cl_X6 fp_X6_22 (hw.lt (by decide)) (gc_5 hw _) ((gc_5 hw _).trans (gs_X6_3 _ _ _ _)) rfl rfl (by simp [fs_X6]) dX6_next_43 ?_
  refine gw_nmM (fun M8 hM8 => ?_)
  have h := h M8 hM8
  refine gw_aload_n hC dX6_next_46 rfl 0 rfl ?_
  refine gw_aload_n hC dX6_next_47 rfl 0 rfl ?_
  refine gw_get hC cl_X6 fg_X6_19 (hw.lt (by decide)) (gc_5 hw _) (gv_X6_2 _ _ _) dX6_next_48 ?_
  refine gw_calli (gx_rV hC (n := 1) (As := [.int (M8 5 2)]) (rest := []) (fun sz => c_X6_byteAt hw  h sz) cv_X6_31_X6_byteAt (by rw [hR]; exact rr_X6_next_X6_byteAt) ⟨(hw.lt (by decide)), _, _, _, _, gc_5 hw _, cl_X6.1⟩ rfl rfl (Nat.le_of_ble_eq_true rfl) dX6_next_51) ?_
  intro r9 m10 ⟨hm10, h⟩
  rw [hm10]
  refine gw_istore_n (lv' := [(1, .int r9), (0, .ref (gx_ad w 5))]) hC dX6_next_54 rfl (by decide) rfl ?_
  refine gw_iload_n hC dX6_next_55 rfl 0 rfl ?_
  refine gw_iconst (v := (-1)) hC dX6_next_56 (by decide) ?_
  refine gw_icmp_ne (tgt := 69) hC dX6_next_57 (by decide) (fun hc => ?_) (fun hc => ?_)
  · have h := gx_f h hc
    refine gw_iload_n hC dX6_next_69 rfl 0 rfl ?_
    refine gw_calli (gx_rS hC (n := 1) (As := [.int r9]) (rest := []) (fun sz => c_X6_isLetter hw  h sz) cs_X6_39_X6_isLetter (by rw [hR]; exact rr_X6_next_X6_isLetter) rfl rfl (Nat.le_of_ble_eq_true rfl) dX6_next_70) ?_
    intro r11 m12 ⟨hm12, h⟩
    rw [hm12]
    refine gw_if_eq (tgt := 91) hC dX6_next_73 (by decide) (fun hc => ?_) (fun hc => ?_)
    · have h := gx_t h hc
      refine gw_iload_n hC dX6_next_91 rfl 0 rfl ?_
      refine gw_calli (gx_rS hC (n := 1) (As := [.int r9]) (rest := []) (fun sz => c_X6_isDigit hw  h sz) cs_X6_49_X6_isDigit (by rw [hR]; exact rr_X6_next_X6_isDigit) rfl rfl (Nat.le_of_ble_eq_true rfl) dX6_next_92) ?_
      intro r13 m14 ⟨hm14, h⟩
      rw [hm14]
      refine gw_if_eq (tgt := 111) hC dX6_next_95 (by decide) (fun hc => ?_) (fun hc => ?_)
      · have h := gx_t h hc
        refine gw_aload_n hC dX6_next_111 rfl 1 rfl ?_
        refine gw_dup hC dX6_next_112 rfl ?_
        refine gw_get hC cl_X6 fg_X6_19 (hw.lt (by decide)) (gc_5 hw _) (gv_X6_2 _ _ _) dX6_next_113 ?_
        refine gw_iconst (v := 1) hC dX6_next_116 (by decide) ?_
        refine gw_iadd hC dX6_next_117 ?_
        refine gw_put hC cl_X6 fp_X6_19 (hw.lt (by decide)) (gc_5 hw _) ((gc_5 hw _).trans (gs_X6_2 _ _ _ _)) rfl rfl (by simp [fs_X6]) dX6_next_118 ?_
        refine gw_nmM (fun M15 hM15 => ?_)
        have h := h M15 hM15
        refine gw_aload_n hC dX6_next_121 rfl 1 rfl ?_
        refine gw_aload_n hC dX6_next_122 rfl 1 rfl ?_
        refine gw_iload_n hC dX6_next_123 rfl 0 rfl ?_
        refine gw_calli (gx_rV hC (n := 1) (As := [.int r9]) (rest := [.ref (gx_ad w 5)]) (fun sz => c_X6_signOf hw  h sz) cv_X6_55_X6_signOf (by rw [hR]; exact rr_X6_next_X6_signOf) ⟨(hw.lt (by decide)), _, _, _, _, gc_5 hw _, cl_X6.1⟩ rfl rfl (Nat.le_of_ble_eq_true rfl) dX6_next_124) ?_
        intro r17 M16 h
        refine gw_put hC cl_X6 fp_X6_25 (hw.lt (by decide)) (gc_5 hw _) ((gc_5 hw _).trans (gs_X6_4 _ _ _ _)) rfl rfl (by simp [fs_X6]) dX6_next_127 ?_
        refine gw_nmM (fun M18 hM18 => ?_)
        have h := h M18 hM18
        exact gw_vret hC hr dX6_next_130 h
      · have h := gx_f h hc
        refine gw_aload_n hC dX6_next_98 rfl 1 rfl ?_
        refine gw_callv (gx_rV hC (n := 0) (As := []) (rest := []) (fun sz => c_X6_readNumber hw  h sz) cv_X6_52_X6_readNumber (by rw [hR]; exact rr_X6_next_X6_readNumber) ⟨(hw.lt (by decide)), _, _, _, _, gc_5 hw _, cl_X6.1⟩ rfl rfl (Nat.le_of_ble_eq_true rfl) dX6_next_99) ?_
        intro M19 h
        refine gw_aload_n hC dX6_next_102 rfl 1 rfl ?_
        refine gw_bipush (v := (-56)) hC dX6_next_103 (by decide) ?_
        refine gw_put hC cl_X6 fp_X6_25 (hw.lt (by decide)) (gc_5 hw _) ((gc_5 hw _).trans (gs_X6_4 _ _ _ _)) rfl rfl (by simp [fs_X6]) dX6_next_105 ?_
        refine gw_nmM (fun M20 hM20 => ?_)
        have h := h M20 hM20
        refine gw_goto (tgt := 130) hC dX6_next_108 (by decide) ?_
        exact gw_vret hC hr dX6_next_130 h
    · have h := gx_f h hc
      refine gw_aload_n hC dX6_next_76 rfl 1 rfl ?_
      refine gw_callv (gx_rV hC (n := 0) (As := []) (rest := []) (fun sz => c_X6_passLetters hw  h sz) cv_X6_42_X6_passLetters (by rw [hR]; exact rr_X6_next_X6_passLetters) ⟨(hw.lt (by decide)), _, _, _, _, gc_5 hw _, cl_X6.1⟩ rfl rfl (Nat.le_of_ble_eq_true rfl) dX6_next_77) ?_
      intro M21 h
      refine gw_aload_n hC dX6_next_80 rfl 1 rfl ?_
      refine gw_aload_n hC dX6_next_81 rfl 1 rfl ?_
      refine gw_calli (gx_rV hC (n := 0) (As := []) (rest := [.ref (gx_ad w 5)]) (fun sz => c_X6_wordSign hw  h sz) cv_X6_45_X6_wordSign (by rw [hR]; exact rr_X6_next_X6_wordSign) ⟨(hw.lt (by decide)), _, _, _, _, gc_5 hw _, cl_X6.1⟩ rfl rfl (Nat.le_of_ble_eq_true rfl) dX6_next_82) ?_
      intro r22 m23 ⟨hm23, h⟩
      rw [hm23]
      refine gw_put hC cl_X6 fp_X6_25 (hw.lt (by decide)) (gc_5 hw _) ((gc_5 hw _).trans (gs_X6_4 _ _ _ _)) rfl rfl (by simp [fs_X6]) dX6_next_85 ?_
      refine gw_nmM (fun M24 hM24 => ?_)
      have h := h M24 hM24
      refine gw_goto (tgt := 130) hC dX6_next_88 (by decide) ?_
      exact gw_vret hC hr dX6_next_130 h
  · have h := gx_t h hc
    refine gw_aload_n hC dX6_next_60 rfl 1 rfl ?_
    refine gw_bipush (v := (-57)) hC dX6_next_61 (by decide) ?_
    refine gw_put hC cl_X6 fp_X6_25 (hw.lt (by decide)) (gc_5 hw _) ((gc_5 hw _).trans (gs_X6_4 _ _ _ _)) rfl rfl (by simp [fs_X6]) dX6_next_63 ?_
    refine gw_nmM (fun M25 hM25 => ?_)
    have h := h M25 hM25
    refine gw_goto (tgt := 130) hC dX6_next_66 (by decide) ?_
    exact gw_vret hC hr dX6_next_130 h
