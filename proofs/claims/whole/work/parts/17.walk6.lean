theorem c_X10_back {l : Launch} {d : gx_D} {w : gx_V} {ca : Nat → ClassId} (hw : gx_isC ca w)   {M : gx_M}  {Q : Int32 → gx_M → Prop} (h : T_X10_back M  Q) : gx_Mi l d w yX10_back cX10_back 1 .int rm_X10_back [.ref (gx_ad w 0)] M Q := fun sz =>
  gx_of (own := RX10) (by decide +kernel) rfl (Nat.le_of_ble_eq_true rfl) (fun z hC hl hR hsz hr => by subst hsz; exact J_X10_back hC hw hR hr  h) rfl
set_option maxRecDepth 20000 in
theorem J_X10_aboutInputs {z : gx_X} {d : gx_D} {w : gx_V} {ca : Nat → ClassId} (hC : gx_C z d w cX10_aboutInputs 2 RX10) (hw : gx_isC ca w) (hR : gx_R z = rm_X10_aboutInputs) (hr : (gx_me z).sig.returnType = (some .int))   {M : gx_M} {v1 : Int32} {Q : Int32 → Prop} (h : T_X10_aboutInputs M v1 Q) : GW z w 2 (gx_Qi w (fun r M1 => M1 = M ∧ Q r) (gx_s z).heap.size) M 0 [(0, .ref (gx_ad w 0)), (1, .int v1)] [] := by
  unfold T_X10_aboutInputs at h
  refine gw_iload_n hC dX10_aboutInputs_0 rfl 1 rfl ?_
  refine gw_bipush (v := 10) hC dX10_aboutInputs_1 (by decide) ?_
  refine gw_bipush (v := 11) hC dX10_aboutInputs_3 (by decide) ?_
  refine gw_calli (gx_rS hC (n := 3) (As := [.int v1, .int 10, .int 11]) (rest := []) (fun sz => c_X10_within hw  h sz) cs_X10_81_X10_within (by rw [hR]; exact rr_X10_aboutInputs_X10_within) rfl rfl (Nat.le_of_ble_eq_true rfl) dX10_aboutInputs_5) ?_
  intro r1 m2 ⟨hm2, h⟩
  rw [hm2]
  refine gw_if_eq (tgt := 27) hC dX10_aboutInputs_8 (by decide) (fun hc => ?_) (fun hc => ?_)
  · have h := gx_t h hc
    refine gw_iload_n hC dX10_aboutInputs_27 rfl 1 rfl ?_
    refine gw_bipush (v := 12) hC dX10_aboutInputs_28 (by decide) ?_
    refine gw_bipush (v := 13) hC dX10_aboutInputs_30 (by decide) ?_
    refine gw_calli (gx_rS hC (n := 3) (As := [.int v1, .int 12, .int 13]) (rest := []) (fun sz => c_X10_within hw  h sz) cs_X10_81_X10_within (by rw [hR]; exact rr_X10_aboutInputs_X10_within) rfl rfl (Nat.le_of_ble_eq_true rfl) dX10_aboutInputs_32) ?_
    intro r3 m4 ⟨hm4, h⟩
    rw [hm4]
    refine gw_if_eq (tgt := 54) hC dX10_aboutInputs_35 (by decide) (fun hc => ?_) (fun hc => ?_)
    · have h := gx_t h hc
      refine gw_iload_n hC dX10_aboutInputs_54 rfl 1 rfl ?_
      refine gw_bipush (v := 14) hC dX10_aboutInputs_55 (by decide) ?_
      refine gw_bipush (v := 15) hC dX10_aboutInputs_57 (by decide) ?_
      refine gw_calli (gx_rS hC (n := 3) (As := [.int v1, .int 14, .int 15]) (rest := []) (fun sz => c_X10_within hw  h sz) cs_X10_81_X10_within (by rw [hR]; exact rr_X10_aboutInputs_X10_within) rfl rfl (Nat.le_of_ble_eq_true rfl) dX10_aboutInputs_59) ?_
      intro r5 m6 ⟨hm6, h⟩
      rw [hm6]
      refine gw_if_eq (tgt := 81) hC dX10_aboutInputs_62 (by decide) (fun hc => ?_) (fun hc => ?_)
      · have h := gx_t h hc
        refine gw_iload_n hC dX10_aboutInputs_81 rfl 1 rfl ?_
        refine gw_bipush (v := 20) hC dX10_aboutInputs_82 (by decide) ?_
        refine gw_bipush (v := 23) hC dX10_aboutInputs_84 (by decide) ?_
        refine gw_calli (gx_rS hC (n := 3) (As := [.int v1, .int 20, .int 23]) (rest := []) (fun sz => c_X10_within hw  h sz) cs_X10_81_X10_within (by rw [hR]; exact rr_X10_aboutInputs_X10_within) rfl rfl (Nat.le_of_ble_eq_true rfl) dX10_aboutInputs_86) ?_
        intro r7 m8 ⟨hm8, h⟩
        rw [hm8]
        refine gw_if_eq (tgt := 110) hC dX10_aboutInputs_89 (by decide) (fun hc => ?_) (fun hc => ?_)
        · have h := gx_t h hc
          refine gw_iconst (v := (-1)) hC dX10_aboutInputs_110 (by decide) ?_
          exact gw_iret hC hr dX10_aboutInputs_111 ⟨rfl, h⟩
        · have h := gx_f h hc
          refine gw_aload_n hC dX10_aboutInputs_92 rfl 0 rfl ?_
          refine gw_get hC cl_X10 fg_X10_20 (hw.lt (by decide)) (gc_0 hw _) (gv_X10_1 _ _ _) dX10_aboutInputs_93 ?_
          refine gw_get hC cl_X8 fg_X10_85 (hw.lt (by decide)) (gc_Se hw (by decide) _) (gv_X8_0 _ _ _) dX10_aboutInputs_96 ?_
          refine gw_rr (o' := 36) (by omega) ?_
          refine gw_iload_n hC dX10_aboutInputs_99 rfl 1 rfl ?_
          refine gw_bipush (v := 20) hC dX10_aboutInputs_100 (by decide) ?_
          refine gw_isub hC dX10_aboutInputs_102 ?_
          obtain ⟨hi, h⟩ := h
          have hb9 := vp_lt hi
          refine gw_aald hC (hw.lt (by decide)) (gc_SA hw (by decide) _) (gt_3 hw) rfl hi dX10_aboutInputs_103 ?_
          refine gw_rr (o' := 42 + (v1 - 20).toNatClampNeg) (by omega) ?_
          refine gw_get hC cl_X9 fg_X10_89 (gn_Si hw ⟨by omega, by omega⟩) (gc_Si hw ⟨by omega, by omega⟩ _) (gv_X9_1 _ _ _) dX10_aboutInputs_104 ?_
          refine gw_goto (tgt := 111) hC dX10_aboutInputs_107 (by decide) ?_
          exact gw_iret hC hr dX10_aboutInputs_111 ⟨rfl, h⟩
      · have h := gx_f h hc
        refine gw_aload_n hC dX10_aboutInputs_65 rfl 0 rfl ?_
        refine gw_get hC cl_X10 fg_X10_20 (hw.lt (by decide)) (gc_0 hw _) (gv_X10_1 _ _ _) dX10_aboutInputs_66 ?_
        refine gw_get hC cl_X8 fg_X10_109 (hw.lt (by decide)) (gc_Se hw (by decide) _) (gv_X8_1 _ _ _) dX10_aboutInputs_69 ?_
        refine gw_rr (o' := 38) (by omega) ?_
        refine gw_iload_n hC dX10_aboutInputs_72 rfl 1 rfl ?_
        refine gw_bipush (v := 14) hC dX10_aboutInputs_73 (by decide) ?_
        refine gw_isub hC dX10_aboutInputs_75 ?_
        obtain ⟨hi, h⟩ := h
        have hb10 := vp_lt hi
        refine gw_aald hC (hw.lt (by decide)) (gc_CA hw (by decide) _) (gt_4 hw) rfl hi dX10_aboutInputs_76 ?_
        refine gw_rr (o' := 58 + (v1 - 14).toNatClampNeg) (by omega) ?_
        refine gw_get hC cl_X2 fg_X10_282 (gn_Ch hw ⟨by omega, by omega⟩) (gc_Ch hw ⟨by omega, by omega⟩ _) (gv_X2_5 _ _ _) dX10_aboutInputs_77 ?_
        exact gw_iret hC hr dX10_aboutInputs_80 ⟨rfl, h⟩
    · have h := gx_f h hc
      refine gw_aload_n hC dX10_aboutInputs_38 rfl 0 rfl ?_
      refine gw_get hC cl_X10 fg_X10_20 (hw.lt (by decide)) (gc_0 hw _) (gv_X10_1 _ _ _) dX10_aboutInputs_39 ?_
      refine gw_get hC cl_X8 fg_X10_109 (hw.lt (by decide)) (gc_Se hw (by decide) _) (gv_X8_1 _ _ _) dX10_aboutInputs_42 ?_
      refine gw_rr (o' := 38) (by omega) ?_
      refine gw_iload_n hC dX10_aboutInputs_45 rfl 1 rfl ?_
      refine gw_bipush (v := 12) hC dX10_aboutInputs_46 (by decide) ?_
      refine gw_isub hC dX10_aboutInputs_48 ?_
      obtain ⟨hi, h⟩ := h
      have hb11 := vp_lt hi
      refine gw_aald hC (hw.lt (by decide)) (gc_CA hw (by decide) _) (gt_4 hw) rfl hi dX10_aboutInputs_49 ?_
      refine gw_rr (o' := 58 + (v1 - 12).toNatClampNeg) (by omega) ?_
      refine gw_get hC cl_X2 fg_X10_233 (gn_Ch hw ⟨by omega, by omega⟩) (gc_Ch hw ⟨by omega, by omega⟩ _) (gv_X2_4 _ _ _) dX10_aboutInputs_50 ?_
      exact gw_iret hC hr dX10_aboutInputs_53 ⟨rfl, h⟩
  · have h := gx_f h hc
    refine gw_aload_n hC dX10_aboutInputs_11 rfl 0 rfl ?_
    refine gw_get hC cl_X10 fg_X10_20 (hw.lt (by decide)) (gc_0 hw _) (gv_X10_1 _ _ _) dX10_aboutInputs_12 ?_
    refine gw_get hC cl_X8 fg_X10_109 (hw.lt (by decide)) (gc_Se hw (by decide) _) (gv_X8_1 _ _ _) dX10_aboutInputs_15 ?_
    refine gw_rr (o' := 38) (by omega) ?_
    refine gw_iload_n hC dX10_aboutInputs_18 rfl 1 rfl ?_
    refine gw_bipush (v := 10) hC dX10_aboutInputs_19 (by decide) ?_
    refine gw_isub hC dX10_aboutInputs_21 ?_
    obtain ⟨hi, h⟩ := h
    have hb12 := vp_lt hi
    refine gw_aald hC (hw.lt (by decide)) (gc_CA hw (by decide) _) (gt_4 hw) rfl hi dX10_aboutInputs_22 ?_
    refine gw_rr (o' := 58 + (v1 - 10).toNatClampNeg) (by omega) ?_
    refine gw_get hC cl_X2 fg_X10_272 (gn_Ch hw ⟨by omega, by omega⟩) (gc_Ch hw ⟨by omega, by omega⟩ _) (gv_X2_0 _ _ _) dX10_aboutInputs_23 ?_
    exact gw_iret hC hr dX10_aboutInputs_26 ⟨rfl, h⟩
theorem c_X10_aboutInputs {l : Launch} {d : gx_D} {w : gx_V} {ca : Nat → ClassId} (hw : gx_isC ca w)   {M : gx_M} {v1 : Int32} {Q : Int32 → Prop} (h : T_X10_aboutInputs M v1 Q) : gx_Mi l d w yX10_aboutInputs cX10_aboutInputs 2 .int rm_X10_aboutInputs [.ref (gx_ad w 0), .int v1] M (fun r M1 => M1 = M ∧ Q r) := fun sz =>
  gx_of (own := RX10) (by decide +kernel) rfl (Nat.le_of_ble_eq_true rfl) (fun z hC hl hR hsz hr => by subst hsz; exact J_X10_aboutInputs hC hw hR hr  h) rfl
set_option maxRecDepth 20000 in
theorem J_X10_about {z : gx_X} {d : gx_D} {w : gx_V} {ca : Nat → ClassId} (hC : gx_C z d w cX10_about 2 RX10) (hw : gx_isC ca w) (hR : gx_R z = rm_X10_about) (hr : (gx_me z).sig.returnType = (some .int))   {M : gx_M} {v1 : Int32} {Q : Int32 → Prop} (h : T_X10_about M v1 Q) : GW z w 2 (gx_Qi w (fun r M1 => M1 = M ∧ Q r) (gx_s z).heap.size) M 0 [(0, .ref (gx_ad w 0)), (1, .int v1)] [] := by
  unfold T_X10_about at h
  refine gw_iload_n hC dX10_about_0 rfl 1 rfl ?_
  by_cases hs1 : v1 = 0
  · have h := gx_t h hs1
    refine gw_tabIn (tgt := 48) (off := 47) (v := 0) hC dX10_about_1 hs1 (by decide) (by decide) (by decide) (by decide) ?_
    refine gw_aload_n hC dX10_about_48 rfl 0 rfl ?_
    refine gw_get hC cl_X10 fg_X10_20 (hw.lt (by decide)) (gc_0 hw _) (gv_X10_1 _ _ _) dX10_about_49 ?_
    refine gw_get hC cl_X8 fg_X10_145 (hw.lt (by decide)) (gc_Se hw (by decide) _) (gv_X8_8 _ _ _) dX10_about_52 ?_
    exact gw_iret hC hr dX10_about_55 ⟨rfl, h⟩
  have h := gx_f h hs1
  by_cases hs2 : v1 = 1
  · have h := gx_t h hs2
    refine gw_tabIn (tgt := 56) (off := 55) (v := 1) hC dX10_about_1 hs2 (by decide) (by decide) (by decide) (by decide) ?_
    refine gw_aload_n hC dX10_about_56 rfl 0 rfl ?_
    refine gw_get hC cl_X10 fg_X10_20 (hw.lt (by decide)) (gc_0 hw _) (gv_X10_1 _ _ _) dX10_about_57 ?_
    refine gw_get hC cl_X8 fg_X10_162 (hw.lt (by decide)) (gc_Se hw (by decide) _) (gv_X8_9 _ _ _) dX10_about_60 ?_
    exact gw_iret hC hr dX10_about_63 ⟨rfl, h⟩
  have h := gx_f h hs2
  by_cases hs3 : v1 = 2
  · have h := gx_t h hs3
    refine gw_tabIn (tgt := 64) (off := 63) (v := 2) hC dX10_about_1 hs3 (by decide) (by decide) (by decide) (by decide) ?_
    refine gw_aload_n hC dX10_about_64 rfl 0 rfl ?_
    refine gw_get hC cl_X10 fg_X10_20 (hw.lt (by decide)) (gc_0 hw _) (gv_X10_1 _ _ _) dX10_about_65 ?_
    refine gw_get hC cl_X8 fg_X10_126 (hw.lt (by decide)) (gc_Se hw (by decide) _) (gv_X8_3 _ _ _) dX10_about_68 ?_
    exact gw_iret hC hr dX10_about_71 ⟨rfl, h⟩
  have h := gx_f h hs3
  by_cases hs4 : v1 = 3
  · have h := gx_t h hs4
    refine gw_tabIn (tgt := 72) (off := 71) (v := 3) hC dX10_about_1 hs4 (by decide) (by decide) (by decide) (by decide) ?_
    refine gw_aload_n hC dX10_about_72 rfl 0 rfl ?_
    refine gw_get hC cl_X10 fg_X10_20 (hw.lt (by decide)) (gc_0 hw _) (gv_X10_1 _ _ _) dX10_about_73 ?_
    refine gw_get hC cl_X8 fg_X10_129 (hw.lt (by decide)) (gc_Se hw (by decide) _) (gv_X8_4 _ _ _) dX10_about_76 ?_
    exact gw_iret hC hr dX10_about_79 ⟨rfl, h⟩
  have h := gx_f h hs4
  by_cases hs5 : v1 = 4
  · have h := gx_t h hs5
    refine gw_tabIn (tgt := 80) (off := 79) (v := 4) hC dX10_about_1 hs5 (by decide) (by decide) (by decide) (by decide) ?_
    refine gw_aload_n hC dX10_about_80 rfl 0 rfl ?_
    refine gw_get hC cl_X10 fg_X10_20 (hw.lt (by decide)) (gc_0 hw _) (gv_X10_1 _ _ _) dX10_about_81 ?_
    refine gw_get hC cl_X8 fg_X10_132 (hw.lt (by decide)) (gc_Se hw (by decide) _) (gv_X8_5 _ _ _) dX10_about_84 ?_
    exact gw_iret hC hr dX10_about_87 ⟨rfl, h⟩
  have h := gx_f h hs5
  by_cases hs6 : v1 = 5
  · have h := gx_t h hs6
    refine gw_tabIn (tgt := 88) (off := 87) (v := 5) hC dX10_about_1 hs6 (by decide) (by decide) (by decide) (by decide) ?_
    refine gw_aload_n hC dX10_about_88 rfl 0 rfl ?_
    refine gw_get hC cl_X10 fg_X10_20 (hw.lt (by decide)) (gc_0 hw _) (gv_X10_1 _ _ _) dX10_about_89 ?_
    refine gw_get hC cl_X8 fg_X10_135 (hw.lt (by decide)) (gc_Se hw (by decide) _) (gv_X8_6 _ _ _) dX10_about_92 ?_
    exact gw_iret hC hr dX10_about_95 ⟨rfl, h⟩
  have h := gx_f h hs6
  by_cases hs7 : v1 = 6
  · have h := gx_t h hs7
    refine gw_tabIn (tgt := 96) (off := 95) (v := 6) hC dX10_about_1 hs7 (by decide) (by decide) (by decide) (by decide) ?_
    refine gw_aload_n hC dX10_about_96 rfl 0 rfl ?_
    refine gw_get hC cl_X10 fg_X10_20 (hw.lt (by decide)) (gc_0 hw _) (gv_X10_1 _ _ _) dX10_about_97 ?_
    refine gw_get hC cl_X8 fg_X10_138 (hw.lt (by decide)) (gc_Se hw (by decide) _) (gv_X8_7 _ _ _) dX10_about_100 ?_
    exact gw_iret hC hr dX10_about_103 ⟨rfl, h⟩
  have h := gx_f h hs7
  by_cases hs8 : v1 = 7
  · have h := gx_t h hs8
    refine gw_tabIn (tgt := 104) (off := 103) (v := 7) hC dX10_about_1 hs8 (by decide) (by decide) (by decide) (by decide) ?_
    refine gw_aload_n hC dX10_about_104 rfl 0 rfl ?_
    refine gw_get hC cl_X10 fg_X10_67 (hw.lt (by decide)) (gc_0 hw _) (gv_X10_9 _ _ _) dX10_about_105 ?_
    exact gw_iret hC hr dX10_about_108 ⟨rfl, h⟩
  have h := gx_f h hs8
  refine gw_tabOut (tgt := 109) 8 hC dX10_about_1 (by decide) (fun j hj => match j, hj with | 0, _ => fun e => hs1 (e.trans (by decide)) | 1, _ => fun e => hs2 (e.trans (by decide)) | 2, _ => fun e => hs3 (e.trans (by decide)) | 3, _ => fun e => hs4 (e.trans (by decide)) | 4, _ => fun e => hs5 (e.trans (by decide)) | 5, _ => fun e => hs6 (e.trans (by decide)) | 6, _ => fun e => hs7 (e.trans (by decide)) | 7, _ => fun e => hs8 (e.trans (by decide)) | n + 8, hj => absurd hj (by omega)) (by decide) ?_
  refine gw_aload_n hC dX10_about_109 rfl 0 rfl ?_
  refine gw_iload_n hC dX10_about_110 rfl 1 rfl ?_
  refine gw_calli (gx_rV hC (n := 1) (As := [.int v1]) (rest := []) (fun sz => c_X10_aboutInputs hw  h sz) cv_X10_279_X10_aboutInputs (by rw [hR]; exact rr_X10_about_X10_aboutInputs) ⟨(hw.lt (by decide)), _, _, _, _, gc_0 hw _, cl_X10.1⟩ rfl rfl (Nat.le_of_ble_eq_true rfl) dX10_about_111) ?_
  intro r9 m10 ⟨hm10, h⟩
  rw [hm10]
  exact gw_iret hC hr dX10_about_114 ⟨rfl, h⟩
theorem c_X10_about {l : Launch} {d : gx_D} {w : gx_V} {ca : Nat → ClassId} (hw : gx_isC ca w)   {M : gx_M} {v1 : Int32} {Q : Int32 → Prop} (h : T_X10_about M v1 Q) : gx_Mi l d w yX10_about cX10_about 2 .int rm_X10_about [.ref (gx_ad w 0), .int v1] M (fun r M1 => M1 = M ∧ Q r) := fun sz =>
  gx_of (own := RX10) (by decide +kernel) rfl (Nat.le_of_ble_eq_true rfl) (fun z hC hl hR hsz hr => by subst hsz; exact J_X10_about hC hw hR hr  h) rfl
set_option maxRecDepth 20000 in
theorem J_X11_in {z : gx_X} {d : gx_D} {w : gx_V} {ca : Nat → ClassId} (hC : gx_C z d w cX11_in 3 RX11) (hw : gx_isR ca w) (hR : gx_R z = rm_X11_in) (hr : (gx_me z).sig.returnType = (some .boolean))   {M : gx_M} {v0 : Int32} {v1 : Int32} {v2 : Int32} {Q : Int32 → Prop} (h : T_X11_in M v0 v1 v2 Q) : GW z w 3 (gx_Qi w (fun r M1 => M1 = M ∧ Q r) (gx_s z).heap.size) M 0 [(0, .int v0), (1, .int v1), (2, .int v2)] [] := by
  unfold T_X11_in at h
  refine gw_iload_n hC dX11_in_0 rfl 0 rfl ?_
  refine gw_iload_n hC dX11_in_1 rfl 1 rfl ?_
  refine gw_icmp_lt (tgt := 14) hC dX11_in_2 (by decide) (fun hc => ?_) (fun hc => ?_)
  · have h := gx_t h hc
    refine gw_iconst (v := 0) hC dX11_in_14 (by decide) ?_
    exact gw_zret hC hr rfl dX11_in_15 ⟨rfl, h⟩
  · have h := gx_f h hc
    refine gw_iload_n hC dX11_in_5 rfl 0 rfl ?_
    refine gw_iload_n hC dX11_in_6 rfl 2 rfl ?_
    refine gw_icmp_gt (tgt := 14) hC dX11_in_7 (by decide) (fun hc => ?_) (fun hc => ?_)
    · have h := gx_t h hc
      refine gw_iconst (v := 0) hC dX11_in_14 (by decide) ?_
      exact gw_zret hC hr rfl dX11_in_15 ⟨rfl, h⟩
    · have h := gx_f h hc
      refine gw_iconst (v := 1) hC dX11_in_10 (by decide) ?_
      refine gw_goto (tgt := 15) hC dX11_in_11 (by decide) ?_
      exact gw_zret hC hr rfl dX11_in_15 ⟨rfl, h⟩
theorem c_X11_in {l : Launch} {d : gx_D} {w : gx_V} {ca : Nat → ClassId} (hw : gx_isR ca w)   {M : gx_M} {v0 : Int32} {v1 : Int32} {v2 : Int32} {Q : Int32 → Prop} (h : T_X11_in M v0 v1 v2 Q) : gx_Mi l d w yX11_in cX11_in 3 .boolean rm_X11_in [.int v0, .int v1, .int v2] M (fun r M1 => M1 = M ∧ Q r) := fun sz =>
  gx_of (own := RX11) (by decide +kernel) rfl (Nat.le_of_ble_eq_true rfl) (fun z hC hl hR hsz hr => by subst hsz; exact J_X11_in hC hw hR hr  h) rfl
set_option maxRecDepth 20000 in
theorem J_X11_rest {z : gx_X} {d : gx_D} {w : gx_V} {ca : Nat → ClassId} (hC : gx_C z d w cX11_rest 3 RX11) (hw : gx_isR ca w) (hR : gx_R z = rm_X11_rest) (hr : (gx_me z).sig.returnType = (some .int))   {M : gx_M} {v0 : Int32} {v1 : Int32} {Q : Int32 → Prop} (h : T_X11_rest M v0 v1 Q) : GW z w 3 (gx_Qi w (fun r M1 => M1 = M ∧ Q r) (gx_s z).heap.size) M 0 [(0, .int v0), (1, .int v1)] [] := by
  unfold T_X11_rest at h
  refine gw_iload_n hC dX11_rest_0 rfl 0 rfl ?_
  refine gw_iload_n hC dX11_rest_1 rfl 1 rfl ?_
  obtain ⟨hz, h⟩ := h
  refine gw_irem hC dX11_rest_2 hz ?_
  refine gw_nm (fun x1 hx1 => ?_)
  have h := h x1 hx1
  refine gw_istore_n (lv' := [(2, .int x1), (0, .int v0), (1, .int v1)]) hC dX11_rest_3 rfl (by decide) rfl ?_
  refine gw_iload_n hC dX11_rest_4 rfl 0 rfl ?_
  refine gw_if_ge (tgt := 14) hC dX11_rest_5 (by decide) (fun hc => ?_) (fun hc => ?_)
  · have h := gx_t h hc
    refine gw_iload_n hC dX11_rest_14 rfl 0 rfl ?_
    exact gw_iret hC hr dX11_rest_15 ⟨rfl, h⟩
  · have h := gx_f h hc
    refine gw_iload_n hC dX11_rest_8 rfl 0 rfl ?_
    refine gw_iload_n hC dX11_rest_9 rfl 2 rfl ?_
    refine gw_iadd hC dX11_rest_10 ?_
    refine gw_goto (tgt := 15) hC dX11_rest_11 (by decide) ?_
    exact gw_iret hC hr dX11_rest_15 ⟨rfl, h⟩
theorem c_X11_rest {l : Launch} {d : gx_D} {w : gx_V} {ca : Nat → ClassId} (hw : gx_isR ca w)   {M : gx_M} {v0 : Int32} {v1 : Int32} {Q : Int32 → Prop} (h : T_X11_rest M v0 v1 Q) : gx_Mi l d w yX11_rest cX11_rest 3 .int rm_X11_rest [.int v0, .int v1] M (fun r M1 => M1 = M ∧ Q r) := fun sz =>
  gx_of (own := RX11) (by decide +kernel) rfl (Nat.le_of_ble_eq_true rfl) (fun z hC hl hR hsz hr => by subst hsz; exact J_X11_rest hC hw hR hr  h) rfl
set_option maxRecDepth 20000 in
theorem J_X11_down {z : gx_X} {d : gx_D} {w : gx_V} {ca : Nat → ClassId} (hC : gx_C z d w cX11_down 2 RX11) (hw : gx_isR ca w) (hR : gx_R z = rm_X11_down) (hr : (gx_me z).sig.returnType = (some .int))   {M : gx_M} {v0 : Int32} {v1 : Int32} {Q : Int32 → Prop} (h : T_X11_down M v0 v1 Q) : GW z w 2 (gx_Qi w (fun r M1 => M1 = M ∧ Q r) (gx_s z).heap.size) M 0 [(0, .int v0), (1, .int v1)] [] := by
  unfold T_X11_down at h
  refine gw_iload_n hC dX11_down_0 rfl 0 rfl ?_
  refine gw_iload_n hC dX11_down_1 rfl 0 rfl ?_
  refine gw_iload_n hC dX11_down_2 rfl 1 rfl ?_
  refine gw_calli (gx_rS hC (n := 2) (As := [.int v0, .int v1]) (rest := [.int v0]) (fun sz => c_X11_rest hw  h sz) cs_X11_93_X11_rest (by rw [hR]; exact rr_X11_down_X11_rest) rfl rfl (Nat.le_of_ble_eq_true rfl) dX11_down_3) ?_
  intro r1 m2 ⟨hm2, h⟩
  rw [hm2]
  refine gw_isub hC dX11_down_6 ?_
  refine gw_iload_n hC dX11_down_7 rfl 1 rfl ?_
  obtain ⟨hz, h⟩ := h
  refine gw_idiv hC dX11_down_8 hz ?_
  exact gw_iret hC hr dX11_down_9 ⟨rfl, h⟩
theorem c_X11_down {l : Launch} {d : gx_D} {w : gx_V} {ca : Nat → ClassId} (hw : gx_isR ca w)   {M : gx_M} {v0 : Int32} {v1 : Int32} {Q : Int32 → Prop} (h : T_X11_down M v0 v1 Q) : gx_Mi l d w yX11_down cX11_down 2 .int rm_X11_down [.int v0, .int v1] M (fun r M1 => M1 = M ∧ Q r) := fun sz =>
  gx_of (own := RX11) (by decide +kernel) rfl (Nat.le_of_ble_eq_true rfl) (fun z hC hl hR hsz hr => by subst hsz; exact J_X11_down hC hw hR hr  h) rfl
set_option maxRecDepth 20000 in
theorem J_X11_copies_40 {z : gx_X} {d : gx_D} {w : gx_V} {ca : Nat → ClassId} (hC : gx_C z d w cX11_copies 3 RX11) (hw : gx_isR ca w) (hR : gx_R z = rm_X11_copies) (hr : (gx_me z).sig.returnType = none)  {Q : gx_M → Prop} {K2 : gx_M → Int32 → Int32 → Prop} (hK2 : ∀ (M : gx_M) (v1 : Int32) (v2 : Int32), K2 M v1 v2 → GW z w 3 (gx_Qv w Q (gx_s z).heap.size) M 2 [(0, .ref (gx_ad w 0)), (1, .int v1), (2, .int v2)] []) (M : gx_M) (v1 : Int32) (v2 : Int32)  (h : T_X11_copies_40 Q K2 M v1 v2) : GW z w 3 (gx_Qv w Q (gx_s z).heap.size) M 40 [(0, .ref (gx_ad w 0)), (1, .int v1), (2, .int v2)] [] := by
  unfold T_X11_copies_40 at h
  obtain ⟨x2, hx2⟩ : ∃ y : Int32, y = v2 + 1 := ⟨_, rfl⟩
  have h := h x2 hx2
  refine gw_iinc (v := x2) (lv' := [(2, .int x2), (0, .ref (gx_ad w 0)), (1, .int v1)]) hC dX11_copies_40 (k := 2) rfl (by rw [hx2]; rfl) (by decide) rfl ?_
  refine gw_goto (tgt := 2) hC dX11_copies_43 (by decide) ?_
  refine gw_sub (lv' := [(0, .ref (gx_ad w 0)), (1, .int v1), (2, .int x2)]) [1, 2, 0] rfl ?_
  exact hK2 M v1 x2 h
set_option maxRecDepth 20000 in
theorem J_X11_copies_2 {z : gx_X} {d : gx_D} {w : gx_V} {ca : Nat → ClassId} (hC : gx_C z d w cX11_copies 3 RX11) (hw : gx_isR ca w) (hR : gx_R z = rm_X11_copies) (hr : (gx_me z).sig.returnType = none)  {Q : gx_M → Prop}   : ∀ (n : Nat) (M : gx_M) (v1 : Int32) (v2 : Int32) , T_X11_copies_2 Q  n M v1 v2 → GW z w 3 (gx_Qv w Q (gx_s z).heap.size) M 2 [(0, .ref (gx_ad w 0)), (1, .int v1), (2, .int v2)] [] := by
  intro n
  induction n with
  | zero =>
    intro M v1 v2 h
    exact h.elim
  | succ n ih =>
    intro M v1 v2 h
    rw [T_X11_copies_2] at h
    refine gw_iload_n hC dX11_copies_2 rfl 2 rfl ?_
    refine gw_sipush (v := 170) hC dX11_copies_3 (by decide) ?_
    refine gw_icmp_ge (tgt := 46) hC dX11_copies_6 (by decide) (fun hc => ?_) (fun hc => ?_)
    · have h := gx_t h hc
      exact gw_vret hC hr dX11_copies_46 h
    · have h := gx_f h hc
      refine gw_iload_n hC dX11_copies_9 rfl 1 rfl ?_
      refine gw_if_eq (tgt := 28) hC dX11_copies_10 (by decide) (fun hc => ?_) (fun hc => ?_)
      · have h := gx_t h hc
        refine gw_aload_n hC dX11_copies_28 rfl 0 rfl ?_
        refine gw_get hC cl_X11 fg_X11_7 (hw.lt (by decide)) (gd_0 hw _) (gv_X11_0 _ _ _) dX11_copies_29 ?_
        refine gw_iload_n hC dX11_copies_32 rfl 2 rfl ?_
        refine gw_aload_n hC dX11_copies_33 rfl 0 rfl ?_
        refine gw_get hC cl_X11 fg_X11_13 (hw.lt (by decide)) (gd_0 hw _) (gv_X11_1 _ _ _) dX11_copies_34 ?_
        refine gw_iload_n hC dX11_copies_37 rfl 2 rfl ?_
        obtain ⟨hi, h⟩ := h
        refine gw_iald hC (hw.lt (by decide)) (gd_2 hw _) (gu_0 hw) hi dX11_copies_38 ?_
        obtain ⟨hi, h⟩ := h
        refine gw_iast hC (hw.lt (by decide)) (gd_1 hw) (gu_0 hw) hi dX11_copies_39 ?_
        refine gw_nmM (fun M1 hM1 => ?_)
        have h := h M1 hM1
        exact J_X11_copies_40 hC hw hR hr ih M1 v1 v2 h
      · have h := gx_f h hc
        refine gw_aload_n hC dX11_copies_13 rfl 0 rfl ?_
        refine gw_get hC cl_X11 fg_X11_13 (hw.lt (by decide)) (gd_0 hw _) (gv_X11_1 _ _ _) dX11_copies_14 ?_
        refine gw_iload_n hC dX11_copies_17 rfl 2 rfl ?_
        refine gw_aload_n hC dX11_copies_18 rfl 0 rfl ?_
        refine gw_get hC cl_X11 fg_X11_7 (hw.lt (by decide)) (gd_0 hw _) (gv_X11_0 _ _ _) dX11_copies_19 ?_
        refine gw_iload_n hC dX11_copies_22 rfl 2 rfl ?_
        obtain ⟨hi, h⟩ := h
        refine gw_iald hC (hw.lt (by decide)) (gd_1 hw _) (gu_0 hw) hi dX11_copies_23 ?_
        obtain ⟨hi, h⟩ := h
        refine gw_iast hC (hw.lt (by decide)) (gd_2 hw) (gu_0 hw) hi dX11_copies_24 ?_
        refine gw_nmM (fun M3 hM3 => ?_)
        have h := h M3 hM3
        refine gw_goto (tgt := 40) hC dX11_copies_25 (by decide) ?_
        exact J_X11_copies_40 hC hw hR hr ih M3 v1 v2 h
set_option maxRecDepth 20000 in
theorem J_X11_copies {z : gx_X} {d : gx_D} {w : gx_V} {ca : Nat → ClassId} (hC : gx_C z d w cX11_copies 3 RX11) (hw : gx_isR ca w) (hR : gx_R z = rm_X11_copies) (hr : (gx_me z).sig.returnType = none)   {M : gx_M} {v1 : Int32} {Q : gx_M → Prop} (h : T_X11_copies M v1 Q) : GW z w 3 (gx_Qv w Q (gx_s z).heap.size) M 0 [(0, .ref (gx_ad w 0)), (1, .int v1)] [] := by
  unfold T_X11_copies at h
  refine gw_iconst (v := 0) hC dX11_copies_0 (by decide) ?_
  refine gw_istore_n (lv' := [(2, .int 0), (0, .ref (gx_ad w 0)), (1, .int v1)]) hC dX11_copies_1 rfl (by decide) rfl ?_
  obtain ⟨k4, h⟩ := h
  refine gw_sub (lv' := [(0, .ref (gx_ad w 0)), (1, .int v1), (2, .int 0)]) [1, 2, 0] rfl ?_
  exact J_X11_copies_2 hC hw hR hr  k4 M v1 0 h
theorem c_X11_copies {l : Launch} {d : gx_D} {w : gx_V} {ca : Nat → ClassId} (hw : gx_isR ca w)   {M : gx_M} {v1 : Int32} {Q : gx_M → Prop} (h : T_X11_copies M v1 Q) : gx_Mv l d w yX11_copies cX11_copies 3 rm_X11_copies [.ref (gx_ad w 0), .int v1] M Q := fun sz =>
  gx_of (own := RX11) (by decide +kernel) rfl (Nat.le_of_ble_eq_true rfl) (fun z hC hl hR hsz hr => by subst hsz; exact J_X11_copies hC hw hR hr  h) rfl
set_option maxRecDepth 20000 in
theorem J_X11_isSignal {z : gx_X} {d : gx_D} {w : gx_V} {ca : Nat → ClassId} (hC : gx_C z d w cX11_isSignal 1 RX11) (hw : gx_isR ca w) (hR : gx_R z = rm_X11_isSignal) (hr : (gx_me z).sig.returnType = (some .boolean))   {M : gx_M} {v0 : Int32} {Q : Int32 → Prop} (h : T_X11_isSignal M v0 Q) : GW z w 1 (gx_Qi w (fun r M1 => M1 = M ∧ Q r) (gx_s z).heap.size) M 0 [(0, .int v0)] [] := by
  unfold T_X11_isSignal at h
  refine gw_iload_n hC dX11_isSignal_0 rfl 0 rfl ?_
  refine gw_iconst (v := 0) hC dX11_isSignal_1 (by decide) ?_
  refine gw_iconst (v := 3) hC dX11_isSignal_2 (by decide) ?_
  refine gw_calli (gx_rS hC (n := 3) (As := [.int v0, .int 0, .int 3]) (rest := []) (fun sz => c_X11_in hw  h sz) cs_X11_97_X11_in (by rw [hR]; exact rr_X11_isSignal_X11_in) rfl rfl (Nat.le_of_ble_eq_true rfl) dX11_isSignal_3) ?_
  intro r1 m2 ⟨hm2, h⟩
  rw [hm2]
  obtain ⟨hz, h⟩ := h
  exact gw_zret hC hr (gx_nz hz) dX11_isSignal_6 ⟨rfl, h⟩
theorem c_X11_isSignal {l : Launch} {d : gx_D} {w : gx_V} {ca : Nat → ClassId} (hw : gx_isR ca w)   {M : gx_M} {v0 : Int32} {Q : Int32 → Prop} (h : T_X11_isSignal M v0 Q) : gx_Mi l d w yX11_isSignal cX11_isSignal 1 .boolean rm_X11_isSignal [.int v0] M (fun r M1 => M1 = M ∧ Q r) := fun sz =>
  gx_of (own := RX11) (by decide +kernel) rfl (Nat.le_of_ble_eq_true rfl) (fun z hC hl hR hsz hr => by subst hsz; exact J_X11_isSignal hC hw hR hr  h) rfl
set_option maxRecDepth 20000 in
theorem J_X11_isChannel {z : gx_X} {d : gx_D} {w : gx_V} {ca : Nat → ClassId} (hC : gx_C z d w cX11_isChannel 1 RX11) (hw : gx_isR ca w) (hR : gx_R z = rm_X11_isChannel) (hr : (gx_me z).sig.returnType = (some .boolean))   {M : gx_M} {v0 : Int32} {Q : Int32 → Prop} (h : T_X11_isChannel M v0 Q) : GW z w 1 (gx_Qi w (fun r M1 => M1 = M ∧ Q r) (gx_s z).heap.size) M 0 [(0, .int v0)] [] := by
  unfold T_X11_isChannel at h
  refine gw_iload_n hC dX11_isChannel_0 rfl 0 rfl ?_
  refine gw_iconst (v := 0) hC dX11_isChannel_1 (by decide) ?_
  refine gw_iconst (v := 1) hC dX11_isChannel_2 (by decide) ?_
  refine gw_calli (gx_rS hC (n := 3) (As := [.int v0, .int 0, .int 1]) (rest := []) (fun sz => c_X11_in hw  h sz) cs_X11_97_X11_in (by rw [hR]; exact rr_X11_isChannel_X11_in) rfl rfl (Nat.le_of_ble_eq_true rfl) dX11_isChannel_3) ?_
  intro r1 m2 ⟨hm2, h⟩
  rw [hm2]
  obtain ⟨hz, h⟩ := h
  exact gw_zret hC hr (gx_nz hz) dX11_isChannel_6 ⟨rfl, h⟩
theorem c_X11_isChannel {l : Launch} {d : gx_D} {w : gx_V} {ca : Nat → ClassId} (hw : gx_isR ca w)   {M : gx_M} {v0 : Int32} {Q : Int32 → Prop} (h : T_X11_isChannel M v0 Q) : gx_Mi l d w yX11_isChannel cX11_isChannel 1 .boolean rm_X11_isChannel [.int v0] M (fun r M1 => M1 = M ∧ Q r) := fun sz =>
  gx_of (own := RX11) (by decide +kernel) rfl (Nat.le_of_ble_eq_true rfl) (fun z hC hl hR hsz hr => by subst hsz; exact J_X11_isChannel hC hw hR hr  h) rfl
set_option maxRecDepth 20000 in
theorem J_X11_part_70 {z : gx_X} {d : gx_D} {w : gx_V} {ca : Nat → ClassId} (hC : gx_C z d w cX11_part 9 RX11) (hw : gx_isR ca w) (hR : gx_R z = rm_X11_part) (hr : (gx_me z).sig.returnType = (some .int))  {Q : Int32 → gx_M → Prop}   (M : gx_M) (t0 : Int32) (v1 : Int32) (v2 : Int32) (v3 : Int32) (v4 : Int32) (v5 : Int32) (v6 : Int32)  (h : T_X11_part_70 Q  M t0 v1 v2 v3 v4 v5 v6) : GW z w 9 (gx_Qi w Q (gx_s z).heap.size) M 70 [(0, .ref (gx_ad w 0)), (1, .int v1), (2, .int v2), (3, .int v3), (4, .int v4), (5, .int v5), (6, .int v6)] [.int t0] := by
  unfold T_X11_part_70 at h
  refine gw_istore (lv' := [(7, .int t0), (0, .ref (gx_ad w 0)), (1, .int v1), (2, .int v2), (3, .int v3), (4, .int v4), (5, .int v5), (6, .int v6)]) hC dX11_part_70 (by decide) rfl ?_
  refine gw_iload hC dX11_part_72 0 rfl ?_
  refine gw_if_eq (tgt := 91) hC dX11_part_74 (by decide) (fun hc => ?_) (fun hc => ?_)
  · have h := gx_t h hc
    refine gw_iconst (v := (-1)) hC dX11_part_91 (by decide) ?_
    exact gw_iret hC hr dX11_part_92 h
  · have h := gx_f h hc
    refine gw_aload_n hC dX11_part_77 rfl 1 rfl ?_
    refine gw_get hC cl_X11 fg_X11_7 (hw.lt (by decide)) (gd_0 hw _) (gv_X11_0 _ _ _) dX11_part_78 ?_
    refine gw_bipush (v := 24) hC dX11_part_81 (by decide) ?_
    refine gw_iload_n hC dX11_part_83 rfl 2 rfl ?_
    refine gw_iadd hC dX11_part_84 ?_
    obtain ⟨hi, h⟩ := h
    refine gw_iald hC (hw.lt (by decide)) (gd_1 hw _) (gu_0 hw) hi dX11_part_85 ?_
    refine gw_bipush (v := 6) hC dX11_part_86 (by decide) ?_
    refine gw_icmp_ne (tgt := 93) hC dX11_part_88 (by decide) (fun hc => ?_) (fun hc => ?_)
    · have h := gx_f h hc
      refine gw_bipush (v := 30) hC dX11_part_93 (by decide) ?_
      refine gw_bipush (v := 30) hC dX11_part_95 (by decide) ?_
      refine gw_iload_n hC dX11_part_97 rfl 2 rfl ?_
      refine gw_imul hC dX11_part_98 ?_
      refine gw_iadd hC dX11_part_99 ?_
      refine gw_iconst (v := 5) hC dX11_part_100 (by decide) ?_
      refine gw_aload_n hC dX11_part_101 rfl 1 rfl ?_
      refine gw_get hC cl_X11 fg_X11_7 (hw.lt (by decide)) (gd_0 hw _) (gv_X11_0 _ _ _) dX11_part_102 ?_
      refine gw_bipush (v := 24) hC dX11_part_105 (by decide) ?_
      refine gw_iload_n hC dX11_part_107 rfl 2 rfl ?_
      refine gw_iadd hC dX11_part_108 ?_
      obtain ⟨hi, h⟩ := h
      refine gw_iald hC (hw.lt (by decide)) (gd_1 hw _) (gu_0 hw) hi dX11_part_109 ?_
      refine gw_imul hC dX11_part_110 ?_
      refine gw_iadd hC dX11_part_111 ?_
      refine gw_nm (fun x3 hx3 => ?_)
      have h := h x3 hx3
      refine gw_istore (lv' := [(8, .int x3), (7, .int t0), (0, .ref (gx_ad w 0)), (1, .int v1), (2, .int v2), (3, .int v3), (4, .int v4), (5, .int v5), (6, .int v6)]) hC dX11_part_112 (by decide) rfl ?_
      refine gw_aload_n hC dX11_part_114 rfl 2 rfl ?_
      refine gw_get hC cl_X11 fg_X11_7 (hw.lt (by decide)) (gd_0 hw _) (gv_X11_0 _ _ _) dX11_part_115 ?_
      refine gw_iload hC dX11_part_118 0 rfl ?_
      refine gw_iconst (v := 0) hC dX11_part_120 (by decide) ?_
      refine gw_iadd hC dX11_part_121 ?_
      refine gw_iload_n hC dX11_part_122 rfl 4 rfl ?_
      obtain ⟨hi, h⟩ := h
      refine gw_iast hC (hw.lt (by decide)) (gd_1 hw) (gu_0 hw) hi dX11_part_123 ?_
      refine gw_nmM (fun M4 hM4 => ?_)
      have h := h M4 hM4
      refine gw_aload_n hC dX11_part_124 rfl 2 rfl ?_
      refine gw_get hC cl_X11 fg_X11_7 (hw.lt (by decide)) (gd_0 hw _) (gv_X11_0 _ _ _) dX11_part_125 ?_
      refine gw_iload hC dX11_part_128 0 rfl ?_
      refine gw_iconst (v := 1) hC dX11_part_130 (by decide) ?_
      refine gw_iadd hC dX11_part_131 ?_
      refine gw_iload_n hC dX11_part_132 rfl 5 rfl ?_
      obtain ⟨hi, h⟩ := h
      refine gw_iast hC (hw.lt (by decide)) (gd_1 hw) (gu_0 hw) hi dX11_part_133 ?_
      refine gw_nmM (fun M5 hM5 => ?_)
      have h := h M5 hM5
      refine gw_aload_n hC dX11_part_134 rfl 2 rfl ?_
      refine gw_get hC cl_X11 fg_X11_7 (hw.lt (by decide)) (gd_0 hw _) (gv_X11_0 _ _ _) dX11_part_135 ?_
      refine gw_iload hC dX11_part_138 0 rfl ?_
      refine gw_iconst (v := 2) hC dX11_part_140 (by decide) ?_
      refine gw_iadd hC dX11_part_141 ?_
      refine gw_iload hC dX11_part_142 6 rfl ?_
      obtain ⟨hi, h⟩ := h
      refine gw_iast hC (hw.lt (by decide)) (gd_1 hw) (gu_0 hw) hi dX11_part_144 ?_
      refine gw_nmM (fun M6 hM6 => ?_)
      have h := h M6 hM6
      refine gw_aload_n hC dX11_part_145 rfl 2 rfl ?_
      refine gw_get hC cl_X11 fg_X11_7 (hw.lt (by decide)) (gd_0 hw _) (gv_X11_0 _ _ _) dX11_part_146 ?_
      refine gw_iload hC dX11_part_149 0 rfl ?_
      refine gw_iconst (v := 3) hC dX11_part_151 (by decide) ?_
      refine gw_iadd hC dX11_part_152 ?_
      refine gw_iload hC dX11_part_153 7 rfl ?_
      obtain ⟨hi, h⟩ := h
      refine gw_iast hC (hw.lt (by decide)) (gd_1 hw) (gu_0 hw) hi dX11_part_155 ?_
      refine gw_nmM (fun M7 hM7 => ?_)
      have h := h M7 hM7
      refine gw_aload_n hC dX11_part_156 rfl 2 rfl ?_
      refine gw_get hC cl_X11 fg_X11_7 (hw.lt (by decide)) (gd_0 hw _) (gv_X11_0 _ _ _) dX11_part_157 ?_
      refine gw_iload hC dX11_part_160 0 rfl ?_
      refine gw_iconst (v := 4) hC dX11_part_162 (by decide) ?_
      refine gw_iadd hC dX11_part_163 ?_
      refine gw_iload hC dX11_part_164 8 rfl ?_
      obtain ⟨hi, h⟩ := h
      refine gw_iast hC (hw.lt (by decide)) (gd_1 hw) (gu_0 hw) hi dX11_part_166 ?_
      refine gw_nmM (fun M8 hM8 => ?_)
      have h := h M8 hM8
      refine gw_aload_n hC dX11_part_167 rfl 2 rfl ?_
      refine gw_get hC cl_X11 fg_X11_7 (hw.lt (by decide)) (gd_0 hw _) (gv_X11_0 _ _ _) dX11_part_168 ?_
      refine gw_bipush (v := 24) hC dX11_part_171 (by decide) ?_
      refine gw_iload_n hC dX11_part_173 rfl 3 rfl ?_
      refine gw_iadd hC dX11_part_174 ?_
      refine gw_dup2_11 hC dX11_part_175 rfl rfl ?_
      obtain ⟨hi, h⟩ := h
      refine gw_iald hC (hw.lt (by decide)) (gd_1 hw _) (gu_0 hw) hi dX11_part_176 ?_
      refine gw_iconst (v := 1) hC dX11_part_177 (by decide) ?_
      refine gw_iadd hC dX11_part_178 ?_
      obtain ⟨hi, h⟩ := h
      refine gw_iast hC (hw.lt (by decide)) (gd_1 hw) (gu_0 hw) hi dX11_part_179 ?_
      refine gw_nmM (fun M9 hM9 => ?_)
      have h := h M9 hM9
      refine gw_aload_n hC dX11_part_180 rfl 2 rfl ?_
      refine gw_get hC cl_X11 fg_X11_7 (hw.lt (by decide)) (gd_0 hw _) (gv_X11_0 _ _ _) dX11_part_181 ?_
      refine gw_bipush (v := 24) hC dX11_part_184 (by decide) ?_
      refine gw_iload_n hC dX11_part_186 rfl 3 rfl ?_
      refine gw_iadd hC dX11_part_187 ?_
      obtain ⟨hi, h⟩ := h
      refine gw_iald hC (hw.lt (by decide)) (gd_1 hw _) (gu_0 hw) hi dX11_part_188 ?_
      exact gw_iret hC hr dX11_part_189 h
    · have h := gx_t h hc
      refine gw_iconst (v := (-1)) hC dX11_part_91 (by decide) ?_
      exact gw_iret hC hr dX11_part_92 h
set_option maxRecDepth 20000 in
theorem J_X11_part_69 {z : gx_X} {d : gx_D} {w : gx_V} {ca : Nat → ClassId} (hC : gx_C z d w cX11_part 9 RX11) (hw : gx_isR ca w) (hR : gx_R z = rm_X11_part) (hr : (gx_me z).sig.returnType = (some .int))  {Q : Int32 → gx_M → Prop}   (M : gx_M) (v1 : Int32) (v2 : Int32) (v3 : Int32) (v4 : Int32) (v5 : Int32) (v6 : Int32)  (h : T_X11_part_69 Q  M v1 v2 v3 v4 v5 v6) : GW z w 9 (gx_Qi w Q (gx_s z).heap.size) M 69 [(0, .ref (gx_ad w 0)), (1, .int v1), (2, .int v2), (3, .int v3), (4, .int v4), (5, .int v5), (6, .int v6)] [] := by
  unfold T_X11_part_69 at h
  refine gw_iconst (v := 0) hC dX11_part_69 (by decide) ?_
  exact J_X11_part_70 hC hw hR hr  M 0 v1 v2 v3 v4 v5 v6 h
set_option maxRecDepth 20000 in
theorem J_X11_part {z : gx_X} {d : gx_D} {w : gx_V} {ca : Nat → ClassId} (hC : gx_C z d w cX11_part 9 RX11) (hw : gx_isR ca w) (hR : gx_R z = rm_X11_part) (hr : (gx_me z).sig.returnType = (some .int))   {M : gx_M} {v1 : Int32} {v2 : Int32} {v3 : Int32} {v4 : Int32} {v5 : Int32} {v6 : Int32} {Q : Int32 → gx_M → Prop} (h : T_X11_part M v1 v2 v3 v4 v5 v6 Q) : GW z w 9 (gx_Qi w Q (gx_s z).heap.size) M 0 [(0, .ref (gx_ad w 0)), (1, .int v1), (2, .int v2), (3, .int v3), (4, .int v4), (5, .int v5), (6, .int v6)] [] := by
  unfold T_X11_part at h
  refine gw_iload_n hC dX11_part_0 rfl 1 rfl ?_
  refine gw_calli (gx_rS hC (n := 1) (As := [.int v1]) (rest := []) (fun sz => c_X11_isSignal hw  h sz) cs_X11_101_X11_isSignal (by rw [hR]; exact rr_X11_part_X11_isSignal) rfl rfl (Nat.le_of_ble_eq_true rfl) dX11_part_1) ?_
  intro r1 m2 ⟨hm2, h⟩
  rw [hm2]
  refine gw_if_eq (tgt := 69) hC dX11_part_4 (by decide) (fun hc => ?_) (fun hc => ?_)
  · have h := gx_t h hc
    exact J_X11_part_69 hC hw hR hr  M v1 v2 v3 v4 v5 v6 h
  · have h := gx_f h hc
    refine gw_iload_n hC dX11_part_7 rfl 2 rfl ?_
    refine gw_iconst (v := 0) hC dX11_part_8 (by decide) ?_
    refine gw_iconst (v := 2) hC dX11_part_9 (by decide) ?_
    refine gw_calli (gx_rS hC (n := 3) (As := [.int v2, .int 0, .int 2]) (rest := []) (fun sz => c_X11_in hw  h sz) cs_X11_97_X11_in (by rw [hR]; exact rr_X11_part_X11_in) rfl rfl (Nat.le_of_ble_eq_true rfl) dX11_part_10) ?_
    intro r10 m11 ⟨hm11, h⟩
    rw [hm11]
    refine gw_if_eq (tgt := 69) hC dX11_part_13 (by decide) (fun hc => ?_) (fun hc => ?_)
    · have h := gx_t h hc
      exact J_X11_part_69 hC hw hR hr  M v1 v2 v3 v4 v5 v6 h
    · have h := gx_f h hc
      refine gw_iload_n hC dX11_part_16 rfl 3 rfl ?_
      refine gw_sipush (v := (-999)) hC dX11_part_17 (by decide) ?_
      refine gw_sipush (v := 999) hC dX11_part_20 (by decide) ?_
      refine gw_calli (gx_rS hC (n := 3) (As := [.int v3, .int (-999), .int 999]) (rest := []) (fun sz => c_X11_in hw  h sz) cs_X11_97_X11_in (by rw [hR]; exact rr_X11_part_X11_in) rfl rfl (Nat.le_of_ble_eq_true rfl) dX11_part_23) ?_
      intro r12 m13 ⟨hm13, h⟩
      rw [hm13]
      refine gw_if_eq (tgt := 69) hC dX11_part_26 (by decide) (fun hc => ?_) (fun hc => ?_)
      · have h := gx_t h hc
        exact J_X11_part_69 hC hw hR hr  M v1 v2 v3 v4 v5 v6 h
      · have h := gx_f h hc
        refine gw_iload hC dX11_part_29 4 rfl ?_
        refine gw_iconst (v := 1) hC dX11_part_31 (by decide) ?_
        refine gw_sipush (v := 500) hC dX11_part_32 (by decide) ?_
        refine gw_calli (gx_rS hC (n := 3) (As := [.int v4, .int 1, .int 500]) (rest := []) (fun sz => c_X11_in hw  h sz) cs_X11_97_X11_in (by rw [hR]; exact rr_X11_part_X11_in) rfl rfl (Nat.le_of_ble_eq_true rfl) dX11_part_35) ?_
        intro r14 m15 ⟨hm15, h⟩
        rw [hm15]
        refine gw_if_eq (tgt := 69) hC dX11_part_38 (by decide) (fun hc => ?_) (fun hc => ?_)
        · have h := gx_t h hc
          exact J_X11_part_69 hC hw hR hr  M v1 v2 v3 v4 v5 v6 h
        · have h := gx_f h hc
          refine gw_iload hC dX11_part_41 5 rfl ?_
          refine gw_iconst (v := 0) hC dX11_part_43 (by decide) ?_
          refine gw_sipush (v := 500) hC dX11_part_44 (by decide) ?_
          refine gw_calli (gx_rS hC (n := 3) (As := [.int v5, .int 0, .int 500]) (rest := []) (fun sz => c_X11_in hw  h sz) cs_X11_97_X11_in (by rw [hR]; exact rr_X11_part_X11_in) rfl rfl (Nat.le_of_ble_eq_true rfl) dX11_part_47) ?_
          intro r16 m17 ⟨hm17, h⟩
          rw [hm17]
          refine gw_if_eq (tgt := 69) hC dX11_part_50 (by decide) (fun hc => ?_) (fun hc => ?_)
          · have h := gx_t h hc
            exact J_X11_part_69 hC hw hR hr  M v1 v2 v3 v4 v5 v6 h
          · have h := gx_f h hc
            refine gw_iload hC dX11_part_53 6 rfl ?_
            refine gw_iconst (v := 0) hC dX11_part_55 (by decide) ?_
            refine gw_sipush (v := 1999) hC dX11_part_56 (by decide) ?_
            refine gw_calli (gx_rS hC (n := 3) (As := [.int v6, .int 0, .int 1999]) (rest := []) (fun sz => c_X11_in hw  h sz) cs_X11_97_X11_in (by rw [hR]; exact rr_X11_part_X11_in) rfl rfl (Nat.le_of_ble_eq_true rfl) dX11_part_59) ?_
            intro r18 m19 ⟨hm19, h⟩
            rw [hm19]
            refine gw_if_eq (tgt := 69) hC dX11_part_62 (by decide) (fun hc => ?_) (fun hc => ?_)
            · have h := gx_t h hc
              exact J_X11_part_69 hC hw hR hr  M v1 v2 v3 v4 v5 v6 h
            · have h := gx_f h hc
              refine gw_iconst (v := 1) hC dX11_part_65 (by decide) ?_
              refine gw_goto (tgt := 70) hC dX11_part_66 (by decide) ?_
              exact J_X11_part_70 hC hw hR hr  M 1 v1 v2 v3 v4 v5 v6 h
theorem c_X11_part {l : Launch} {d : gx_D} {w : gx_V} {ca : Nat → ClassId} (hw : gx_isR ca w)   {M : gx_M} {v1 : Int32} {v2 : Int32} {v3 : Int32} {v4 : Int32} {v5 : Int32} {v6 : Int32} {Q : Int32 → gx_M → Prop} (h : T_X11_part M v1 v2 v3 v4 v5 v6 Q) : gx_Mi l d w yX11_part cX11_part 9 .int rm_X11_part [.ref (gx_ad w 0), .int v1, .int v2, .int v3, .int v4, .int v5, .int v6] M Q := fun sz =>
  gx_of (own := RX11) (by decide +kernel) rfl (Nat.le_of_ble_eq_true rfl) (fun z hC hl hR hsz hr => by subst hsz; exact J_X11_part hC hw hR hr  h) rfl
set_option maxRecDepth 20000 in
theorem J_X11_clear {z : gx_X} {d : gx_D} {w : gx_V} {ca : Nat → ClassId} (hC : gx_C z d w cX11_clear 3 RX11) (hw : gx_isR ca w) (hR : gx_R z = rm_X11_clear) (hr : (gx_me z).sig.returnType = (some .int))   {M : gx_M} {v1 : Int32} {Q : Int32 → gx_M → Prop} (h : T_X11_clear M v1 Q) : GW z w 3 (gx_Qi w Q (gx_s z).heap.size) M 0 [(0, .ref (gx_ad w 0)), (1, .int v1)] [] := by
  unfold T_X11_clear at h
  refine gw_iload_n hC dX11_clear_0 rfl 1 rfl ?_
  refine gw_calli (gx_rS hC (n := 1) (As := [.int v1]) (rest := []) (fun sz => c_X11_isSignal hw  h sz) cs_X11_101_X11_isSignal (by rw [hR]; exact rr_X11_clear_X11_isSignal) rfl rfl (Nat.le_of_ble_eq_true rfl) dX11_clear_1) ?_
  intro r1 m2 ⟨hm2, h⟩
  rw [hm2]
  refine gw_if_ne (tgt := 9) hC dX11_clear_4 (by decide) (fun hc => ?_) (fun hc => ?_)
  · have h := gx_f h hc
    refine gw_aload_n hC dX11_clear_9 rfl 0 rfl ?_
    refine gw_get hC cl_X11 fg_X11_7 (hw.lt (by decide)) (gd_0 hw _) (gv_X11_0 _ _ _) dX11_clear_10 ?_
    refine gw_bipush (v := 24) hC dX11_clear_13 (by decide) ?_
    refine gw_iload_n hC dX11_clear_15 rfl 1 rfl ?_
    refine gw_iadd hC dX11_clear_16 ?_
    obtain ⟨hi, h⟩ := h
    refine gw_iald hC (hw.lt (by decide)) (gd_1 hw _) (gu_0 hw) hi dX11_clear_17 ?_
    refine gw_nm (fun x3 hx3 => ?_)
    have h := h x3 hx3
    refine gw_istore_n (lv' := [(2, .int x3), (0, .ref (gx_ad w 0)), (1, .int v1)]) hC dX11_clear_18 rfl (by decide) rfl ?_
    refine gw_aload_n hC dX11_clear_19 rfl 1 rfl ?_
    refine gw_get hC cl_X11 fg_X11_7 (hw.lt (by decide)) (gd_0 hw _) (gv_X11_0 _ _ _) dX11_clear_20 ?_
    refine gw_bipush (v := 24) hC dX11_clear_23 (by decide) ?_
    refine gw_iload_n hC dX11_clear_25 rfl 2 rfl ?_
    refine gw_iadd hC dX11_clear_26 ?_
    refine gw_iconst (v := 0) hC dX11_clear_27 (by decide) ?_
    obtain ⟨hi, h⟩ := h
    refine gw_iast hC (hw.lt (by decide)) (gd_1 hw) (gu_0 hw) hi dX11_clear_28 ?_
    refine gw_nmM (fun M4 hM4 => ?_)
    have h := h M4 hM4
    refine gw_iload_n hC dX11_clear_29 rfl 0 rfl ?_
    exact gw_iret hC hr dX11_clear_30 h
  · have h := gx_t h hc
    refine gw_iconst (v := (-1)) hC dX11_clear_7 (by decide) ?_
    exact gw_iret hC hr dX11_clear_8 h
theorem c_X11_clear {l : Launch} {d : gx_D} {w : gx_V} {ca : Nat → ClassId} (hw : gx_isR ca w)   {M : gx_M} {v1 : Int32} {Q : Int32 → gx_M → Prop} (h : T_X11_clear M v1 Q) : gx_Mi l d w yX11_clear cX11_clear 3 .int rm_X11_clear [.ref (gx_ad w 0), .int v1] M Q := fun sz =>
  gx_of (own := RX11) (by decide +kernel) rfl (Nat.le_of_ble_eq_true rfl) (fun z hC hl hR hsz hr => by subst hsz; exact J_X11_clear hC hw hR hr  h) rfl
set_option maxRecDepth 20000 in
theorem J_X11_phase {z : gx_X} {d : gx_D} {w : gx_V} {ca : Nat → ClassId} (hC : gx_C z d w cX11_phase 3 RX11) (hw : gx_isR ca w) (hR : gx_R z = rm_X11_phase) (hr : (gx_me z).sig.returnType = (some .int))   {M : gx_M} {v1 : Int32} {v2 : Int32} {Q : Int32 → Prop} (h : T_X11_phase M v1 v2 Q) : GW z w 3 (gx_Qi w (fun r M1 => M1 = M ∧ Q r) (gx_s z).heap.size) M 0 [(0, .ref (gx_ad w 0)), (1, .int v1), (2, .int v2)] [] := by
  unfold T_X11_phase at h
  refine gw_iload_n hC dX11_phase_0 rfl 2 rfl ?_
  refine gw_aload_n hC dX11_phase_1 rfl 0 rfl ?_
  refine gw_get hC cl_X11 fg_X11_7 (hw.lt (by decide)) (gd_0 hw _) (gv_X11_0 _ _ _) dX11_phase_2 ?_
  refine gw_iload_n hC dX11_phase_5 rfl 1 rfl ?_
  refine gw_iconst (v := 4) hC dX11_phase_6 (by decide) ?_
  refine gw_iadd hC dX11_phase_7 ?_
  obtain ⟨hi, h⟩ := h
  refine gw_iald hC (hw.lt (by decide)) (gd_1 hw _) (gu_0 hw) hi dX11_phase_8 ?_
  refine gw_isub hC dX11_phase_9 ?_
  refine gw_aload_n hC dX11_phase_10 rfl 0 rfl ?_
  refine gw_get hC cl_X11 fg_X11_7 (hw.lt (by decide)) (gd_0 hw _) (gv_X11_0 _ _ _) dX11_phase_11 ?_
  refine gw_iload_n hC dX11_phase_14 rfl 1 rfl ?_
  refine gw_iconst (v := 2) hC dX11_phase_15 (by decide) ?_
  refine gw_iadd hC dX11_phase_16 ?_
  obtain ⟨hi, h⟩ := h
  refine gw_iald hC (hw.lt (by decide)) (gd_1 hw _) (gu_0 hw) hi dX11_phase_17 ?_
  refine gw_calli (gx_rS hC (n := 2) (As := [.int (v2 - (M 1 (v1 + 4).toNatClampNeg)), .int (M 1 (v1 + 2).toNatClampNeg)]) (rest := []) (fun sz => c_X11_rest hw  h sz) cs_X11_93_X11_rest (by rw [hR]; exact rr_X11_phase_X11_rest) rfl rfl (Nat.le_of_ble_eq_true rfl) dX11_phase_18) ?_
  intro r1 m2 ⟨hm2, h⟩
  rw [hm2]
  exact gw_iret hC hr dX11_phase_21 ⟨rfl, h⟩
theorem c_X11_phase {l : Launch} {d : gx_D} {w : gx_V} {ca : Nat → ClassId} (hw : gx_isR ca w)   {M : gx_M} {v1 : Int32} {v2 : Int32} {Q : Int32 → Prop} (h : T_X11_phase M v1 v2 Q) : gx_Mi l d w yX11_phase cX11_phase 3 .int rm_X11_phase [.ref (gx_ad w 0), .int v1, .int v2] M (fun r M1 => M1 = M ∧ Q r) := fun sz =>
  gx_of (own := RX11) (by decide +kernel) rfl (Nat.le_of_ble_eq_true rfl) (fun z hC hl hR hsz hr => by subst hsz; exact J_X11_phase hC hw hR hr  h) rfl
set_option maxRecDepth 20000 in
theorem J_X11_partAt {z : gx_X} {d : gx_D} {w : gx_V} {ca : Nat → ClassId} (hC : gx_C z d w cX11_partAt 4 RX11) (hw : gx_isR ca w) (hR : gx_R z = rm_X11_partAt) (hr : (gx_me z).sig.returnType = (some .int))   {M : gx_M} {v1 : Int32} {v2 : Int32} {Q : Int32 → Prop} (h : T_X11_partAt M v1 v2 Q) : GW z w 4 (gx_Qi w (fun r M1 => M1 = M ∧ Q r) (gx_s z).heap.size) M 0 [(0, .ref (gx_ad w 0)), (1, .int v1), (2, .int v2)] [] := by
  unfold T_X11_partAt at h
  refine gw_aload_n hC dX11_partAt_0 rfl 0 rfl ?_
  refine gw_get hC cl_X11 fg_X11_7 (hw.lt (by decide)) (gd_0 hw _) (gv_X11_0 _ _ _) dX11_partAt_1 ?_
  refine gw_iload_n hC dX11_partAt_4 rfl 1 rfl ?_
  refine gw_iconst (v := 1) hC dX11_partAt_5 (by decide) ?_
  refine gw_iadd hC dX11_partAt_6 ?_
  obtain ⟨hi, h⟩ := h
  refine gw_iald hC (hw.lt (by decide)) (gd_1 hw _) (gu_0 hw) hi dX11_partAt_7 ?_
  refine gw_nm (fun x1 hx1 => ?_)
  have h := h x1 hx1
  refine gw_istore_n (lv' := [(3, .int x1), (0, .ref (gx_ad w 0)), (1, .int v1), (2, .int v2)]) hC dX11_partAt_8 rfl (by decide) rfl ?_
  refine gw_aload_n hC dX11_partAt_9 rfl 1 rfl ?_
  refine gw_get hC cl_X11 fg_X11_7 (hw.lt (by decide)) (gd_0 hw _) (gv_X11_0 _ _ _) dX11_partAt_10 ?_
  refine gw_iload_n hC dX11_partAt_13 rfl 2 rfl ?_
  refine gw_iconst (v := 0) hC dX11_partAt_14 (by decide) ?_
  refine gw_iadd hC dX11_partAt_15 ?_
  obtain ⟨hi, h⟩ := h
  refine gw_iald hC (hw.lt (by decide)) (gd_1 hw _) (gu_0 hw) hi dX11_partAt_16 ?_
  by_cases hs2 : (M 1 (v1 + 0).toNatClampNeg) = 0
  · have h := gx_t h hs2
    refine gw_lookIn (tgt := 44) (off := 27) (v := 0) hC dX11_partAt_17 hs2 (by decide) (by decide) (by decide) ?_
    refine gw_iload_n hC dX11_partAt_44 rfl 3 rfl ?_
    refine gw_aload_n hC dX11_partAt_45 rfl 1 rfl ?_
    refine gw_get hC cl_X11 fg_X11_7 (hw.lt (by decide)) (gd_0 hw _) (gv_X11_0 _ _ _) dX11_partAt_46 ?_
    refine gw_iload_n hC dX11_partAt_49 rfl 2 rfl ?_
    refine gw_iconst (v := 4) hC dX11_partAt_50 (by decide) ?_
    refine gw_iadd hC dX11_partAt_51 ?_
    obtain ⟨hi, h⟩ := h
    refine gw_iald hC (hw.lt (by decide)) (gd_1 hw _) (gu_0 hw) hi dX11_partAt_52 ?_
    refine gw_icmp_lt (tgt := 60) hC dX11_partAt_53 (by decide) (fun hc => ?_) (fun hc => ?_)
    · have h := gx_t h hc
      refine gw_iconst (v := 0) hC dX11_partAt_60 (by decide) ?_
      exact gw_iret hC hr dX11_partAt_61 ⟨rfl, h⟩
    · have h := gx_f h hc
      refine gw_iload_n hC dX11_partAt_56 rfl 0 rfl ?_
      refine gw_goto (tgt := 61) hC dX11_partAt_57 (by decide) ?_
      exact gw_iret hC hr dX11_partAt_61 ⟨rfl, h⟩
  have h := gx_f h hs2
  by_cases hs5 : (M 1 (v1 + 0).toNatClampNeg) = 1
  · have h := gx_t h hs5
    refine gw_lookIn (tgt := 62) (off := 45) (v := 1) hC dX11_partAt_17 hs5 (by decide) (by decide) (by decide) ?_
    refine gw_aload_n hC dX11_partAt_62 rfl 1 rfl ?_
    refine gw_iload_n hC dX11_partAt_63 rfl 2 rfl ?_
    refine gw_iload_n hC dX11_partAt_64 rfl 3 rfl ?_
    refine gw_calli (gx_rV hC (n := 2) (As := [.int v1, .int v2]) (rest := []) (fun sz => c_X11_phase hw  h sz) cv_X11_105_X11_phase (by rw [hR]; exact rr_X11_partAt_X11_phase) ⟨(hw.lt (by decide)), _, _, _, _, gd_0 hw _, cl_X11.1⟩ rfl rfl (Nat.le_of_ble_eq_true rfl) dX11_partAt_65) ?_
    intro r3 m4 ⟨hm4, h⟩
    rw [hm4]
    refine gw_aload_n hC dX11_partAt_68 rfl 1 rfl ?_
    refine gw_get hC cl_X11 fg_X11_7 (hw.lt (by decide)) (gd_0 hw _) (gv_X11_0 _ _ _) dX11_partAt_69 ?_
    refine gw_iload_n hC dX11_partAt_72 rfl 2 rfl ?_
    refine gw_iconst (v := 3) hC dX11_partAt_73 (by decide) ?_
    refine gw_iadd hC dX11_partAt_74 ?_
    obtain ⟨hi, h⟩ := h
    refine gw_iald hC (hw.lt (by decide)) (gd_1 hw _) (gu_0 hw) hi dX11_partAt_75 ?_
    refine gw_icmp_ge (tgt := 83) hC dX11_partAt_76 (by decide) (fun hc => ?_) (fun hc => ?_)
    · have h := gx_t h hc
      refine gw_iconst (v := 0) hC dX11_partAt_83 (by decide) ?_
      exact gw_iret hC hr dX11_partAt_84 ⟨rfl, h⟩
    · have h := gx_f h hc
      refine gw_iload_n hC dX11_partAt_79 rfl 0 rfl ?_
      refine gw_goto (tgt := 84) hC dX11_partAt_80 (by decide) ?_
      exact gw_iret hC hr dX11_partAt_84 ⟨rfl, h⟩
  have h := gx_f h hs5
  refine gw_lookOut (tgt := 85) hC dX11_partAt_17 (by decide) (List.forall_mem_cons.mpr ⟨fun e => hs2 (e.trans (by decide)), List.forall_mem_cons.mpr ⟨fun e => hs5 (e.trans (by decide)), fun _ h => absurd h List.not_mem_nil⟩⟩) (by decide) ?_
  refine gw_iload_n hC dX11_partAt_85 rfl 0 rfl ?_
  refine gw_aload_n hC dX11_partAt_86 rfl 1 rfl ?_
  refine gw_iload_n hC dX11_partAt_87 rfl 2 rfl ?_
  refine gw_iload_n hC dX11_partAt_88 rfl 3 rfl ?_
  refine gw_calli (gx_rV hC (n := 2) (As := [.int v1, .int v2]) (rest := [.int x1]) (fun sz => c_X11_phase hw  h sz) cv_X11_105_X11_phase (by rw [hR]; exact rr_X11_partAt_X11_phase) ⟨(hw.lt (by decide)), _, _, _, _, gd_0 hw _, cl_X11.1⟩ rfl rfl (Nat.le_of_ble_eq_true rfl) dX11_partAt_89) ?_
  intro r6 m7 ⟨hm7, h⟩
  rw [hm7]
  refine gw_imul hC dX11_partAt_92 ?_
  refine gw_aload_n hC dX11_partAt_93 rfl 1 rfl ?_
  refine gw_get hC cl_X11 fg_X11_7 (hw.lt (by decide)) (gd_0 hw _) (gv_X11_0 _ _ _) dX11_partAt_94 ?_
  refine gw_iload_n hC dX11_partAt_97 rfl 2 rfl ?_
  refine gw_iconst (v := 2) hC dX11_partAt_98 (by decide) ?_
  refine gw_iadd hC dX11_partAt_99 ?_
  obtain ⟨hi, h⟩ := h
  refine gw_iald hC (hw.lt (by decide)) (gd_1 hw _) (gu_0 hw) hi dX11_partAt_100 ?_
  obtain ⟨hz, h⟩ := h
  refine gw_idiv hC dX11_partAt_101 hz ?_
  exact gw_iret hC hr dX11_partAt_102 ⟨rfl, h⟩
theorem c_X11_partAt {l : Launch} {d : gx_D} {w : gx_V} {ca : Nat → ClassId} (hw : gx_isR ca w)   {M : gx_M} {v1 : Int32} {v2 : Int32} {Q : Int32 → Prop} (h : T_X11_partAt M v1 v2 Q) : gx_Mi l d w yX11_partAt cX11_partAt 4 .int rm_X11_partAt [.ref (gx_ad w 0), .int v1, .int v2] M (fun r M1 => M1 = M ∧ Q r) := fun sz =>
  gx_of (own := RX11) (by decide +kernel) rfl (Nat.le_of_ble_eq_true rfl) (fun z hC hl hR hsz hr => by subst hsz; exact J_X11_partAt hC hw hR hr  h) rfl
set_option maxRecDepth 20000 in
theorem J_X11_rawAt_5 {z : gx_X} {d : gx_D} {w : gx_V} {ca : Nat → ClassId} (hC : gx_C z d w cX11_rawAt 5 RX11) (hw : gx_isR ca w) (hR : gx_R z = rm_X11_rawAt) (hr : (gx_me z).sig.returnType = (some .int)) {M : gx_M} {Q : Int32 → Prop}   : ∀ (n : Nat) (v1 : Int32) (v2 : Int32) (v3 : Int32) (v4 : Int32) , T_X11_rawAt_5 M Q  n v1 v2 v3 v4 → GW z w 5 (gx_Qi w (fun r M1 => M1 = M ∧ Q r) (gx_s z).heap.size) M 5 [(0, .ref (gx_ad w 0)), (1, .int v1), (2, .int v2), (3, .int v3), (4, .int v4)] [] := by
  intro n
  induction n with
  | zero =>
    intro v1 v2 v3 v4 h
    exact h.elim
  | succ n ih =>
    intro v1 v2 v3 v4 h
    rw [T_X11_rawAt_5] at h
    refine gw_iload hC dX11_rawAt_5 4 rfl ?_
    refine gw_aload_n hC dX11_rawAt_7 rfl 0 rfl ?_
    refine gw_get hC cl_X11 fg_X11_7 (hw.lt (by decide)) (gd_0 hw _) (gv_X11_0 _ _ _) dX11_rawAt_8 ?_
    refine gw_bipush (v := 24) hC dX11_rawAt_11 (by decide) ?_
    refine gw_iload_n hC dX11_rawAt_13 rfl 1 rfl ?_
    refine gw_iadd hC dX11_rawAt_14 ?_
    obtain ⟨hi, h⟩ := h
    refine gw_iald hC (hw.lt (by decide)) (gd_1 hw _) (gu_0 hw) hi dX11_rawAt_15 ?_
    refine gw_icmp_ge (tgt := 45) hC dX11_rawAt_16 (by decide) (fun hc => ?_) (fun hc => ?_)
    · have h := gx_t h hc
      refine gw_iload_n hC dX11_rawAt_45 rfl 3 rfl ?_
      exact gw_iret hC hr dX11_rawAt_46 ⟨rfl, h⟩
    · have h := gx_f h hc
      refine gw_iload_n hC dX11_rawAt_19 rfl 3 rfl ?_
      refine gw_aload_n hC dX11_rawAt_20 rfl 0 rfl ?_
      refine gw_bipush (v := 30) hC dX11_rawAt_21 (by decide) ?_
      refine gw_bipush (v := 30) hC dX11_rawAt_23 (by decide) ?_
      refine gw_iload_n hC dX11_rawAt_25 rfl 1 rfl ?_
      refine gw_imul hC dX11_rawAt_26 ?_
      refine gw_iadd hC dX11_rawAt_27 ?_
      refine gw_iconst (v := 5) hC dX11_rawAt_28 (by decide) ?_
      refine gw_iload hC dX11_rawAt_29 4 rfl ?_
      refine gw_imul hC dX11_rawAt_31 ?_
      refine gw_iadd hC dX11_rawAt_32 ?_
      refine gw_iload_n hC dX11_rawAt_33 rfl 2 rfl ?_
      refine gw_calli (gx_rV hC (n := 2) (As := [.int ((30 + (30 * v1)) + (5 * v4)), .int v2]) (rest := [.int v3]) (fun sz => c_X11_partAt hw  h sz) cv_X11_108_X11_partAt (by rw [hR]; exact rr_X11_rawAt_X11_partAt) ⟨(hw.lt (by decide)), _, _, _, _, gd_0 hw _, cl_X11.1⟩ rfl rfl (Nat.le_of_ble_eq_true rfl) dX11_rawAt_34) ?_
      intro r1 m2 ⟨hm2, h⟩
      rw [hm2]
      refine gw_iadd hC dX11_rawAt_37 ?_
      refine gw_nm (fun x3 hx3 => ?_)
      have h := h x3 hx3
      refine gw_istore_n (lv' := [(3, .int x3), (0, .ref (gx_ad w 0)), (1, .int v1), (2, .int v2), (4, .int v4)]) hC dX11_rawAt_38 rfl (by decide) rfl ?_
      obtain ⟨x4, hx4⟩ : ∃ y : Int32, y = v4 + 1 := ⟨_, rfl⟩
      have h := h x4 hx4
      refine gw_iinc (v := x4) (lv' := [(4, .int x4), (3, .int x3), (0, .ref (gx_ad w 0)), (1, .int v1), (2, .int v2)]) hC dX11_rawAt_39 (k := 4) rfl (by rw [hx4]; rfl) (by decide) rfl ?_
      refine gw_goto (tgt := 5) hC dX11_rawAt_42 (by decide) ?_
      refine gw_sub (lv' := [(0, .ref (gx_ad w 0)), (1, .int v1), (2, .int v2), (3, .int x3), (4, .int x4)]) [2, 3, 4, 1, 0] rfl ?_
      exact ih v1 v2 x3 x4 h
set_option maxRecDepth 20000 in
theorem J_X11_rawAt {z : gx_X} {d : gx_D} {w : gx_V} {ca : Nat → ClassId} (hC : gx_C z d w cX11_rawAt 5 RX11) (hw : gx_isR ca w) (hR : gx_R z = rm_X11_rawAt) (hr : (gx_me z).sig.returnType = (some .int))   {M : gx_M} {v1 : Int32} {v2 : Int32} {Q : Int32 → Prop} (h : T_X11_rawAt M v1 v2 Q) : GW z w 5 (gx_Qi w (fun r M1 => M1 = M ∧ Q r) (gx_s z).heap.size) M 0 [(0, .ref (gx_ad w 0)), (1, .int v1), (2, .int v2)] [] := by
  unfold T_X11_rawAt at h
  refine gw_iconst (v := 0) hC dX11_rawAt_0 (by decide) ?_
  refine gw_istore_n (lv' := [(3, .int 0), (0, .ref (gx_ad w 0)), (1, .int v1), (2, .int v2)]) hC dX11_rawAt_1 rfl (by decide) rfl ?_
  refine gw_iconst (v := 0) hC dX11_rawAt_2 (by decide) ?_
  refine gw_istore (lv' := [(4, .int 0), (3, .int 0), (0, .ref (gx_ad w 0)), (1, .int v1), (2, .int v2)]) hC dX11_rawAt_3 (by decide) rfl ?_
  obtain ⟨k5, h⟩ := h
  refine gw_sub (lv' := [(0, .ref (gx_ad w 0)), (1, .int v1), (2, .int v2), (3, .int 0), (4, .int 0)]) [2, 3, 4, 1, 0] rfl ?_
  exact J_X11_rawAt_5 hC hw hR hr  k5 v1 v2 0 0 h
theorem c_X11_rawAt {l : Launch} {d : gx_D} {w : gx_V} {ca : Nat → ClassId} (hw : gx_isR ca w)   {M : gx_M} {v1 : Int32} {v2 : Int32} {Q : Int32 → Prop} (h : T_X11_rawAt M v1 v2 Q) : gx_Mi l d w yX11_rawAt cX11_rawAt 5 .int rm_X11_rawAt [.ref (gx_ad w 0), .int v1, .int v2] M (fun r M1 => M1 = M ∧ Q r) := fun sz =>
  gx_of (own := RX11) (by decide +kernel) rfl (Nat.le_of_ble_eq_true rfl) (fun z hC hl hR hsz hr => by subst hsz; exact J_X11_rawAt hC hw hR hr  h) rfl
set_option maxRecDepth 20000 in
theorem J_X11_raw {z : gx_X} {d : gx_D} {w : gx_V} {ca : Nat → ClassId} (hC : gx_C z d w cX11_raw 3 RX11) (hw : gx_isR ca w) (hR : gx_R z = rm_X11_raw) (hr : (gx_me z).sig.returnType = (some .int))   {M : gx_M} {v1 : Int32} {v2 : Int32} {Q : Int32 → Prop} (h : T_X11_raw M v1 v2 Q) : GW z w 3 (gx_Qi w (fun r M1 => M1 = M ∧ Q r) (gx_s z).heap.size) M 0 [(0, .ref (gx_ad w 0)), (1, .int v1), (2, .int v2)] [] := by
  unfold T_X11_raw at h
  refine gw_iload_n hC dX11_raw_0 rfl 1 rfl ?_
  refine gw_calli (gx_rS hC (n := 1) (As := [.int v1]) (rest := []) (fun sz => c_X11_isSignal hw  h sz) cs_X11_101_X11_isSignal (by rw [hR]; exact rr_X11_raw_X11_isSignal) rfl rfl (Nat.le_of_ble_eq_true rfl) dX11_raw_1) ?_
  intro r1 m2 ⟨hm2, h⟩
  rw [hm2]
  refine gw_if_eq (tgt := 27) hC dX11_raw_4 (by decide) (fun hc => ?_) (fun hc => ?_)
  · have h := gx_t h hc
    refine gw_ldc hC kc_X11_114 dX11_raw_27 ?_
    exact gw_iret hC hr dX11_raw_29 ⟨rfl, h⟩
  · have h := gx_f h hc
    refine gw_iload_n hC dX11_raw_7 rfl 2 rfl ?_
    refine gw_iconst (v := 0) hC dX11_raw_8 (by decide) ?_
    refine gw_sipush (v := 9999) hC dX11_raw_9 (by decide) ?_
    refine gw_calli (gx_rS hC (n := 3) (As := [.int v2, .int 0, .int 9999]) (rest := []) (fun sz => c_X11_in hw  h sz) cs_X11_97_X11_in (by rw [hR]; exact rr_X11_raw_X11_in) rfl rfl (Nat.le_of_ble_eq_true rfl) dX11_raw_12) ?_
    intro r3 m4 ⟨hm4, h⟩
    rw [hm4]
    refine gw_if_eq (tgt := 27) hC dX11_raw_15 (by decide) (fun hc => ?_) (fun hc => ?_)
    · have h := gx_t h hc
      refine gw_ldc hC kc_X11_114 dX11_raw_27 ?_
      exact gw_iret hC hr dX11_raw_29 ⟨rfl, h⟩
    · have h := gx_f h hc
      refine gw_aload_n hC dX11_raw_18 rfl 0 rfl ?_
      refine gw_iload_n hC dX11_raw_19 rfl 1 rfl ?_
      refine gw_iload_n hC dX11_raw_20 rfl 2 rfl ?_
      refine gw_calli (gx_rV hC (n := 2) (As := [.int v1, .int v2]) (rest := []) (fun sz => c_X11_rawAt hw  h sz) cv_X11_111_X11_rawAt (by rw [hR]; exact rr_X11_raw_X11_rawAt) ⟨(hw.lt (by decide)), _, _, _, _, gd_0 hw _, cl_X11.1⟩ rfl rfl (Nat.le_of_ble_eq_true rfl) dX11_raw_21) ?_
      intro r5 m6 ⟨hm6, h⟩
      rw [hm6]
      refine gw_goto (tgt := 29) hC dX11_raw_24 (by decide) ?_
      exact gw_iret hC hr dX11_raw_29 ⟨rfl, h⟩
theorem c_X11_raw {l : Launch} {d : gx_D} {w : gx_V} {ca : Nat → ClassId} (hw : gx_isR ca w)   {M : gx_M} {v1 : Int32} {v2 : Int32} {Q : Int32 → Prop} (h : T_X11_raw M v1 v2 Q) : gx_Mi l d w yX11_raw cX11_raw 3 .int rm_X11_raw [.ref (gx_ad w 0), .int v1, .int v2] M (fun r M1 => M1 = M ∧ Q r) := fun sz =>
  gx_of (own := RX11) (by decide +kernel) rfl (Nat.le_of_ble_eq_true rfl) (fun z hC hl hR hsz hr => by subst hsz; exact J_X11_raw hC hw hR hr  h) rfl
set_option maxRecDepth 20000 in
theorem J_X11_probe {z : gx_X} {d : gx_D} {w : gx_V} {ca : Nat → ClassId} (hC : gx_C z d w cX11_probe 5 RX11) (hw : gx_isR ca w) (hR : gx_R z = rm_X11_probe) (hr : (gx_me z).sig.returnType = (some .boolean))   {M : gx_M} {v1 : Int32} {v2 : Int32} {v3 : Int32} {v4 : Int32} {Q : Int32 → gx_M → Prop} (h : T_X11_probe M v1 v2 v3 v4 Q) : GW z w 5 (gx_Qi w Q (gx_s z).heap.size) M 0 [(0, .ref (gx_ad w 0)), (1, .int v1), (2, .int v2), (3, .int v3), (4, .int v4)] [] := by
  unfold T_X11_probe at h
  refine gw_iload_n hC dX11_probe_0 rfl 1 rfl ?_
  refine gw_calli (gx_rS hC (n := 1) (As := [.int v1]) (rest := []) (fun sz => c_X11_isChannel hw  h sz) cs_X11_115_X11_isChannel (by rw [hR]; exact rr_X11_probe_X11_isChannel) rfl rfl (Nat.le_of_ble_eq_true rfl) dX11_probe_1) ?_
  intro r1 m2 ⟨hm2, h⟩
  rw [hm2]
  refine gw_if_eq (tgt := 38) hC dX11_probe_4 (by decide) (fun hc => ?_) (fun hc => ?_)
  · have h := gx_t h hc
    refine gw_iconst (v := 0) hC dX11_probe_38 (by decide) ?_
    exact gw_zret hC hr rfl dX11_probe_39 h
  · have h := gx_f h hc
    refine gw_iload_n hC dX11_probe_7 rfl 2 rfl ?_
    refine gw_iconst (v := 1) hC dX11_probe_8 (by decide) ?_
    refine gw_bipush (v := 20) hC dX11_probe_9 (by decide) ?_
    refine gw_calli (gx_rS hC (n := 3) (As := [.int v2, .int 1, .int 20]) (rest := []) (fun sz => c_X11_in hw  h sz) cs_X11_97_X11_in (by rw [hR]; exact rr_X11_probe_X11_in) rfl rfl (Nat.le_of_ble_eq_true rfl) dX11_probe_11) ?_
    intro r3 m4 ⟨hm4, h⟩
    rw [hm4]
    refine gw_if_eq (tgt := 38) hC dX11_probe_14 (by decide) (fun hc => ?_) (fun hc => ?_)
    · have h := gx_t h hc
      refine gw_iconst (v := 0) hC dX11_probe_38 (by decide) ?_
      exact gw_zret hC hr rfl dX11_probe_39 h
    · have h := gx_f h hc
      refine gw_iload_n hC dX11_probe_17 rfl 3 rfl ?_
      refine gw_iconst (v := 1) hC dX11_probe_18 (by decide) ?_
      refine gw_bipush (v := 20) hC dX11_probe_19 (by decide) ?_
      refine gw_calli (gx_rS hC (n := 3) (As := [.int v3, .int 1, .int 20]) (rest := []) (fun sz => c_X11_in hw  h sz) cs_X11_97_X11_in (by rw [hR]; exact rr_X11_probe_X11_in) rfl rfl (Nat.le_of_ble_eq_true rfl) dX11_probe_21) ?_
      intro r5 m6 ⟨hm6, h⟩
      rw [hm6]
      refine gw_if_eq (tgt := 38) hC dX11_probe_24 (by decide) (fun hc => ?_) (fun hc => ?_)
      · have h := gx_t h hc
        refine gw_iconst (v := 0) hC dX11_probe_38 (by decide) ?_
        exact gw_zret hC hr rfl dX11_probe_39 h
      · have h := gx_f h hc
        refine gw_iload hC dX11_probe_27 4 rfl ?_
        refine gw_iconst (v := 1) hC dX11_probe_29 (by decide) ?_
        refine gw_bipush (v := 16) hC dX11_probe_30 (by decide) ?_
        refine gw_calli (gx_rS hC (n := 3) (As := [.int v4, .int 1, .int 16]) (rest := []) (fun sz => c_X11_in hw  h sz) cs_X11_97_X11_in (by rw [hR]; exact rr_X11_probe_X11_in) rfl rfl (Nat.le_of_ble_eq_true rfl) dX11_probe_32) ?_
        intro r7 m8 ⟨hm8, h⟩
        rw [hm8]
        refine gw_if_ne (tgt := 40) hC dX11_probe_35 (by decide) (fun hc => ?_) (fun hc => ?_)
        · have h := gx_f h hc
          refine gw_aload_n hC dX11_probe_40 rfl 0 rfl ?_
          refine gw_get hC cl_X11 fg_X11_7 (hw.lt (by decide)) (gd_0 hw _) (gv_X11_0 _ _ _) dX11_probe_41 ?_
          refine gw_bipush (v := 16) hC dX11_probe_44 (by decide) ?_
          refine gw_iload_n hC dX11_probe_46 rfl 1 rfl ?_
          refine gw_iadd hC dX11_probe_47 ?_
          refine gw_iload_n hC dX11_probe_48 rfl 2 rfl ?_
          obtain ⟨hi, h⟩ := h
          refine gw_iast hC (hw.lt (by decide)) (gd_1 hw) (gu_0 hw) hi dX11_probe_49 ?_
          refine gw_nmM (fun M9 hM9 => ?_)
          have h := h M9 hM9
          refine gw_aload_n hC dX11_probe_50 rfl 0 rfl ?_
          refine gw_get hC cl_X11 fg_X11_7 (hw.lt (by decide)) (gd_0 hw _) (gv_X11_0 _ _ _) dX11_probe_51 ?_
          refine gw_bipush (v := 18) hC dX11_probe_54 (by decide) ?_
          refine gw_iload_n hC dX11_probe_56 rfl 1 rfl ?_
          refine gw_iadd hC dX11_probe_57 ?_
          refine gw_iload_n hC dX11_probe_58 rfl 3 rfl ?_
          obtain ⟨hi, h⟩ := h
          refine gw_iast hC (hw.lt (by decide)) (gd_1 hw) (gu_0 hw) hi dX11_probe_59 ?_
          refine gw_nmM (fun M10 hM10 => ?_)
          have h := h M10 hM10
          refine gw_aload_n hC dX11_probe_60 rfl 0 rfl ?_
          refine gw_get hC cl_X11 fg_X11_7 (hw.lt (by decide)) (gd_0 hw _) (gv_X11_0 _ _ _) dX11_probe_61 ?_
          refine gw_bipush (v := 20) hC dX11_probe_64 (by decide) ?_
          refine gw_iload_n hC dX11_probe_66 rfl 1 rfl ?_
          refine gw_iadd hC dX11_probe_67 ?_
          refine gw_iload hC dX11_probe_68 4 rfl ?_
          obtain ⟨hi, h⟩ := h
          refine gw_iast hC (hw.lt (by decide)) (gd_1 hw) (gu_0 hw) hi dX11_probe_70 ?_
          refine gw_nmM (fun M11 hM11 => ?_)
          have h := h M11 hM11
          refine gw_iconst (v := 1) hC dX11_probe_71 (by decide) ?_
          exact gw_zret hC hr rfl dX11_probe_72 h
        · have h := gx_t h hc
          refine gw_iconst (v := 0) hC dX11_probe_38 (by decide) ?_
          exact gw_zret hC hr rfl dX11_probe_39 h
theorem c_X11_probe {l : Launch} {d : gx_D} {w : gx_V} {ca : Nat → ClassId} (hw : gx_isR ca w)   {M : gx_M} {v1 : Int32} {v2 : Int32} {v3 : Int32} {v4 : Int32} {Q : Int32 → gx_M → Prop} (h : T_X11_probe M v1 v2 v3 v4 Q) : gx_Mi l d w yX11_probe cX11_probe 5 .boolean rm_X11_probe [.ref (gx_ad w 0), .int v1, .int v2, .int v3, .int v4] M Q := fun sz =>
  gx_of (own := RX11) (by decide +kernel) rfl (Nat.le_of_ble_eq_true rfl) (fun z hC hl hR hsz hr => by subst hsz; exact J_X11_probe hC hw hR hr  h) rfl
set_option maxRecDepth 20000 in
theorem J_X11_channel {z : gx_X} {d : gx_D} {w : gx_V} {ca : Nat → ClassId} (hC : gx_C z d w cX11_channel 5 RX11) (hw : gx_isR ca w) (hR : gx_R z = rm_X11_channel) (hr : (gx_me z).sig.returnType = (some .boolean))   {M : gx_M} {v1 : Int32} {v2 : Int32} {v3 : Int32} {v4 : Int32} {Q : Int32 → gx_M → Prop} (h : T_X11_channel M v1 v2 v3 v4 Q) : GW z w 5 (gx_Qi w Q (gx_s z).heap.size) M 0 [(0, .ref (gx_ad w 0)), (1, .int v1), (2, .int v2), (3, .int v3), (4, .int v4)] [] := by
  unfold T_X11_channel at h
  refine gw_iload_n hC dX11_channel_0 rfl 1 rfl ?_
  refine gw_calli (gx_rS hC (n := 1) (As := [.int v1]) (rest := []) (fun sz => c_X11_isChannel hw  h sz) cs_X11_115_X11_isChannel (by rw [hR]; exact rr_X11_channel_X11_isChannel) rfl rfl (Nat.le_of_ble_eq_true rfl) dX11_channel_1) ?_
  intro r1 m2 ⟨hm2, h⟩
  rw [hm2]
  refine gw_if_eq (tgt := 37) hC dX11_channel_4 (by decide) (fun hc => ?_) (fun hc => ?_)
  · have h := gx_t h hc
    refine gw_iconst (v := 0) hC dX11_channel_37 (by decide) ?_
    exact gw_zret hC hr rfl dX11_channel_38 h
  · have h := gx_f h hc
    refine gw_iload_n hC dX11_channel_7 rfl 2 rfl ?_
    refine gw_calli (gx_rS hC (n := 1) (As := [.int v2]) (rest := []) (fun sz => c_X11_isSignal hw  h sz) cs_X11_101_X11_isSignal (by rw [hR]; exact rr_X11_channel_X11_isSignal) rfl rfl (Nat.le_of_ble_eq_true rfl) dX11_channel_8) ?_
    intro r3 m4 ⟨hm4, h⟩
    rw [hm4]
    refine gw_if_eq (tgt := 37) hC dX11_channel_11 (by decide) (fun hc => ?_) (fun hc => ?_)
    · have h := gx_t h hc
      refine gw_iconst (v := 0) hC dX11_channel_37 (by decide) ?_
      exact gw_zret hC hr rfl dX11_channel_38 h
    · have h := gx_f h hc
      refine gw_iload_n hC dX11_channel_14 rfl 3 rfl ?_
      refine gw_iconst (v := 1) hC dX11_channel_15 (by decide) ?_
      refine gw_sipush (v := 999) hC dX11_channel_16 (by decide) ?_
      refine gw_calli (gx_rS hC (n := 3) (As := [.int v3, .int 1, .int 999]) (rest := []) (fun sz => c_X11_in hw  h sz) cs_X11_97_X11_in (by rw [hR]; exact rr_X11_channel_X11_in) rfl rfl (Nat.le_of_ble_eq_true rfl) dX11_channel_19) ?_
      intro r5 m6 ⟨hm6, h⟩
      rw [hm6]
      refine gw_if_eq (tgt := 37) hC dX11_channel_22 (by decide) (fun hc => ?_) (fun hc => ?_)
      · have h := gx_t h hc
        refine gw_iconst (v := 0) hC dX11_channel_37 (by decide) ?_
        exact gw_zret hC hr rfl dX11_channel_38 h
      · have h := gx_f h hc
        refine gw_iload hC dX11_channel_25 4 rfl ?_
        refine gw_bipush (v := (-15)) hC dX11_channel_27 (by decide) ?_
        refine gw_bipush (v := 15) hC dX11_channel_29 (by decide) ?_
        refine gw_calli (gx_rS hC (n := 3) (As := [.int v4, .int (-15), .int 15]) (rest := []) (fun sz => c_X11_in hw  h sz) cs_X11_97_X11_in (by rw [hR]; exact rr_X11_channel_X11_in) rfl rfl (Nat.le_of_ble_eq_true rfl) dX11_channel_31) ?_
        intro r7 m8 ⟨hm8, h⟩
        rw [hm8]
        refine gw_if_ne (tgt := 39) hC dX11_channel_34 (by decide) (fun hc => ?_) (fun hc => ?_)
        · have h := gx_f h hc
          refine gw_aload_n hC dX11_channel_39 rfl 0 rfl ?_
          refine gw_get hC cl_X11 fg_X11_7 (hw.lt (by decide)) (gd_0 hw _) (gv_X11_0 _ _ _) dX11_channel_40 ?_
          refine gw_bipush (v := 10) hC dX11_channel_43 (by decide) ?_
          refine gw_iload_n hC dX11_channel_45 rfl 1 rfl ?_
          refine gw_iadd hC dX11_channel_46 ?_
          refine gw_iload_n hC dX11_channel_47 rfl 2 rfl ?_
          obtain ⟨hi, h⟩ := h
          refine gw_iast hC (hw.lt (by decide)) (gd_1 hw) (gu_0 hw) hi dX11_channel_48 ?_
          refine gw_nmM (fun M9 hM9 => ?_)
          have h := h M9 hM9
          refine gw_aload_n hC dX11_channel_49 rfl 0 rfl ?_
          refine gw_get hC cl_X11 fg_X11_7 (hw.lt (by decide)) (gd_0 hw _) (gv_X11_0 _ _ _) dX11_channel_50 ?_
          refine gw_bipush (v := 12) hC dX11_channel_53 (by decide) ?_
          refine gw_iload_n hC dX11_channel_55 rfl 1 rfl ?_
          refine gw_iadd hC dX11_channel_56 ?_
          refine gw_iload_n hC dX11_channel_57 rfl 3 rfl ?_
          obtain ⟨hi, h⟩ := h
          refine gw_iast hC (hw.lt (by decide)) (gd_1 hw) (gu_0 hw) hi dX11_channel_58 ?_
          refine gw_nmM (fun M10 hM10 => ?_)
          have h := h M10 hM10
          refine gw_aload_n hC dX11_channel_59 rfl 0 rfl ?_
          refine gw_get hC cl_X11 fg_X11_7 (hw.lt (by decide)) (gd_0 hw _) (gv_X11_0 _ _ _) dX11_channel_60 ?_
          refine gw_bipush (v := 14) hC dX11_channel_63 (by decide) ?_
          refine gw_iload_n hC dX11_channel_65 rfl 1 rfl ?_
          refine gw_iadd hC dX11_channel_66 ?_
          refine gw_iload hC dX11_channel_67 4 rfl ?_
          obtain ⟨hi, h⟩ := h
          refine gw_iast hC (hw.lt (by decide)) (gd_1 hw) (gu_0 hw) hi dX11_channel_69 ?_
          refine gw_nmM (fun M11 hM11 => ?_)
          have h := h M11 hM11
          refine gw_iconst (v := 1) hC dX11_channel_70 (by decide) ?_
          exact gw_zret hC hr rfl dX11_channel_71 h
        · have h := gx_t h hc
          refine gw_iconst (v := 0) hC dX11_channel_37 (by decide) ?_
          exact gw_zret hC hr rfl dX11_channel_38 h
theorem c_X11_channel {l : Launch} {d : gx_D} {w : gx_V} {ca : Nat → ClassId} (hw : gx_isR ca w)   {M : gx_M} {v1 : Int32} {v2 : Int32} {v3 : Int32} {v4 : Int32} {Q : Int32 → gx_M → Prop} (h : T_X11_channel M v1 v2 v3 v4 Q) : gx_Mi l d w yX11_channel cX11_channel 5 .boolean rm_X11_channel [.ref (gx_ad w 0), .int v1, .int v2, .int v3, .int v4] M Q := fun sz =>
  gx_of (own := RX11) (by decide +kernel) rfl (Nat.le_of_ble_eq_true rfl) (fun z hC hl hR hsz hr => by subst hsz; exact J_X11_channel hC hw hR hr  h) rfl
set_option maxRecDepth 20000 in
theorem J_X11_laysOut_4 {z : gx_X} {d : gx_D} {w : gx_V} {ca : Nat → ClassId} (hC : gx_C z d w cX11_laysOut 5 RX11) (hw : gx_isR ca w) (hR : gx_R z = rm_X11_laysOut) (hr : (gx_me z).sig.returnType = none)  {Q : gx_M → Prop}   : ∀ (n : Nat) (M : gx_M) (v1 : Int32) (v2 : Int32) (v3 : Int32) , T_X11_laysOut_4 Q  n M v1 v2 v3 → GW z w 5 (gx_Qv w Q (gx_s z).heap.size) M 4 [(0, .ref (gx_ad w 0)), (1, .int v1), (2, .int v2), (3, .int v3)] [] := by
  intro n
  induction n with
  | zero =>
    intro M v1 v2 v3 h
    exact h.elim
  | succ n ih =>
    intro M v1 v2 v3 h
    rw [T_X11_laysOut_4] at h
    refine gw_iload_n hC dX11_laysOut_4 rfl 3 rfl ?_
    refine gw_sipush (v := 2000) hC dX11_laysOut_5 (by decide) ?_
    refine gw_icmp_ge (tgt := 86) hC dX11_laysOut_8 (by decide) (fun hc => ?_) (fun hc => ?_)
    · have h := gx_t h hc
      exact gw_vret hC hr dX11_laysOut_86 h
    · have h := gx_f h hc
      refine gw_aload_n hC dX11_laysOut_11 rfl 0 rfl ?_
      refine gw_aload_n hC dX11_laysOut_12 rfl 0 rfl ?_
      refine gw_get hC cl_X11 fg_X11_7 (hw.lt (by decide)) (gd_0 hw _) (gv_X11_0 _ _ _) dX11_laysOut_13 ?_
      refine gw_bipush (v := 10) hC dX11_laysOut_16 (by decide) ?_
      refine gw_iload_n hC dX11_laysOut_18 rfl 1 rfl ?_
      refine gw_iadd hC dX11_laysOut_19 ?_
      obtain ⟨hi, h⟩ := h
      refine gw_iald hC (hw.lt (by decide)) (gd_1 hw _) (gu_0 hw) hi dX11_laysOut_20 ?_
      refine gw_iload_n hC dX11_laysOut_21 rfl 3 rfl ?_
      refine gw_calli (gx_rV hC (n := 2) (As := [.int (M 1 (10 + v1).toNatClampNeg), .int v3]) (rest := []) (fun sz => c_X11_rawAt hw  h sz) cv_X11_111_X11_rawAt (by rw [hR]; exact rr_X11_laysOut_X11_rawAt) ⟨(hw.lt (by decide)), _, _, _, _, gd_0 hw _, cl_X11.1⟩ rfl rfl (Nat.le_of_ble_eq_true rfl) dX11_laysOut_22) ?_
      intro r1 m2 ⟨hm2, h⟩
      rw [hm2]
      refine gw_aload_n hC dX11_laysOut_25 rfl 0 rfl ?_
      refine gw_get hC cl_X11 fg_X11_7 (hw.lt (by decide)) (gd_0 hw _) (gv_X11_0 _ _ _) dX11_laysOut_26 ?_
      refine gw_bipush (v := 16) hC dX11_laysOut_29 (by decide) ?_
      refine gw_iload_n hC dX11_laysOut_31 rfl 1 rfl ?_
      refine gw_iadd hC dX11_laysOut_32 ?_
      obtain ⟨hi, h⟩ := h
      refine gw_iald hC (hw.lt (by decide)) (gd_1 hw _) (gu_0 hw) hi dX11_laysOut_33 ?_
      refine gw_imul hC dX11_laysOut_34 ?_
      refine gw_aload_n hC dX11_laysOut_35 rfl 0 rfl ?_
      refine gw_get hC cl_X11 fg_X11_7 (hw.lt (by decide)) (gd_0 hw _) (gv_X11_0 _ _ _) dX11_laysOut_36 ?_
      refine gw_bipush (v := 18) hC dX11_laysOut_39 (by decide) ?_
      refine gw_iload_n hC dX11_laysOut_41 rfl 1 rfl ?_
      refine gw_iadd hC dX11_laysOut_42 ?_
      obtain ⟨hi, h⟩ := h
      refine gw_iald hC (hw.lt (by decide)) (gd_1 hw _) (gu_0 hw) hi dX11_laysOut_43 ?_
      obtain ⟨hz, h⟩ := h
      refine gw_idiv hC dX11_laysOut_44 hz ?_
      refine gw_nm (fun x3 hx3 => ?_)
      have h := h x3 hx3
      refine gw_istore (lv' := [(4, .int x3), (0, .ref (gx_ad w 0)), (1, .int v1), (2, .int v2), (3, .int v3)]) hC dX11_laysOut_45 (by decide) rfl ?_
      refine gw_iload_n hC dX11_laysOut_47 rfl 3 rfl ?_
      refine gw_iload hC dX11_laysOut_48 0 rfl ?_
      refine gw_iload_n hC dX11_laysOut_50 rfl 3 rfl ?_
      refine gw_isub hC dX11_laysOut_51 ?_
      refine gw_aload_n hC dX11_laysOut_52 rfl 1 rfl ?_
      refine gw_get hC cl_X11 fg_X11_7 (hw.lt (by decide)) (gd_0 hw _) (gv_X11_0 _ _ _) dX11_laysOut_53 ?_
      refine gw_bipush (v := 20) hC dX11_laysOut_56 (by decide) ?_
      refine gw_iload_n hC dX11_laysOut_58 rfl 2 rfl ?_
      refine gw_iadd hC dX11_laysOut_59 ?_
      obtain ⟨hi, h⟩ := h
      refine gw_iald hC (hw.lt (by decide)) (gd_1 hw _) (gu_0 hw) hi dX11_laysOut_60 ?_
      refine gw_imul hC dX11_laysOut_61 ?_
      refine gw_bipush (v := 16) hC dX11_laysOut_62 (by decide) ?_
      refine gw_idiv hC dX11_laysOut_64 (by decide) ?_
      refine gw_iadd hC dX11_laysOut_65 ?_
      refine gw_nm (fun x4 hx4 => ?_)
      have h := h x4 hx4
      refine gw_istore_n (lv' := [(2, .int x4), (4, .int x3), (0, .ref (gx_ad w 0)), (1, .int v1), (3, .int v3)]) hC dX11_laysOut_66 rfl (by decide) rfl ?_
      refine gw_aload_n hC dX11_laysOut_67 rfl 2 rfl ?_
      refine gw_get hC cl_X11 fg_X11_42 (hw.lt (by decide)) (gd_0 hw _) (gv_X11_11 _ _ _) dX11_laysOut_68 ?_
      refine gw_sipush (v := 2000) hC dX11_laysOut_71 (by decide) ?_
      refine gw_iload_n hC dX11_laysOut_74 rfl 3 rfl ?_
      refine gw_imul hC dX11_laysOut_75 ?_
      refine gw_iload_n hC dX11_laysOut_76 rfl 4 rfl ?_
      refine gw_iadd hC dX11_laysOut_77 ?_
      refine gw_iload_n hC dX11_laysOut_78 rfl 0 rfl ?_
      obtain ⟨hi, h⟩ := h
      refine gw_iast hC (hw.lt (by decide)) (gd_9 hw) (gu_0 hw) hi dX11_laysOut_79 ?_
      refine gw_nmM (fun M5 hM5 => ?_)
      have h := h M5 hM5
      obtain ⟨x6, hx6⟩ : ∃ y : Int32, y = v3 + 1 := ⟨_, rfl⟩
      have h := h x6 hx6
      refine gw_iinc (v := x6) (lv' := [(3, .int x6), (2, .int x4), (4, .int x3), (0, .ref (gx_ad w 0)), (1, .int v1)]) hC dX11_laysOut_80 (k := 4) rfl (by rw [hx6]; rfl) (by decide) rfl ?_
      refine gw_goto (tgt := 4) hC dX11_laysOut_83 (by decide) ?_
      refine gw_sub (lv' := [(0, .ref (gx_ad w 0)), (1, .int v1), (2, .int x4), (3, .int x6)]) [3, 4, 1, 0] rfl ?_
      exact ih M5 v1 x4 x6 h
set_option maxRecDepth 20000 in
theorem J_X11_laysOut {z : gx_X} {d : gx_D} {w : gx_V} {ca : Nat → ClassId} (hC : gx_C z d w cX11_laysOut 5 RX11) (hw : gx_isR ca w) (hR : gx_R z = rm_X11_laysOut) (hr : (gx_me z).sig.returnType = none)   {M : gx_M} {v1 : Int32} {Q : gx_M → Prop} (h : T_X11_laysOut M v1 Q) : GW z w 5 (gx_Qv w Q (gx_s z).heap.size) M 0 [(0, .ref (gx_ad w 0)), (1, .int v1)] [] := by
  unfold T_X11_laysOut at h
  refine gw_iconst (v := 0) hC dX11_laysOut_0 (by decide) ?_
  refine gw_istore_n (lv' := [(2, .int 0), (0, .ref (gx_ad w 0)), (1, .int v1)]) hC dX11_laysOut_1 rfl (by decide) rfl ?_
  refine gw_iconst (v := 0) hC dX11_laysOut_2 (by decide) ?_
  refine gw_istore_n (lv' := [(3, .int 0), (2, .int 0), (0, .ref (gx_ad w 0)), (1, .int v1)]) hC dX11_laysOut_3 rfl (by decide) rfl ?_
  obtain ⟨k7, h⟩ := h
  refine gw_sub (lv' := [(0, .ref (gx_ad w 0)), (1, .int v1), (2, .int 0), (3, .int 0)]) [2, 3, 1, 0] rfl ?_
  exact J_X11_laysOut_4 hC hw hR hr  k7 M v1 0 0 h
theorem c_X11_laysOut {l : Launch} {d : gx_D} {w : gx_V} {ca : Nat → ClassId} (hw : gx_isR ca w)   {M : gx_M} {v1 : Int32} {Q : gx_M → Prop} (h : T_X11_laysOut M v1 Q) : gx_Mv l d w yX11_laysOut cX11_laysOut 5 rm_X11_laysOut [.ref (gx_ad w 0), .int v1] M Q := fun sz =>
  gx_of (own := RX11) (by decide +kernel) rfl (Nat.le_of_ble_eq_true rfl) (fun z hC hl hR hsz hr => by subst hsz; exact J_X11_laysOut hC hw hR hr  h) rfl
set_option maxRecDepth 20000 in
theorem J_X11_laysBoth {z : gx_X} {d : gx_D} {w : gx_V} {ca : Nat → ClassId} (hC : gx_C z d w cX11_laysBoth 1 RX11) (hw : gx_isR ca w) (hR : gx_R z = rm_X11_laysBoth) (hr : (gx_me z).sig.returnType = none)   {M : gx_M}  {Q : gx_M → Prop} (h : T_X11_laysBoth M  Q) : GW z w 1 (gx_Qv w Q (gx_s z).heap.size) M 0 [(0, .ref (gx_ad w 0))] [] := by
  unfold T_X11_laysBoth at h
  refine gw_aload_n hC dX11_laysBoth_0 rfl 0 rfl ?_
  refine gw_iconst (v := 0) hC dX11_laysBoth_1 (by decide) ?_
  refine gw_callv (gx_rV hC (n := 1) (As := [.int 0]) (rest := []) (fun sz => c_X11_laysOut hw  h sz) cv_X11_118_X11_laysOut (by rw [hR]; exact rr_X11_laysBoth_X11_laysOut) ⟨(hw.lt (by decide)), _, _, _, _, gd_0 hw _, cl_X11.1⟩ rfl rfl (Nat.le_of_ble_eq_true rfl) dX11_laysBoth_2) ?_
  intro M1 h
  refine gw_aload_n hC dX11_laysBoth_5 rfl 0 rfl ?_
  refine gw_iconst (v := 1) hC dX11_laysBoth_6 (by decide) ?_
  refine gw_callv (gx_rV hC (n := 1) (As := [.int 1]) (rest := []) (fun sz => c_X11_laysOut hw  h sz) cv_X11_118_X11_laysOut (by rw [hR]; exact rr_X11_laysBoth_X11_laysOut) ⟨(hw.lt (by decide)), _, _, _, _, gd_0 hw _, cl_X11.1⟩ rfl rfl (Nat.le_of_ble_eq_true rfl) dX11_laysBoth_7) ?_
  intro M2 h
  exact gw_vret hC hr dX11_laysBoth_10 h
theorem c_X11_laysBoth {l : Launch} {d : gx_D} {w : gx_V} {ca : Nat → ClassId} (hw : gx_isR ca w)   {M : gx_M}  {Q : gx_M → Prop} (h : T_X11_laysBoth M  Q) : gx_Mv l d w yX11_laysBoth cX11_laysBoth 1 rm_X11_laysBoth [.ref (gx_ad w 0)] M Q := fun sz =>
  gx_of (own := RX11) (by decide +kernel) rfl (Nat.le_of_ble_eq_true rfl) (fun z hC hl hR hsz hr => by subst hsz; exact J_X11_laysBoth hC hw hR hr  h) rfl
set_option maxRecDepth 20000 in
theorem J_X11_out {z : gx_X} {d : gx_D} {w : gx_V} {ca : Nat → ClassId} (hC : gx_C z d w cX11_out 3 RX11) (hw : gx_isR ca w) (hR : gx_R z = rm_X11_out) (hr : (gx_me z).sig.returnType = (some .int))   {M : gx_M} {v1 : Int32} {v2 : Int32} {Q : Int32 → gx_M → Prop} (h : T_X11_out M v1 v2 Q) : GW z w 3 (gx_Qi w Q (gx_s z).heap.size) M 0 [(0, .ref (gx_ad w 0)), (1, .int v1), (2, .int v2)] [] := by
  unfold T_X11_out at h
  refine gw_iload_n hC dX11_out_0 rfl 1 rfl ?_
  refine gw_calli (gx_rS hC (n := 1) (As := [.int v1]) (rest := []) (fun sz => c_X11_isChannel hw  h sz) cs_X11_115_X11_isChannel (by rw [hR]; exact rr_X11_out_X11_isChannel) rfl rfl (Nat.le_of_ble_eq_true rfl) dX11_out_1) ?_
  intro r1 m2 ⟨hm2, h⟩
  rw [hm2]
  refine gw_if_eq (tgt := 18) hC dX11_out_4 (by decide) (fun hc => ?_) (fun hc => ?_)
  · have h := gx_t h hc
    refine gw_ldc hC kc_X11_114 dX11_out_18 ?_
    exact gw_iret hC hr dX11_out_20 h
  · have h := gx_f h hc
    refine gw_iload_n hC dX11_out_7 rfl 2 rfl ?_
    refine gw_iconst (v := 0) hC dX11_out_8 (by decide) ?_
    refine gw_sipush (v := 1999) hC dX11_out_9 (by decide) ?_
    refine gw_calli (gx_rS hC (n := 3) (As := [.int v2, .int 0, .int 1999]) (rest := []) (fun sz => c_X11_in hw  h sz) cs_X11_97_X11_in (by rw [hR]; exact rr_X11_out_X11_in) rfl rfl (Nat.le_of_ble_eq_true rfl) dX11_out_12) ?_
    intro r3 m4 ⟨hm4, h⟩
    rw [hm4]
    refine gw_if_ne (tgt := 21) hC dX11_out_15 (by decide) (fun hc => ?_) (fun hc => ?_)
    · have h := gx_f h hc
      refine gw_aload_n hC dX11_out_21 rfl 0 rfl ?_
      refine gw_iload_n hC dX11_out_22 rfl 1 rfl ?_
      refine gw_callv (gx_rV hC (n := 1) (As := [.int v1]) (rest := []) (fun sz => c_X11_laysOut hw  h sz) cv_X11_118_X11_laysOut (by rw [hR]; exact rr_X11_out_X11_laysOut) ⟨(hw.lt (by decide)), _, _, _, _, gd_0 hw _, cl_X11.1⟩ rfl rfl (Nat.le_of_ble_eq_true rfl) dX11_out_23) ?_
      intro M5 h
      refine gw_aload_n hC dX11_out_26 rfl 0 rfl ?_
      refine gw_get hC cl_X11 fg_X11_42 (hw.lt (by decide)) (gd_0 hw _) (gv_X11_11 _ _ _) dX11_out_27 ?_
      refine gw_sipush (v := 2000) hC dX11_out_30 (by decide) ?_
      refine gw_iload_n hC dX11_out_33 rfl 1 rfl ?_
      refine gw_imul hC dX11_out_34 ?_
      refine gw_iload_n hC dX11_out_35 rfl 2 rfl ?_
      refine gw_iadd hC dX11_out_36 ?_
      obtain ⟨hi, h⟩ := h
      refine gw_iald hC (hw.lt (by decide)) (gd_9 hw _) (gu_0 hw) hi dX11_out_37 ?_
      exact gw_iret hC hr dX11_out_38 h
    · have h := gx_t h hc
      refine gw_ldc hC kc_X11_114 dX11_out_18 ?_
      exact gw_iret hC hr dX11_out_20 h
theorem c_X11_out {l : Launch} {d : gx_D} {w : gx_V} {ca : Nat → ClassId} (hw : gx_isR ca w)   {M : gx_M} {v1 : Int32} {v2 : Int32} {Q : Int32 → gx_M → Prop} (h : T_X11_out M v1 v2 Q) : gx_Mi l d w yX11_out cX11_out 3 .int rm_X11_out [.ref (gx_ad w 0), .int v1, .int v2] M Q := fun sz =>
  gx_of (own := RX11) (by decide +kernel) rfl (Nat.le_of_ble_eq_true rfl) (fun z hC hl hR hsz hr => by subst hsz; exact J_X11_out hC hw hR hr  h) rfl
set_option maxRecDepth 20000 in
theorem J_X11_base {z : gx_X} {d : gx_D} {w : gx_V} {ca : Nat → ClassId} (hC : gx_C z d w cX11_base 4 RX11) (hw : gx_isR ca w) (hR : gx_R z = rm_X11_base) (hr : (gx_me z).sig.returnType = (some .boolean))   {M : gx_M} {v1 : Int32} {v2 : Int32} {v3 : Int32} {Q : Int32 → gx_M → Prop} (h : T_X11_base M v1 v2 v3 Q) : GW z w 4 (gx_Qi w Q (gx_s z).heap.size) M 0 [(0, .ref (gx_ad w 0)), (1, .int v1), (2, .int v2), (3, .int v3)] [] := by
  unfold T_X11_base at h
  refine gw_iload_n hC dX11_base_0 rfl 1 rfl ?_
  refine gw_iconst (v := 1) hC dX11_base_1 (by decide) ?_
  refine gw_bipush (v := 50) hC dX11_base_2 (by decide) ?_
  refine gw_calli (gx_rS hC (n := 3) (As := [.int v1, .int 1, .int 50]) (rest := []) (fun sz => c_X11_in hw  h sz) cs_X11_97_X11_in (by rw [hR]; exact rr_X11_base_X11_in) rfl rfl (Nat.le_of_ble_eq_true rfl) dX11_base_4) ?_
  intro r1 m2 ⟨hm2, h⟩
  rw [hm2]
  refine gw_if_eq (tgt := 31) hC dX11_base_7 (by decide) (fun hc => ?_) (fun hc => ?_)
  · have h := gx_t h hc
    refine gw_iconst (v := 0) hC dX11_base_31 (by decide) ?_
    exact gw_zret hC hr rfl dX11_base_32 h
  · have h := gx_f h hc
    refine gw_iload_n hC dX11_base_10 rfl 2 rfl ?_
    refine gw_iconst (v := 0) hC dX11_base_11 (by decide) ?_
    refine gw_sipush (v := 999) hC dX11_base_12 (by decide) ?_
    refine gw_calli (gx_rS hC (n := 3) (As := [.int v2, .int 0, .int 999]) (rest := []) (fun sz => c_X11_in hw  h sz) cs_X11_97_X11_in (by rw [hR]; exact rr_X11_base_X11_in) rfl rfl (Nat.le_of_ble_eq_true rfl) dX11_base_15) ?_
    intro r3 m4 ⟨hm4, h⟩
    rw [hm4]
    refine gw_if_eq (tgt := 31) hC dX11_base_18 (by decide) (fun hc => ?_) (fun hc => ?_)
    · have h := gx_t h hc
      refine gw_iconst (v := 0) hC dX11_base_31 (by decide) ?_
      exact gw_zret hC hr rfl dX11_base_32 h
    · have h := gx_f h hc
      refine gw_iload_n hC dX11_base_21 rfl 3 rfl ?_
      refine gw_iconst (v := 0) hC dX11_base_22 (by decide) ?_
      refine gw_bipush (v := 16) hC dX11_base_23 (by decide) ?_
      refine gw_calli (gx_rS hC (n := 3) (As := [.int v3, .int 0, .int 16]) (rest := []) (fun sz => c_X11_in hw  h sz) cs_X11_97_X11_in (by rw [hR]; exact rr_X11_base_X11_in) rfl rfl (Nat.le_of_ble_eq_true rfl) dX11_base_25) ?_
      intro r5 m6 ⟨hm6, h⟩
      rw [hm6]
      refine gw_if_ne (tgt := 33) hC dX11_base_28 (by decide) (fun hc => ?_) (fun hc => ?_)
      · have h := gx_f h hc
        refine gw_aload_n hC dX11_base_33 rfl 0 rfl ?_
        refine gw_get hC cl_X11 fg_X11_7 (hw.lt (by decide)) (gd_0 hw _) (gv_X11_0 _ _ _) dX11_base_34 ?_
        refine gw_iconst (v := 2) hC dX11_base_37 (by decide) ?_
        refine gw_iload_n hC dX11_base_38 rfl 1 rfl ?_
        obtain ⟨hi, h⟩ := h
        refine gw_iast hC (hw.lt (by decide)) (gd_1 hw) (gu_0 hw) hi dX11_base_39 ?_
        refine gw_nmM (fun M7 hM7 => ?_)
        have h := h M7 hM7
        refine gw_aload_n hC dX11_base_40 rfl 0 rfl ?_
        refine gw_get hC cl_X11 fg_X11_7 (hw.lt (by decide)) (gd_0 hw _) (gv_X11_0 _ _ _) dX11_base_41 ?_
        refine gw_iconst (v := 3) hC dX11_base_44 (by decide) ?_
        refine gw_iload_n hC dX11_base_45 rfl 2 rfl ?_
        obtain ⟨hi, h⟩ := h
        refine gw_iast hC (hw.lt (by decide)) (gd_1 hw) (gu_0 hw) hi dX11_base_46 ?_
        refine gw_nmM (fun M8 hM8 => ?_)
        have h := h M8 hM8
        refine gw_aload_n hC dX11_base_47 rfl 0 rfl ?_
        refine gw_get hC cl_X11 fg_X11_7 (hw.lt (by decide)) (gd_0 hw _) (gv_X11_0 _ _ _) dX11_base_48 ?_
        refine gw_iconst (v := 4) hC dX11_base_51 (by decide) ?_
        refine gw_iload_n hC dX11_base_52 rfl 3 rfl ?_
        obtain ⟨hi, h⟩ := h
        refine gw_iast hC (hw.lt (by decide)) (gd_1 hw) (gu_0 hw) hi dX11_base_53 ?_
        refine gw_nmM (fun M9 hM9 => ?_)
        have h := h M9 hM9
        refine gw_iconst (v := 1) hC dX11_base_54 (by decide) ?_
        exact gw_zret hC hr rfl dX11_base_55 h
      · have h := gx_t h hc
        refine gw_iconst (v := 0) hC dX11_base_31 (by decide) ?_
        exact gw_zret hC hr rfl dX11_base_32 h
theorem c_X11_base {l : Launch} {d : gx_D} {w : gx_V} {ca : Nat → ClassId} (hw : gx_isR ca w)   {M : gx_M} {v1 : Int32} {v2 : Int32} {v3 : Int32} {Q : Int32 → gx_M → Prop} (h : T_X11_base M v1 v2 v3 Q) : gx_Mi l d w yX11_base cX11_base 4 .boolean rm_X11_base [.ref (gx_ad w 0), .int v1, .int v2, .int v3] M Q := fun sz =>
  gx_of (own := RX11) (by decide +kernel) rfl (Nat.le_of_ble_eq_true rfl) (fun z hC hl hR hsz hr => by subst hsz; exact J_X11_base hC hw hR hr  h) rfl
set_option maxRecDepth 20000 in
theorem J_X11_mode {z : gx_X} {d : gx_D} {w : gx_V} {ca : Nat → ClassId} (hC : gx_C z d w cX11_mode 3 RX11) (hw : gx_isR ca w) (hR : gx_R z = rm_X11_mode) (hr : (gx_me z).sig.returnType = (some .boolean))   {M : gx_M} {v1 : Int32} {v2 : Int32} {Q : Int32 → gx_M → Prop} (h : T_X11_mode M v1 v2 Q) : GW z w 3 (gx_Qi w Q (gx_s z).heap.size) M 0 [(0, .ref (gx_ad w 0)), (1, .int v1), (2, .int v2)] [] := by
  unfold T_X11_mode at h
  refine gw_iload_n hC dX11_mode_0 rfl 1 rfl ?_
  refine gw_iconst (v := 0) hC dX11_mode_1 (by decide) ?_
  refine gw_iconst (v := 3) hC dX11_mode_2 (by decide) ?_
  refine gw_calli (gx_rS hC (n := 3) (As := [.int v1, .int 0, .int 3]) (rest := []) (fun sz => c_X11_in hw  h sz) cs_X11_97_X11_in (by rw [hR]; exact rr_X11_mode_X11_in) rfl rfl (Nat.le_of_ble_eq_true rfl) dX11_mode_3) ?_
  intro r1 m2 ⟨hm2, h⟩
  rw [hm2]
  refine gw_if_eq (tgt := 19) hC dX11_mode_6 (by decide) (fun hc => ?_) (fun hc => ?_)
  · have h := gx_t h hc
    refine gw_iconst (v := 0) hC dX11_mode_19 (by decide) ?_
    exact gw_zret hC hr rfl dX11_mode_20 h
  · have h := gx_f h hc
    refine gw_iload_n hC dX11_mode_9 rfl 2 rfl ?_
    refine gw_iconst (v := 1) hC dX11_mode_10 (by decide) ?_
    refine gw_bipush (v := 50) hC dX11_mode_11 (by decide) ?_
    refine gw_calli (gx_rS hC (n := 3) (As := [.int v2, .int 1, .int 50]) (rest := []) (fun sz => c_X11_in hw  h sz) cs_X11_97_X11_in (by rw [hR]; exact rr_X11_mode_X11_in) rfl rfl (Nat.le_of_ble_eq_true rfl) dX11_mode_13) ?_
    intro r3 m4 ⟨hm4, h⟩
    rw [hm4]
    refine gw_if_ne (tgt := 21) hC dX11_mode_16 (by decide) (fun hc => ?_) (fun hc => ?_)
    · have h := gx_f h hc
      refine gw_aload_n hC dX11_mode_21 rfl 0 rfl ?_
      refine gw_get hC cl_X11 fg_X11_7 (hw.lt (by decide)) (gd_0 hw _) (gv_X11_0 _ _ _) dX11_mode_22 ?_
      refine gw_iconst (v := 5) hC dX11_mode_25 (by decide) ?_
      refine gw_iload_n hC dX11_mode_26 rfl 1 rfl ?_
      obtain ⟨hi, h⟩ := h
      refine gw_iast hC (hw.lt (by decide)) (gd_1 hw) (gu_0 hw) hi dX11_mode_27 ?_
      refine gw_nmM (fun M5 hM5 => ?_)
      have h := h M5 hM5
      refine gw_aload_n hC dX11_mode_28 rfl 0 rfl ?_
      refine gw_get hC cl_X11 fg_X11_7 (hw.lt (by decide)) (gd_0 hw _) (gv_X11_0 _ _ _) dX11_mode_29 ?_
      refine gw_bipush (v := 6) hC dX11_mode_32 (by decide) ?_
      refine gw_iload_n hC dX11_mode_34 rfl 2 rfl ?_
      obtain ⟨hi, h⟩ := h
      refine gw_iast hC (hw.lt (by decide)) (gd_1 hw) (gu_0 hw) hi dX11_mode_35 ?_
      refine gw_nmM (fun M6 hM6 => ?_)
      have h := h M6 hM6
      refine gw_iconst (v := 1) hC dX11_mode_36 (by decide) ?_
      exact gw_zret hC hr rfl dX11_mode_37 h
    · have h := gx_t h hc
      refine gw_iconst (v := 0) hC dX11_mode_19 (by decide) ?_
      exact gw_zret hC hr rfl dX11_mode_20 h
theorem c_X11_mode {l : Launch} {d : gx_D} {w : gx_V} {ca : Nat → ClassId} (hw : gx_isR ca w)   {M : gx_M} {v1 : Int32} {v2 : Int32} {Q : Int32 → gx_M → Prop} (h : T_X11_mode M v1 v2 Q) : gx_Mi l d w yX11_mode cX11_mode 3 .boolean rm_X11_mode [.ref (gx_ad w 0), .int v1, .int v2] M Q := fun sz =>
  gx_of (own := RX11) (by decide +kernel) rfl (Nat.le_of_ble_eq_true rfl) (fun z hC hl hR hsz hr => by subst hsz; exact J_X11_mode hC hw hR hr  h) rfl
set_option maxRecDepth 20000 in
theorem J_X11_put_3 {z : gx_X} {d : gx_D} {w : gx_V} {ca : Nat → ClassId} (hC : gx_C z d w cX11_put 3 RX11) (hw : gx_isR ca w) (hR : gx_R z = rm_X11_put) (hr : (gx_me z).sig.returnType = none)  {Q : gx_M → Prop}   : ∀ (n : Nat) (M : gx_M) (v1 : Int32) (v2 : Int32) , T_X11_put_3 Q  n M v1 v2 → GW z w 3 (gx_Qv w Q (gx_s z).heap.size) M 3 [(0, .ref (gx_ad w 0)), (1, .int v1), (2, .int v2)] [] := by
  intro n
  induction n with
  | zero =>
    intro M v1 v2 h
    exact h.elim
  | succ n ih =>
    intro M v1 v2 h
    rw [T_X11_put_3] at h
    refine gw_iload_n hC dX11_put_3 rfl 2 rfl ?_
    refine gw_if_lt (tgt := 38) hC dX11_put_4 (by decide) (fun hc => ?_) (fun hc => ?_)
    · have h := gx_t h hc
      exact gw_vret hC hr dX11_put_38 h
    · have h := gx_f h hc
      refine gw_aload_n hC dX11_put_7 rfl 0 rfl ?_
      refine gw_get hC cl_X11 fg_X11_16 (hw.lt (by decide)) (gd_0 hw _) (gv_X11_2 _ _ _) dX11_put_8 ?_
      refine gw_aload_n hC dX11_put_11 rfl 0 rfl ?_
      refine gw_get hC cl_X11 fg_X11_122 (hw.lt (by decide)) (gd_0 hw _) (gv_X11_3 _ _ _) dX11_put_12 ?_
      refine gw_iload_n hC dX11_put_15 rfl 1 rfl ?_
      refine gw_iload_n hC dX11_put_16 rfl 2 rfl ?_
      refine gw_ishr hC dX11_put_17 ?_
      refine gw_i2b hC dX11_put_18 rfl ?_
      obtain ⟨hi, h⟩ := h
      refine gw_bast hC (hw.lt (by decide)) (gd_3 hw) (gu_6 hw) hi dX11_put_19 ?_
      refine gw_nmM (fun M1 hM1 => ?_)
      have h := h M1 hM1
      refine gw_aload_n hC dX11_put_20 rfl 0 rfl ?_
      refine gw_dup hC dX11_put_21 rfl ?_
      refine gw_get hC cl_X11 fg_X11_122 (hw.lt (by decide)) (gd_0 hw _) (gv_X11_3 _ _ _) dX11_put_22 ?_
      refine gw_iconst (v := 1) hC dX11_put_25 (by decide) ?_
      refine gw_iadd hC dX11_put_26 ?_
      refine gw_put hC cl_X11 fp_X11_122 (hw.lt (by decide)) (gd_0 hw _) ((gd_0 hw _).trans (gs_X11_3 _ _ _ _)) rfl rfl (by simp [fs_X11]) dX11_put_27 ?_
      refine gw_nmM (fun M2 hM2 => ?_)
      have h := h M2 hM2
      refine gw_iload_n hC dX11_put_30 rfl 2 rfl ?_
      refine gw_bipush (v := 8) hC dX11_put_31 (by decide) ?_
      refine gw_isub hC dX11_put_33 ?_
      refine gw_nm (fun x3 hx3 => ?_)
      have h := h x3 hx3
      refine gw_istore_n (lv' := [(2, .int x3), (0, .ref (gx_ad w 0)), (1, .int v1)]) hC dX11_put_34 rfl (by decide) rfl ?_
      refine gw_goto (tgt := 3) hC dX11_put_35 (by decide) ?_
      refine gw_sub (lv' := [(0, .ref (gx_ad w 0)), (1, .int v1), (2, .int x3)]) [1, 2, 0] rfl ?_
      exact ih M2 v1 x3 h
set_option maxRecDepth 20000 in
theorem J_X11_put {z : gx_X} {d : gx_D} {w : gx_V} {ca : Nat → ClassId} (hC : gx_C z d w cX11_put 3 RX11) (hw : gx_isR ca w) (hR : gx_R z = rm_X11_put) (hr : (gx_me z).sig.returnType = none)   {M : gx_M} {v1 : Int32} {Q : gx_M → Prop} (h : T_X11_put M v1 Q) : GW z w 3 (gx_Qv w Q (gx_s z).heap.size) M 0 [(0, .ref (gx_ad w 0)), (1, .int v1)] [] := by
  unfold T_X11_put at h
  refine gw_bipush (v := 24) hC dX11_put_0 (by decide) ?_
  refine gw_istore_n (lv' := [(2, .int 24), (0, .ref (gx_ad w 0)), (1, .int v1)]) hC dX11_put_2 rfl (by decide) rfl ?_
  obtain ⟨k4, h⟩ := h
  refine gw_sub (lv' := [(0, .ref (gx_ad w 0)), (1, .int v1), (2, .int 24)]) [1, 2, 0] rfl ?_
  exact J_X11_put_3 hC hw hR hr  k4 M v1 24 h
theorem c_X11_put {l : Launch} {d : gx_D} {w : gx_V} {ca : Nat → ClassId} (hw : gx_isR ca w)   {M : gx_M} {v1 : Int32} {Q : gx_M → Prop} (h : T_X11_put M v1 Q) : gx_Mv l d w yX11_put cX11_put 3 rm_X11_put [.ref (gx_ad w 0), .int v1] M Q := fun sz =>
  gx_of (own := RX11) (by decide +kernel) rfl (Nat.le_of_ble_eq_true rfl) (fun z hC hl hR hsz hr => by subst hsz; exact J_X11_put hC hw hR hr  h) rfl
set_option maxRecDepth 20000 in
theorem J_X11_feed {z : gx_X} {d : gx_D} {w : gx_V} {ca : Nat → ClassId} (hC : gx_C z d w cX11_feed 6 RX11) (hw : gx_isR ca w) (hR : gx_R z = rm_X11_feed) (hr : (gx_me z).sig.returnType = (some .int))   {M : gx_M} {v1 : Int32} {v2 : Int32} {v3 : Int32} {v4 : Int32} {v5 : Int32} {Q : Int32 → gx_M → Prop} (h : T_X11_feed M v1 v2 v3 v4 v5 Q) : GW z w 6 (gx_Qi w Q (gx_s z).heap.size) M 0 [(0, .ref (gx_ad w 0)), (1, .int v1), (2, .int v2), (3, .int v3), (4, .int v4), (5, .int v5)] [] := by
  unfold T_X11_feed at h
  refine gw_aload_n hC dX11_feed_0 rfl 0 rfl ?_
  refine gw_get hC cl_X11 fg_X11_122 (hw.lt (by decide)) (gd_0 hw _) (gv_X11_3 _ _ _) dX11_feed_1 ?_
  refine gw_bipush (v := 20) hC dX11_feed_4 (by decide) ?_
  refine gw_iadd hC dX11_feed_6 ?_
  refine gw_sipush (v := 300) hC dX11_feed_7 (by decide) ?_
  refine gw_icmp_le (tgt := 15) hC dX11_feed_10 (by decide) (fun hc => ?_) (fun hc => ?_)
  · have h := gx_t h hc
    refine gw_aload_n hC dX11_feed_15 rfl 0 rfl ?_
    refine gw_iload_n hC dX11_feed_16 rfl 1 rfl ?_
    refine gw_callv (gx_rV hC (n := 1) (As := [.int v1]) (rest := []) (fun sz => c_X11_put hw  h sz) cv_X11_125_X11_put (by rw [hR]; exact rr_X11_feed_X11_put) ⟨(hw.lt (by decide)), _, _, _, _, gd_0 hw _, cl_X11.1⟩ rfl rfl (Nat.le_of_ble_eq_true rfl) dX11_feed_17) ?_
    intro M1 h
    refine gw_aload_n hC dX11_feed_20 rfl 0 rfl ?_
    refine gw_iload_n hC dX11_feed_21 rfl 2 rfl ?_
    refine gw_callv (gx_rV hC (n := 1) (As := [.int v2]) (rest := []) (fun sz => c_X11_put hw  h sz) cv_X11_125_X11_put (by rw [hR]; exact rr_X11_feed_X11_put) ⟨(hw.lt (by decide)), _, _, _, _, gd_0 hw _, cl_X11.1⟩ rfl rfl (Nat.le_of_ble_eq_true rfl) dX11_feed_22) ?_
    intro M2 h
    refine gw_aload_n hC dX11_feed_25 rfl 0 rfl ?_
    refine gw_iload_n hC dX11_feed_26 rfl 3 rfl ?_
    refine gw_callv (gx_rV hC (n := 1) (As := [.int v3]) (rest := []) (fun sz => c_X11_put hw  h sz) cv_X11_125_X11_put (by rw [hR]; exact rr_X11_feed_X11_put) ⟨(hw.lt (by decide)), _, _, _, _, gd_0 hw _, cl_X11.1⟩ rfl rfl (Nat.le_of_ble_eq_true rfl) dX11_feed_27) ?_
    intro M3 h
    refine gw_aload_n hC dX11_feed_30 rfl 0 rfl ?_
    refine gw_iload hC dX11_feed_31 4 rfl ?_
    refine gw_callv (gx_rV hC (n := 1) (As := [.int v4]) (rest := []) (fun sz => c_X11_put hw  h sz) cv_X11_125_X11_put (by rw [hR]; exact rr_X11_feed_X11_put) ⟨(hw.lt (by decide)), _, _, _, _, gd_0 hw _, cl_X11.1⟩ rfl rfl (Nat.le_of_ble_eq_true rfl) dX11_feed_33) ?_
    intro M4 h
    refine gw_aload_n hC dX11_feed_36 rfl 0 rfl ?_
    refine gw_iload hC dX11_feed_37 5 rfl ?_
    refine gw_callv (gx_rV hC (n := 1) (As := [.int v5]) (rest := []) (fun sz => c_X11_put hw  h sz) cv_X11_125_X11_put (by rw [hR]; exact rr_X11_feed_X11_put) ⟨(hw.lt (by decide)), _, _, _, _, gd_0 hw _, cl_X11.1⟩ rfl rfl (Nat.le_of_ble_eq_true rfl) dX11_feed_39) ?_
    intro M5 h
    refine gw_aload_n hC dX11_feed_42 rfl 0 rfl ?_
    refine gw_get hC cl_X11 fg_X11_122 (hw.lt (by decide)) (gd_0 hw _) (gv_X11_3 _ _ _) dX11_feed_43 ?_
    exact gw_iret hC hr dX11_feed_46 h
  · have h := gx_f h hc
    refine gw_iconst (v := (-1)) hC dX11_feed_13 (by decide) ?_
    exact gw_iret hC hr dX11_feed_14 h
theorem c_X11_feed {l : Launch} {d : gx_D} {w : gx_V} {ca : Nat → ClassId} (hw : gx_isR ca w)   {M : gx_M} {v1 : Int32} {v2 : Int32} {v3 : Int32} {v4 : Int32} {v5 : Int32} {Q : Int32 → gx_M → Prop} (h : T_X11_feed M v1 v2 v3 v4 v5 Q) : gx_Mi l d w yX11_feed cX11_feed 6 .int rm_X11_feed [.ref (gx_ad w 0), .int v1, .int v2, .int v3, .int v4, .int v5] M Q := fun sz =>
  gx_of (own := RX11) (by decide +kernel) rfl (Nat.le_of_ble_eq_true rfl) (fun z hC hl hR hsz hr => by subst hsz; exact J_X11_feed hC hw hR hr  h) rfl
set_option maxRecDepth 20000 in
theorem J_X11_end {z : gx_X} {d : gx_D} {w : gx_V} {ca : Nat → ClassId} (hC : gx_C z d w cX11_end 2 RX11) (hw : gx_isR ca w) (hR : gx_R z = rm_X11_end) (hr : (gx_me z).sig.returnType = (some .int))   {M : gx_M} {v1 : Int32} {Q : Int32 → gx_M → Prop} (h : T_X11_end M v1 Q) : GW z w 2 (gx_Qi w Q (gx_s z).heap.size) M 0 [(0, .ref (gx_ad w 0)), (1, .int v1)] [] := by
  unfold T_X11_end at h
  refine gw_iload_n hC dX11_end_0 rfl 1 rfl ?_
  refine gw_iconst (v := 0) hC dX11_end_1 (by decide) ?_
  refine gw_aload_n hC dX11_end_2 rfl 0 rfl ?_
  refine gw_get hC cl_X11 fg_X11_122 (hw.lt (by decide)) (gd_0 hw _) (gv_X11_3 _ _ _) dX11_end_3 ?_
  refine gw_calli (gx_rS hC (n := 3) (As := [.int v1, .int 0, .int (M 0 3)]) (rest := []) (fun sz => c_X11_in hw  h sz) cs_X11_97_X11_in (by rw [hR]; exact rr_X11_end_X11_in) rfl rfl (Nat.le_of_ble_eq_true rfl) dX11_end_6) ?_
  intro r1 m2 ⟨hm2, h⟩
  rw [hm2]
  refine gw_if_ne (tgt := 14) hC dX11_end_9 (by decide) (fun hc => ?_) (fun hc => ?_)
  · have h := gx_f h hc
    refine gw_aload_n hC dX11_end_14 rfl 0 rfl ?_
    refine gw_iload_n hC dX11_end_15 rfl 1 rfl ?_
    refine gw_put hC cl_X11 fp_X11_122 (hw.lt (by decide)) (gd_0 hw _) ((gd_0 hw _).trans (gs_X11_3 _ _ _ _)) rfl rfl (by simp [fs_X11]) dX11_end_16 ?_
    refine gw_nmM (fun M3 hM3 => ?_)
    have h := h M3 hM3
    refine gw_iload_n hC dX11_end_19 rfl 1 rfl ?_
    exact gw_iret hC hr dX11_end_20 h
  · have h := gx_t h hc
    refine gw_iconst (v := (-1)) hC dX11_end_12 (by decide) ?_
    exact gw_iret hC hr dX11_end_13 h
theorem c_X11_end {l : Launch} {d : gx_D} {w : gx_V} {ca : Nat → ClassId} (hw : gx_isR ca w)   {M : gx_M} {v1 : Int32} {Q : Int32 → gx_M → Prop} (h : T_X11_end M v1 Q) : gx_Mi l d w yX11_end cX11_end 2 .int rm_X11_end [.ref (gx_ad w 0), .int v1] M Q := fun sz =>
  gx_of (own := RX11) (by decide +kernel) rfl (Nat.le_of_ble_eq_true rfl) (fun z hC hl hR hsz hr => by subst hsz; exact J_X11_end hC hw hR hr  h) rfl
set_option maxRecDepth 20000 in
theorem J_X11_isLetter_22 {z : gx_X} {d : gx_D} {w : gx_V} {ca : Nat → ClassId} (hC : gx_C z d w cX11_isLetter 1 RX11) (hw : gx_isR ca w) (hR : gx_R z = rm_X11_isLetter) (hr : (gx_me z).sig.returnType = (some .boolean)) {M : gx_M} {Q : Int32 → Prop}     (h : T_X11_isLetter_22 M Q  ) : GW z w 1 (gx_Qi w (fun r M1 => M1 = M ∧ Q r) (gx_s z).heap.size) M 22 [] [] := by
  unfold T_X11_isLetter_22 at h
  refine gw_iconst (v := 1) hC dX11_isLetter_22 (by decide) ?_
  refine gw_goto (tgt := 27) hC dX11_isLetter_23 (by decide) ?_
  exact gw_zret hC hr rfl dX11_isLetter_27 ⟨rfl, h⟩
set_option maxRecDepth 20000 in
theorem J_X11_isLetter {z : gx_X} {d : gx_D} {w : gx_V} {ca : Nat → ClassId} (hC : gx_C z d w cX11_isLetter 1 RX11) (hw : gx_isR ca w) (hR : gx_R z = rm_X11_isLetter) (hr : (gx_me z).sig.returnType = (some .boolean))   {M : gx_M} {v0 : Int32} {Q : Int32 → Prop} (h : T_X11_isLetter M v0 Q) : GW z w 1 (gx_Qi w (fun r M1 => M1 = M ∧ Q r) (gx_s z).heap.size) M 0 [(0, .int v0)] [] := by
  unfold T_X11_isLetter at h
  refine gw_iload_n hC dX11_isLetter_0 rfl 0 rfl ?_
  refine gw_bipush (v := 97) hC dX11_isLetter_1 (by decide) ?_
  refine gw_bipush (v := 122) hC dX11_isLetter_3 (by decide) ?_
  refine gw_calli (gx_rS hC (n := 3) (As := [.int v0, .int 97, .int 122]) (rest := []) (fun sz => c_X11_in hw  h sz) cs_X11_97_X11_in (by rw [hR]; exact rr_X11_isLetter_X11_in) rfl rfl (Nat.le_of_ble_eq_true rfl) dX11_isLetter_5) ?_
  intro r1 m2 ⟨hm2, h⟩
  rw [hm2]
  refine gw_if_ne (tgt := 22) hC dX11_isLetter_8 (by decide) (fun hc => ?_) (fun hc => ?_)
  · have h := gx_f h hc
    refine gw_sub (lv' := []) [] rfl ?_
    exact J_X11_isLetter_22 hC hw hR hr   h
  · have h := gx_t h hc
    refine gw_iload_n hC dX11_isLetter_11 rfl 0 rfl ?_
    refine gw_bipush (v := 65) hC dX11_isLetter_12 (by decide) ?_
    refine gw_bipush (v := 90) hC dX11_isLetter_14 (by decide) ?_
    refine gw_calli (gx_rS hC (n := 3) (As := [.int v0, .int 65, .int 90]) (rest := []) (fun sz => c_X11_in hw  h sz) cs_X11_97_X11_in (by rw [hR]; exact rr_X11_isLetter_X11_in) rfl rfl (Nat.le_of_ble_eq_true rfl) dX11_isLetter_16) ?_
    intro r3 m4 ⟨hm4, h⟩
    rw [hm4]
    refine gw_if_eq (tgt := 26) hC dX11_isLetter_19 (by decide) (fun hc => ?_) (fun hc => ?_)
    · have h := gx_t h hc
      refine gw_iconst (v := 0) hC dX11_isLetter_26 (by decide) ?_
      exact gw_zret hC hr rfl dX11_isLetter_27 ⟨rfl, h⟩
    · have h := gx_f h hc
      refine gw_sub (lv' := []) [] rfl ?_
      exact J_X11_isLetter_22 hC hw hR hr   h
theorem c_X11_isLetter {l : Launch} {d : gx_D} {w : gx_V} {ca : Nat → ClassId} (hw : gx_isR ca w)   {M : gx_M} {v0 : Int32} {Q : Int32 → Prop} (h : T_X11_isLetter M v0 Q) : gx_Mi l d w yX11_isLetter cX11_isLetter 1 .boolean rm_X11_isLetter [.int v0] M (fun r M1 => M1 = M ∧ Q r) := fun sz =>
  gx_of (own := RX11) (by decide +kernel) rfl (Nat.le_of_ble_eq_true rfl) (fun z hC hl hR hsz hr => by subst hsz; exact J_X11_isLetter hC hw hR hr  h) rfl
set_option maxRecDepth 20000 in
theorem J_X11_wordOf {z : gx_X} {d : gx_D} {w : gx_V} {ca : Nat → ClassId} (hC : gx_C z d w cX11_wordOf 2 RX11) (hw : gx_isR ca w) (hR : gx_R z = rm_X11_wordOf) (hr : (gx_me z).sig.returnType = (some .int))   {M : gx_M} {x0 : Int64} {Q : Int32 → Prop} (h : T_X11_wordOf M x0 Q) : GW z w 2 (gx_Qi w (fun r M1 => M1 = M ∧ Q r) (gx_s z).heap.size) M 0 [(0, .long x0)] [] := by
  unfold T_X11_wordOf at h
  refine gw_lload_n hC dX11_wordOf_0 rfl 0 rfl ?_
  refine gw_ldc2 hC kl_X11_128 dX11_wordOf_1 ?_
  refine gw_lcmp hC dX11_wordOf_4 ?_
  refine gw_if_ne (tgt := 10) hC dX11_wordOf_5 (by decide) (fun hc => ?_) (fun hc => ?_)
  · have h := gx_f h (fun q => hc ((lg_cmp_eq _ _).mpr q))
    refine gw_lload_n hC dX11_wordOf_10 rfl 0 rfl ?_
    refine gw_ldc2 hC kl_X11_130 dX11_wordOf_11 ?_
    refine gw_lcmp hC dX11_wordOf_14 ?_
    refine gw_if_ne (tgt := 20) hC dX11_wordOf_15 (by decide) (fun hc => ?_) (fun hc => ?_)
    · have h := gx_f h (fun q => hc ((lg_cmp_eq _ _).mpr q))
      refine gw_lload_n hC dX11_wordOf_20 rfl 0 rfl ?_
      refine gw_ldc2 hC kl_X11_132 dX11_wordOf_21 ?_
      refine gw_lcmp hC dX11_wordOf_24 ?_
      refine gw_if_ne (tgt := 30) hC dX11_wordOf_25 (by decide) (fun hc => ?_) (fun hc => ?_)
      · have h := gx_f h (fun q => hc ((lg_cmp_eq _ _).mpr q))
        refine gw_lload_n hC dX11_wordOf_30 rfl 0 rfl ?_
        refine gw_ldc2 hC kl_X11_134 dX11_wordOf_31 ?_
        refine gw_lcmp hC dX11_wordOf_34 ?_
        refine gw_if_ne (tgt := 40) hC dX11_wordOf_35 (by decide) (fun hc => ?_) (fun hc => ?_)
        · have h := gx_f h (fun q => hc ((lg_cmp_eq _ _).mpr q))
          refine gw_lload_n hC dX11_wordOf_40 rfl 0 rfl ?_
          refine gw_ldc2 hC kl_X11_136 dX11_wordOf_41 ?_
          refine gw_lcmp hC dX11_wordOf_44 ?_
          refine gw_if_ne (tgt := 50) hC dX11_wordOf_45 (by decide) (fun hc => ?_) (fun hc => ?_)
          · have h := gx_f h (fun q => hc ((lg_cmp_eq _ _).mpr q))
            refine gw_lload_n hC dX11_wordOf_50 rfl 0 rfl ?_
            refine gw_ldc2 hC kl_X11_138 dX11_wordOf_51 ?_
            refine gw_lcmp hC dX11_wordOf_54 ?_
            refine gw_if_ne (tgt := 60) hC dX11_wordOf_55 (by decide) (fun hc => ?_) (fun hc => ?_)
            · have h := gx_f h (fun q => hc ((lg_cmp_eq _ _).mpr q))
              refine gw_lload_n hC dX11_wordOf_60 rfl 0 rfl ?_
              refine gw_ldc2 hC kl_X11_140 dX11_wordOf_61 ?_
              refine gw_lcmp hC dX11_wordOf_64 ?_
              refine gw_if_ne (tgt := 71) hC dX11_wordOf_65 (by decide) (fun hc => ?_) (fun hc => ?_)
              · have h := gx_f h (fun q => hc ((lg_cmp_eq _ _).mpr q))
                refine gw_lload_n hC dX11_wordOf_71 rfl 0 rfl ?_
                refine gw_ldc2 hC kl_X11_142 dX11_wordOf_72 ?_
                refine gw_lcmp hC dX11_wordOf_75 ?_
                refine gw_if_ne (tgt := 82) hC dX11_wordOf_76 (by decide) (fun hc => ?_) (fun hc => ?_)
                · have h := gx_f h (fun q => hc ((lg_cmp_eq _ _).mpr q))
                  refine gw_lload_n hC dX11_wordOf_82 rfl 0 rfl ?_
                  refine gw_ldc2 hC kl_X11_144 dX11_wordOf_83 ?_
                  refine gw_lcmp hC dX11_wordOf_86 ?_
                  refine gw_if_ne (tgt := 93) hC dX11_wordOf_87 (by decide) (fun hc => ?_) (fun hc => ?_)
                  · have h := gx_f h (fun q => hc ((lg_cmp_eq _ _).mpr q))
                    refine gw_lload_n hC dX11_wordOf_93 rfl 0 rfl ?_
                    refine gw_ldc2 hC kl_X11_146 dX11_wordOf_94 ?_
                    refine gw_lcmp hC dX11_wordOf_97 ?_
                    refine gw_if_ne (tgt := 104) hC dX11_wordOf_98 (by decide) (fun hc => ?_) (fun hc => ?_)
                    · have h := gx_f h (fun q => hc ((lg_cmp_eq _ _).mpr q))
                      refine gw_lload_n hC dX11_wordOf_104 rfl 0 rfl ?_
                      refine gw_ldc2 hC kl_X11_148 dX11_wordOf_105 ?_
                      refine gw_lcmp hC dX11_wordOf_108 ?_
                      refine gw_if_ne (tgt := 115) hC dX11_wordOf_109 (by decide) (fun hc => ?_) (fun hc => ?_)
                      · have h := gx_f h (fun q => hc ((lg_cmp_eq _ _).mpr q))
                        refine gw_lload_n hC dX11_wordOf_115 rfl 0 rfl ?_
                        refine gw_ldc2 hC kl_X11_150 dX11_wordOf_116 ?_
                        refine gw_lcmp hC dX11_wordOf_119 ?_
                        refine gw_if_ne (tgt := 126) hC dX11_wordOf_120 (by decide) (fun hc => ?_) (fun hc => ?_)
                        · have h := gx_f h (fun q => hc ((lg_cmp_eq _ _).mpr q))
                          refine gw_iconst (v := (-1)) hC dX11_wordOf_126 (by decide) ?_
                          exact gw_iret hC hr dX11_wordOf_127 ⟨rfl, h⟩
                        · have h := gx_t h ((lg_cmp_eq _ _).mp hc)
                          refine gw_bipush (v := 11) hC dX11_wordOf_123 (by decide) ?_
                          exact gw_iret hC hr dX11_wordOf_125 ⟨rfl, h⟩
                      · have h := gx_t h ((lg_cmp_eq _ _).mp hc)
                        refine gw_bipush (v := 10) hC dX11_wordOf_112 (by decide) ?_
                        exact gw_iret hC hr dX11_wordOf_114 ⟨rfl, h⟩
                    · have h := gx_t h ((lg_cmp_eq _ _).mp hc)
                      refine gw_bipush (v := 9) hC dX11_wordOf_101 (by decide) ?_
                      exact gw_iret hC hr dX11_wordOf_103 ⟨rfl, h⟩
                  · have h := gx_t h ((lg_cmp_eq _ _).mp hc)
                    refine gw_bipush (v := 8) hC dX11_wordOf_90 (by decide) ?_
                    exact gw_iret hC hr dX11_wordOf_92 ⟨rfl, h⟩
                · have h := gx_t h ((lg_cmp_eq _ _).mp hc)
                  refine gw_bipush (v := 7) hC dX11_wordOf_79 (by decide) ?_
                  exact gw_iret hC hr dX11_wordOf_81 ⟨rfl, h⟩
              · have h := gx_t h ((lg_cmp_eq _ _).mp hc)
                refine gw_bipush (v := 6) hC dX11_wordOf_68 (by decide) ?_
                exact gw_iret hC hr dX11_wordOf_70 ⟨rfl, h⟩
            · have h := gx_t h ((lg_cmp_eq _ _).mp hc)
              refine gw_iconst (v := 5) hC dX11_wordOf_58 (by decide) ?_
              exact gw_iret hC hr dX11_wordOf_59 ⟨rfl, h⟩
          · have h := gx_t h ((lg_cmp_eq _ _).mp hc)
            refine gw_iconst (v := 4) hC dX11_wordOf_48 (by decide) ?_
            exact gw_iret hC hr dX11_wordOf_49 ⟨rfl, h⟩
        · have h := gx_t h ((lg_cmp_eq _ _).mp hc)
          refine gw_iconst (v := 3) hC dX11_wordOf_38 (by decide) ?_
          exact gw_iret hC hr dX11_wordOf_39 ⟨rfl, h⟩
      · have h := gx_t h ((lg_cmp_eq _ _).mp hc)
        refine gw_iconst (v := 2) hC dX11_wordOf_28 (by decide) ?_
        exact gw_iret hC hr dX11_wordOf_29 ⟨rfl, h⟩
    · have h := gx_t h ((lg_cmp_eq _ _).mp hc)
      refine gw_iconst (v := 1) hC dX11_wordOf_18 (by decide) ?_
      exact gw_iret hC hr dX11_wordOf_19 ⟨rfl, h⟩
  · have h := gx_t h ((lg_cmp_eq _ _).mp hc)
    refine gw_iconst (v := 0) hC dX11_wordOf_8 (by decide) ?_
    exact gw_iret hC hr dX11_wordOf_9 ⟨rfl, h⟩
theorem c_X11_wordOf {l : Launch} {d : gx_D} {w : gx_V} {ca : Nat → ClassId} (hw : gx_isR ca w)   {M : gx_M} {x0 : Int64} {Q : Int32 → Prop} (h : T_X11_wordOf M x0 Q) : gx_Mi l d w yX11_wordOf cX11_wordOf 2 .int rm_X11_wordOf [.long x0] M (fun r M1 => M1 = M ∧ Q r) := fun sz =>
  gx_of (own := RX11) (by decide +kernel) rfl (Nat.le_of_ble_eq_true rfl) (fun z hC hl hR hsz hr => by subst hsz; exact J_X11_wordOf hC hw hR hr  h) rfl
set_option maxRecDepth 20000 in
theorem J_X11_next_39 {z : gx_X} {d : gx_D} {w : gx_V} {ca : Nat → ClassId} (hC : gx_C z d w cX11_next 5 RX11) (hw : gx_isR ca w) (hR : gx_R z = rm_X11_next) (hr : (gx_me z).sig.returnType = none)  {Q : gx_M → Prop} {K0 : gx_M → Prop} (hK0 : ∀ (M : gx_M), K0 M → GW z w 5 (gx_Qv w Q (gx_s z).heap.size) M 0 [(0, .ref (gx_ad w 0))] []) (M : gx_M)  (h : T_X11_next_39 Q K0 M) : GW z w 5 (gx_Qv w Q (gx_s z).heap.size) M 39 [(0, .ref (gx_ad w 0))] [] := by
  unfold T_X11_next_39 at h
  refine gw_aload_n hC dX11_next_39 rfl 0 rfl ?_
  refine gw_dup hC dX11_next_40 rfl ?_
  refine gw_get hC cl_X11 fg_X11_152 (hw.lt (by decide)) (gd_0 hw _) (gv_X11_13 _ _ _) dX11_next_41 ?_
  refine gw_iconst (v := 1) hC dX11_next_44 (by decide) ?_
  refine gw_iadd hC dX11_next_45 ?_
  refine gw_put hC cl_X11 fp_X11_152 (hw.lt (by decide)) (gd_0 hw _) ((gd_0 hw _).trans (gs_X11_13 _ _ _ _)) rfl rfl (by simp [fs_X11]) dX11_next_46 ?_
  refine gw_nmM (fun M1 hM1 => ?_)
  have h := h M1 hM1
  refine gw_goto (tgt := 0) hC dX11_next_49 (by decide) ?_
  exact hK0 M1 h
set_option maxRecDepth 20000 in
theorem J_X11_next_0 {z : gx_X} {d : gx_D} {w : gx_V} {ca : Nat → ClassId} (hC : gx_C z d w cX11_next 5 RX11) (hw : gx_isR ca w) (hR : gx_R z = rm_X11_next) (hr : (gx_me z).sig.returnType = none)  {Q : gx_M → Prop} {K52 : gx_M → Prop} (hK52 : ∀ (M : gx_M), K52 M → GW z w 5 (gx_Qv w Q (gx_s z).heap.size) M 52 [(0, .ref (gx_ad w 0))] []) : ∀ (n : Nat) (M : gx_M) , T_X11_next_0 Q K52 n M → GW z w 5 (gx_Qv w Q (gx_s z).heap.size) M 0 [(0, .ref (gx_ad w 0))] [] := by
  intro n
  induction n with
  | zero =>
    intro M h
    exact h.elim
  | succ n ih =>
    intro M h
    rw [T_X11_next_0] at h
    refine gw_aload_n hC dX11_next_0 rfl 0 rfl ?_
    refine gw_get hC cl_X11 fg_X11_152 (hw.lt (by decide)) (gd_0 hw _) (gv_X11_13 _ _ _) dX11_next_1 ?_
    refine gw_aload_n hC dX11_next_4 rfl 0 rfl ?_
    refine gw_get hC cl_X11 fg_X11_155 (hw.lt (by decide)) (gd_0 hw _) (gv_X11_12 _ _ _) dX11_next_5 ?_
    refine gw_icmp_ge (tgt := 52) hC dX11_next_8 (by decide) (fun hc => ?_) (fun hc => ?_)
    · have h := gx_t h hc
      exact hK52 M h
    · have h := gx_f h hc
      refine gw_aload_n hC dX11_next_11 rfl 0 rfl ?_
      refine gw_get hC cl_X11 fg_X11_16 (hw.lt (by decide)) (gd_0 hw _) (gv_X11_2 _ _ _) dX11_next_12 ?_
      refine gw_aload_n hC dX11_next_15 rfl 0 rfl ?_
      refine gw_get hC cl_X11 fg_X11_152 (hw.lt (by decide)) (gd_0 hw _) (gv_X11_13 _ _ _) dX11_next_16 ?_
      obtain ⟨hi, h⟩ := h
      refine gw_bald hC (hw.lt (by decide)) (gd_3 hw _) (gu_6 hw) hi dX11_next_19 ?_
      refine gw_bipush (v := 32) hC dX11_next_20 (by decide) ?_
      refine gw_icmp_eq (tgt := 39) hC dX11_next_22 (by decide) (fun hc => ?_) (fun hc => ?_)
      · have h := gx_t h hc
        exact J_X11_next_39 hC hw hR hr ih M h
      · have h := gx_f h hc
        refine gw_aload_n hC dX11_next_25 rfl 0 rfl ?_
        refine gw_get hC cl_X11 fg_X11_16 (hw.lt (by decide)) (gd_0 hw _) (gv_X11_2 _ _ _) dX11_next_26 ?_
        refine gw_aload_n hC dX11_next_29 rfl 0 rfl ?_
        refine gw_get hC cl_X11 fg_X11_152 (hw.lt (by decide)) (gd_0 hw _) (gv_X11_13 _ _ _) dX11_next_30 ?_
        obtain ⟨hi, h⟩ := h
        refine gw_bald hC (hw.lt (by decide)) (gd_3 hw _) (gu_6 hw) hi dX11_next_33 ?_
        refine gw_bipush (v := 10) hC dX11_next_34 (by decide) ?_
        refine gw_icmp_ne (tgt := 52) hC dX11_next_36 (by decide) (fun hc => ?_) (fun hc => ?_)
        · have h := gx_f h hc
          exact hK52 M h
        · have h := gx_t h hc
          exact J_X11_next_39 hC hw hR hr ih M h
set_option maxRecDepth 20000 in
theorem J_X11_next_426 {z : gx_X} {d : gx_D} {w : gx_V} {ca : Nat → ClassId} (hC : gx_C z d w cX11_next 5 RX11) (hw : gx_isR ca w) (hR : gx_R z = rm_X11_next) (hr : (gx_me z).sig.returnType = none)  {Q : gx_M → Prop}   (M : gx_M) (t0 : Int32)  (h : T_X11_next_426 Q  M t0) : GW z w 5 (gx_Qv w Q (gx_s z).heap.size) M 426 [(0, .ref (gx_ad w 0))] [.int t0, .ref (gx_ad w 0)] := by
  unfold T_X11_next_426 at h
  refine gw_put hC cl_X11 fp_X11_173 (hw.lt (by decide)) (gd_0 hw _) ((gd_0 hw _).trans (gs_X11_16 _ _ _ _)) rfl rfl (by simp [fs_X11]) dX11_next_426 ?_
  refine gw_nmM (fun M15 hM15 => ?_)
  have h := h M15 hM15
  refine gw_aload_n hC dX11_next_429 rfl 0 rfl ?_
  refine gw_dup hC dX11_next_430 rfl ?_
  refine gw_get hC cl_X11 fg_X11_152 (hw.lt (by decide)) (gd_0 hw _) (gv_X11_13 _ _ _) dX11_next_431 ?_
  refine gw_iconst (v := 1) hC dX11_next_434 (by decide) ?_
  refine gw_iadd hC dX11_next_435 ?_
  refine gw_put hC cl_X11 fp_X11_152 (hw.lt (by decide)) (gd_0 hw _) ((gd_0 hw _).trans (gs_X11_13 _ _ _ _)) rfl rfl (by simp [fs_X11]) dX11_next_436 ?_
  refine gw_nmM (fun M16 hM16 => ?_)
  have h := h M16 hM16
  exact gw_vret hC hr dX11_next_439 h
set_option maxRecDepth 20000 in
theorem J_X11_next_385 {z : gx_X} {d : gx_D} {w : gx_V} {ca : Nat → ClassId} (hC : gx_C z d w cX11_next 5 RX11) (hw : gx_isR ca w) (hR : gx_R z = rm_X11_next) (hr : (gx_me z).sig.returnType = none)  {Q : gx_M → Prop}   (M : gx_M) (v1 : Int32)  (h : T_X11_next_385 Q  M v1) : GW z w 5 (gx_Qv w Q (gx_s z).heap.size) M 385 [(0, .ref (gx_ad w 0)), (1, .int v1)] [] := by
  unfold T_X11_next_385 at h
  refine gw_aload_n hC dX11_next_385 rfl 0 rfl ?_
  refine gw_get hC cl_X11 fg_X11_152 (hw.lt (by decide)) (gd_0 hw _) (gv_X11_13 _ _ _) dX11_next_386 ?_
  refine gw_aload_n hC dX11_next_389 rfl 0 rfl ?_
  refine gw_get hC cl_X11 fg_X11_155 (hw.lt (by decide)) (gd_0 hw _) (gv_X11_12 _ _ _) dX11_next_390 ?_
  refine gw_icmp_ge (tgt := 439) hC dX11_next_393 (by decide) (fun hc => ?_) (fun hc => ?_)
  · have h := gx_t h hc
    exact gw_vret hC hr dX11_next_439 h
  · have h := gx_f h hc
    refine gw_aload_n hC dX11_next_396 rfl 0 rfl ?_
    refine gw_get hC cl_X11 fg_X11_16 (hw.lt (by decide)) (gd_0 hw _) (gv_X11_2 _ _ _) dX11_next_397 ?_
    refine gw_aload_n hC dX11_next_400 rfl 0 rfl ?_
    refine gw_get hC cl_X11 fg_X11_152 (hw.lt (by decide)) (gd_0 hw _) (gv_X11_13 _ _ _) dX11_next_401 ?_
    obtain ⟨hi, h⟩ := h
    refine gw_bald hC (hw.lt (by decide)) (gd_3 hw _) (gu_6 hw) hi dX11_next_404 ?_
    refine gw_bipush (v := 61) hC dX11_next_405 (by decide) ?_
    refine gw_icmp_ne (tgt := 439) hC dX11_next_407 (by decide) (fun hc => ?_) (fun hc => ?_)
    · have h := gx_f h hc
      exact gw_vret hC hr dX11_next_439 h
    · have h := gx_t h hc
      refine gw_aload_n hC dX11_next_410 rfl 0 rfl ?_
      refine gw_iload_n hC dX11_next_411 rfl 1 rfl ?_
      refine gw_bipush (v := 60) hC dX11_next_412 (by decide) ?_
      refine gw_icmp_ne (tgt := 423) hC dX11_next_414 (by decide) (fun hc => ?_) (fun hc => ?_)
      · have h := gx_f h hc
        refine gw_sipush (v := 301) hC dX11_next_423 (by decide) ?_
        refine gw_sub (lv' := [(0, .ref (gx_ad w 0))]) [0] rfl ?_
        exact J_X11_next_426 hC hw hR hr  M 301 h
      · have h := gx_t h hc
        refine gw_sipush (v := 300) hC dX11_next_417 (by decide) ?_
        refine gw_goto (tgt := 426) hC dX11_next_420 (by decide) ?_
        refine gw_sub (lv' := [(0, .ref (gx_ad w 0))]) [0] rfl ?_
        exact J_X11_next_426 hC hw hR hr  M 300 h
set_option maxRecDepth 20000 in
theorem J_X11_next_370 {z : gx_X} {d : gx_D} {w : gx_V} {ca : Nat → ClassId} (hC : gx_C z d w cX11_next 5 RX11) (hw : gx_isR ca w) (hR : gx_R z = rm_X11_next) (hr : (gx_me z).sig.returnType = none)  {Q : gx_M → Prop}   (M : gx_M) (t0 : Int32) (v1 : Int32)  (h : T_X11_next_370 Q  M t0 v1) : GW z w 5 (gx_Qv w Q (gx_s z).heap.size) M 370 [(0, .ref (gx_ad w 0)), (1, .int v1)] [.int t0, .ref (gx_ad w 0)] := by
  unfold T_X11_next_370 at h
  refine gw_put hC cl_X11 fp_X11_161 (hw.lt (by decide)) (gd_0 hw _) ((gd_0 hw _).trans (gs_X11_15 _ _ _ _)) rfl rfl (by simp [fs_X11]) dX11_next_370 ?_
  refine gw_nmM (fun M14 hM14 => ?_)
  have h := h M14 hM14
  refine gw_iload_n hC dX11_next_373 rfl 1 rfl ?_
  refine gw_bipush (v := 60) hC dX11_next_374 (by decide) ?_
  refine gw_icmp_eq (tgt := 385) hC dX11_next_376 (by decide) (fun hc => ?_) (fun hc => ?_)
  · have h := gx_t h hc
    exact J_X11_next_385 hC hw hR hr  M14 v1 h
  · have h := gx_f h hc
    refine gw_iload_n hC dX11_next_379 rfl 1 rfl ?_
    refine gw_bipush (v := 62) hC dX11_next_380 (by decide) ?_
    refine gw_icmp_ne (tgt := 439) hC dX11_next_382 (by decide) (fun hc => ?_) (fun hc => ?_)
    · have h := gx_f h hc
      exact gw_vret hC hr dX11_next_439 h
    · have h := gx_t h hc
      exact J_X11_next_385 hC hw hR hr  M14 v1 h
set_option maxRecDepth 20000 in
theorem J_X11_next_365 {z : gx_X} {d : gx_D} {w : gx_V} {ca : Nat → ClassId} (hC : gx_C z d w cX11_next 5 RX11) (hw : gx_isR ca w) (hR : gx_R z = rm_X11_next) (hr : (gx_me z).sig.returnType = none)  {Q : gx_M → Prop}   (M : gx_M) (v1 : Int32)  (h : T_X11_next_365 Q  M v1) : GW z w 5 (gx_Qv w Q (gx_s z).heap.size) M 365 [(0, .ref (gx_ad w 0)), (1, .int v1)] [.ref (gx_ad w 0)] := by
  unfold T_X11_next_365 at h
  refine gw_iconst (v := 3) hC dX11_next_365 (by decide) ?_
  refine gw_goto (tgt := 370) hC dX11_next_366 (by decide) ?_
  exact J_X11_next_370 hC hw hR hr  M 3 v1 h
set_option maxRecDepth 20000 in
theorem J_X11_next_299 {z : gx_X} {d : gx_D} {w : gx_V} {ca : Nat → ClassId} (hC : gx_C z d w cX11_next 5 RX11) (hw : gx_isR ca w) (hR : gx_R z = rm_X11_next) (hr : (gx_me z).sig.returnType = none)  {Q : gx_M → Prop} {K232 : gx_M → Prop} (hK232 : ∀ (M : gx_M), K232 M → GW z w 5 (gx_Qv w Q (gx_s z).heap.size) M 232 [(0, .ref (gx_ad w 0))] []) (M : gx_M) (t0 : Int32)  (h : T_X11_next_299 Q K232 M t0) : GW z w 5 (gx_Qv w Q (gx_s z).heap.size) M 299 [(0, .ref (gx_ad w 0))] [.int t0, .ref (gx_ad w 0)] := by
  unfold T_X11_next_299 at h
  refine gw_put hC cl_X11 fp_X11_173 (hw.lt (by decide)) (gd_0 hw _) ((gd_0 hw _).trans (gs_X11_16 _ _ _ _)) rfl rfl (by simp [fs_X11]) dX11_next_299 ?_
  refine gw_nmM (fun M23 hM23 => ?_)
  have h := h M23 hM23
  refine gw_aload_n hC dX11_next_302 rfl 0 rfl ?_
  refine gw_dup hC dX11_next_303 rfl ?_
  refine gw_get hC cl_X11 fg_X11_152 (hw.lt (by decide)) (gd_0 hw _) (gv_X11_13 _ _ _) dX11_next_304 ?_
  refine gw_iconst (v := 1) hC dX11_next_307 (by decide) ?_
  refine gw_iadd hC dX11_next_308 ?_
  refine gw_put hC cl_X11 fp_X11_152 (hw.lt (by decide)) (gd_0 hw _) ((gd_0 hw _).trans (gs_X11_13 _ _ _ _)) rfl rfl (by simp [fs_X11]) dX11_next_309 ?_
  refine gw_nmM (fun M24 hM24 => ?_)
  have h := h M24 hM24
  refine gw_goto (tgt := 232) hC dX11_next_312 (by decide) ?_
  exact hK232 M24 h
set_option maxRecDepth 20000 in
theorem J_X11_next_232 {z : gx_X} {d : gx_D} {w : gx_V} {ca : Nat → ClassId} (hC : gx_C z d w cX11_next 5 RX11) (hw : gx_isR ca w) (hR : gx_R z = rm_X11_next) (hr : (gx_me z).sig.returnType = none)  {Q : gx_M → Prop} {K439 : gx_M → Prop} (hK439 : ∀ (M : gx_M), K439 M → GW z w 5 (gx_Qv w Q (gx_s z).heap.size) M 439 [] []) : ∀ (n : Nat) (M : gx_M) , T_X11_next_232 Q K439 n M → GW z w 5 (gx_Qv w Q (gx_s z).heap.size) M 232 [(0, .ref (gx_ad w 0))] [] := by
  intro n
  induction n with
  | zero =>
    intro M h
    exact h.elim
  | succ n ih =>
    intro M h
    rw [T_X11_next_232] at h
    refine gw_aload_n hC dX11_next_232 rfl 0 rfl ?_
    refine gw_get hC cl_X11 fg_X11_152 (hw.lt (by decide)) (gd_0 hw _) (gv_X11_13 _ _ _) dX11_next_233 ?_
    refine gw_aload_n hC dX11_next_236 rfl 0 rfl ?_
    refine gw_get hC cl_X11 fg_X11_155 (hw.lt (by decide)) (gd_0 hw _) (gv_X11_12 _ _ _) dX11_next_237 ?_
    refine gw_icmp_ge (tgt := 439) hC dX11_next_240 (by decide) (fun hc => ?_) (fun hc => ?_)
    · have h := gx_t h hc
      refine gw_sub (lv' := []) [] rfl ?_
      exact hK439 M h
    · have h := gx_f h hc
      refine gw_aload_n hC dX11_next_243 rfl 0 rfl ?_
      refine gw_get hC cl_X11 fg_X11_16 (hw.lt (by decide)) (gd_0 hw _) (gv_X11_2 _ _ _) dX11_next_244 ?_
      refine gw_aload_n hC dX11_next_247 rfl 0 rfl ?_
      refine gw_get hC cl_X11 fg_X11_152 (hw.lt (by decide)) (gd_0 hw _) (gv_X11_13 _ _ _) dX11_next_248 ?_
      obtain ⟨hi, h⟩ := h
      refine gw_bald hC (hw.lt (by decide)) (gd_3 hw _) (gu_6 hw) hi dX11_next_251 ?_
      refine gw_bipush (v := 48) hC dX11_next_252 (by decide) ?_
      refine gw_bipush (v := 57) hC dX11_next_254 (by decide) ?_
      refine gw_calli (gx_rS hC (n := 3) (As := [.int (M 3 (M 0 13).toNatClampNeg), .int 48, .int 57]) (rest := []) (fun sz => c_X11_in hw  h sz) cs_X11_97_X11_in (by rw [hR]; exact rr_X11_next_X11_in) rfl rfl (Nat.le_of_ble_eq_true rfl) dX11_next_256) ?_
      intro r21 m22 ⟨hm22, h⟩
      rw [hm22]
      refine gw_if_eq (tgt := 439) hC dX11_next_259 (by decide) (fun hc => ?_) (fun hc => ?_)
      · have h := gx_t h hc
        refine gw_sub (lv' := []) [] rfl ?_
        exact hK439 M h
      · have h := gx_f h hc
        refine gw_aload_n hC dX11_next_262 rfl 0 rfl ?_
        refine gw_aload_n hC dX11_next_263 rfl 0 rfl ?_
        refine gw_get hC cl_X11 fg_X11_173 (hw.lt (by decide)) (gd_0 hw _) (gv_X11_16 _ _ _) dX11_next_264 ?_
        refine gw_ldc hC kc_X11_176 dX11_next_267 ?_
        refine gw_icmp_le (tgt := 279) hC dX11_next_269 (by decide) (fun hc => ?_) (fun hc => ?_)
        · have h := gx_t h hc
          refine gw_bipush (v := 10) hC dX11_next_279 (by decide) ?_
          refine gw_aload_n hC dX11_next_281 rfl 0 rfl ?_
          refine gw_get hC cl_X11 fg_X11_173 (hw.lt (by decide)) (gd_0 hw _) (gv_X11_16 _ _ _) dX11_next_282 ?_
          refine gw_imul hC dX11_next_285 ?_
          refine gw_aload_n hC dX11_next_286 rfl 0 rfl ?_
          refine gw_get hC cl_X11 fg_X11_16 (hw.lt (by decide)) (gd_0 hw _) (gv_X11_2 _ _ _) dX11_next_287 ?_
          refine gw_aload_n hC dX11_next_290 rfl 0 rfl ?_
          refine gw_get hC cl_X11 fg_X11_152 (hw.lt (by decide)) (gd_0 hw _) (gv_X11_13 _ _ _) dX11_next_291 ?_
          obtain ⟨hi, h⟩ := h
          refine gw_bald hC (hw.lt (by decide)) (gd_3 hw _) (gu_6 hw) hi dX11_next_294 ?_
          refine gw_iadd hC dX11_next_295 ?_
          refine gw_bipush (v := 48) hC dX11_next_296 (by decide) ?_
          refine gw_isub hC dX11_next_298 ?_
          exact J_X11_next_299 hC hw hR hr ih M (((10 * (M 0 16)) + (M 3 (M 0 13).toNatClampNeg)) - 48) h
        · have h := gx_f h hc
          refine gw_aload_n hC dX11_next_272 rfl 0 rfl ?_
          refine gw_get hC cl_X11 fg_X11_173 (hw.lt (by decide)) (gd_0 hw _) (gv_X11_16 _ _ _) dX11_next_273 ?_
          refine gw_goto (tgt := 299) hC dX11_next_276 (by decide) ?_
          exact J_X11_next_299 hC hw hR hr ih M (M 0 16) h
