set_option maxRecDepth 20000 in
theorem J_X6_next {z : gx_X} {d : gx_D} {w : gx_V} {ca : Nat → ClassId} (hC : gx_C z d w cX6_next 2 RX6) (hw : gx_isC ca w) (hR : gx_R z = rm_X6_next) (hr : (gx_me z).sig.returnType = none)   {M : gx_M}  {Q : gx_M → Prop} (h : T_X6_next M  Q) : GW z w 2 (gx_Qv w Q (gx_s z).heap.size) M 0 [(0, .ref (gx_ad w 5))] [] := by
  unfold T_X6_next at h
  obtain ⟨k6, h⟩ := h
  exact J_X6_next_0 hC hw hR hr (fun M7 h => by
      exact J_X6_next_38 hC hw hR hr  M7 h) k6 M h
theorem c_X6_next {l : Launch} {d : gx_D} {w : gx_V} {ca : Nat → ClassId} (hw : gx_isC ca w)   {M : gx_M}  {Q : gx_M → Prop} (h : T_X6_next M  Q) : gx_Mv l d w yX6_next cX6_next 2 rm_X6_next [.ref (gx_ad w 5)] M Q := fun sz =>
  gx_of (own := RX6) (by decide +kernel) rfl (Nat.le_of_ble_eq_true rfl) (fun z hC hl hR hsz hr => by subst hsz; exact J_X6_next hC hw hR hr  h) rfl
set_option maxRecDepth 20000 in
theorem J_X5_fail {z : gx_X} {d : gx_D} {w : gx_V} {ca : Nat → ClassId} (hC : gx_C z d w cX5_fail 2 RX5) (hw : gx_isC ca w) (hR : gx_R z = rm_X5_fail) (hr : (gx_me z).sig.returnType = none)   {M : gx_M} {v1 : Int32} {Q : gx_M → Prop} (h : T_X5_fail M v1 Q) : GW z w 2 (gx_Qv w Q (gx_s z).heap.size) M 0 [(0, .ref (gx_ad w 4)), (1, .int v1)] [] := by
  unfold T_X5_fail at h
  refine gw_aload_n hC dX5_fail_0 rfl 0 rfl ?_
  refine gw_iload_n hC dX5_fail_1 rfl 1 rfl ?_
  refine gw_put hC cl_X5 fp_X5_60 (hw.lt (by decide)) (gc_4 hw _) ((gc_4 hw _).trans (gs_X5_14 _ _ _ _)) rfl rfl (by simp [fs_X5]) dX5_fail_2 ?_
  refine gw_nmM (fun M1 hM1 => ?_)
  have h := h M1 hM1
  refine gw_aload_n hC dX5_fail_5 rfl 0 rfl ?_
  refine gw_aload_n hC dX5_fail_6 rfl 0 rfl ?_
  refine gw_get hC cl_X5 fg_X5_12 (hw.lt (by decide)) (gc_4 hw _) (gv_X5_0 _ _ _) dX5_fail_7 ?_
  refine gw_get hC cl_X6 fg_X5_89 (hw.lt (by decide)) (gc_5 hw _) (gv_X6_3 _ _ _) dX5_fail_10 ?_
  refine gw_put hC cl_X5 fp_X5_63 (hw.lt (by decide)) (gc_4 hw _) ((gc_4 hw _).trans (gs_X5_15 _ _ _ _)) rfl rfl (by simp [fs_X5]) dX5_fail_13 ?_
  refine gw_nmM (fun M2 hM2 => ?_)
  have h := h M2 hM2
  refine gw_aload_n hC dX5_fail_16 rfl 0 rfl ?_
  refine gw_iconst (v := 1) hC dX5_fail_17 (by decide) ?_
  refine gw_put hC cl_X5 fp_X5_57 (hw.lt (by decide)) (gc_4 hw _) ((gc_4 hw _).trans (gs_X5_13 _ _ _ _)) rfl rfl (by simp [fs_X5]) dX5_fail_18 ?_
  refine gw_nmM (fun M3 hM3 => ?_)
  have h := h M3 hM3
  exact gw_vret hC hr dX5_fail_21 h
theorem c_X5_fail {l : Launch} {d : gx_D} {w : gx_V} {ca : Nat → ClassId} (hw : gx_isC ca w)   {M : gx_M} {v1 : Int32} {Q : gx_M → Prop} (h : T_X5_fail M v1 Q) : gx_Mv l d w yX5_fail cX5_fail 2 rm_X5_fail [.ref (gx_ad w 4), .int v1] M Q := fun sz =>
  gx_of (own := RX5) (by decide +kernel) rfl (Nat.le_of_ble_eq_true rfl) (fun z hC hl hR hsz hr => by subst hsz; exact J_X5_fail hC hw hR hr  h) rfl
set_option maxRecDepth 20000 in
theorem J_X5_takeFirst_107 {z : gx_X} {d : gx_D} {w : gx_V} {ca : Nat → ClassId} (hC : gx_C z d w cX5_takeFirst 2 RX5) (hw : gx_isC ca w) (hR : gx_R z = rm_X5_takeFirst) (hr : (gx_me z).sig.returnType = none)  {Q : gx_M → Prop}   (M : gx_M) (t0 : Int32)  (h : T_X5_takeFirst_107 Q  M t0) : GW z w 2 (gx_Qv w Q (gx_s z).heap.size) M 107 [(0, .ref (gx_ad w 4))] [.int t0, .ref (gx_ad w 4)] := by
  unfold T_X5_takeFirst_107 at h
  obtain ⟨hz, h⟩ := h
  refine gw_put hC cl_X5 fp_X5_42 (hw.lt (by decide)) (gc_4 hw _) ((gc_4 hw _).trans (gs_X5_8 _ _ _ _)) (gx_nz hz) (gx_nzf hz) (by simp [fs_X5]) dX5_takeFirst_107 ?_
  refine gw_nmM (fun M4 hM4 => ?_)
  have h := h M4 hM4
  refine gw_aload_n hC dX5_takeFirst_110 rfl 0 rfl ?_
  refine gw_iconst (v := 1) hC dX5_takeFirst_111 (by decide) ?_
  refine gw_put hC cl_X5 fp_X5_45 (hw.lt (by decide)) (gc_4 hw _) ((gc_4 hw _).trans (gs_X5_9 _ _ _ _)) rfl rfl (by simp [fs_X5]) dX5_takeFirst_112 ?_
  refine gw_nmM (fun M5 hM5 => ?_)
  have h := h M5 hM5
  refine gw_aload_n hC dX5_takeFirst_115 rfl 0 rfl ?_
  refine gw_aload_n hC dX5_takeFirst_116 rfl 0 rfl ?_
  refine gw_get hC cl_X5 fg_X5_42 (hw.lt (by decide)) (gc_4 hw _) (gv_X5_8 _ _ _) dX5_takeFirst_117 ?_
  obtain ⟨hz, h⟩ := h
  refine gw_put hC cl_X5 fp_X5_48 (hw.lt (by decide)) (gc_4 hw _) ((gc_4 hw _).trans (gs_X5_10 _ _ _ _)) (gx_nz hz) (gx_nzf hz) (by simp [fs_X5]) dX5_takeFirst_120 ?_
  refine gw_nmM (fun M6 hM6 => ?_)
  have h := h M6 hM6
  refine gw_aload_n hC dX5_takeFirst_123 rfl 0 rfl ?_
  refine gw_iconst (v := 0) hC dX5_takeFirst_124 (by decide) ?_
  refine gw_put hC cl_X5 fp_X5_51 (hw.lt (by decide)) (gc_4 hw _) ((gc_4 hw _).trans (gs_X5_11 _ _ _ _)) rfl rfl (by simp [fs_X5]) dX5_takeFirst_125 ?_
  refine gw_nmM (fun M7 hM7 => ?_)
  have h := h M7 hM7
  refine gw_aload_n hC dX5_takeFirst_128 rfl 0 rfl ?_
  refine gw_iconst (v := 0) hC dX5_takeFirst_129 (by decide) ?_
  refine gw_put hC cl_X5 fp_X5_22 (hw.lt (by decide)) (gc_4 hw _) ((gc_4 hw _).trans (gs_X5_2 _ _ _ _)) rfl rfl (by simp [fs_X5]) dX5_takeFirst_130 ?_
  refine gw_nmM (fun M8 hM8 => ?_)
  have h := h M8 hM8
  refine gw_aload_n hC dX5_takeFirst_133 rfl 0 rfl ?_
  refine gw_iconst (v := 0) hC dX5_takeFirst_134 (by decide) ?_
  refine gw_put hC cl_X5 fp_X5_26 (hw.lt (by decide)) (gc_4 hw _) ((gc_4 hw _).trans (gs_X5_3 _ _ _ _)) rfl rfl (by simp [fs_X5]) dX5_takeFirst_135 ?_
  refine gw_nmM (fun M9 hM9 => ?_)
  have h := h M9 hM9
  refine gw_aload_n hC dX5_takeFirst_138 rfl 0 rfl ?_
  refine gw_iconst (v := 0) hC dX5_takeFirst_139 (by decide) ?_
  refine gw_put hC cl_X5 fp_X5_29 (hw.lt (by decide)) (gc_4 hw _) ((gc_4 hw _).trans (gs_X5_4 _ _ _ _)) rfl rfl (by simp [fs_X5]) dX5_takeFirst_140 ?_
  refine gw_nmM (fun M10 hM10 => ?_)
  have h := h M10 hM10
  exact gw_vret hC hr dX5_takeFirst_143 h
set_option maxRecDepth 20000 in
theorem J_X5_takeFirst_87 {z : gx_X} {d : gx_D} {w : gx_V} {ca : Nat → ClassId} (hC : gx_C z d w cX5_takeFirst 2 RX5) (hw : gx_isC ca w) (hR : gx_R z = rm_X5_takeFirst) (hr : (gx_me z).sig.returnType = none)  {Q : gx_M → Prop}   (M : gx_M) (t0 : Int32) (v1 : Int32)  (h : T_X5_takeFirst_87 Q  M t0 v1) : GW z w 2 (gx_Qv w Q (gx_s z).heap.size) M 87 [(0, .ref (gx_ad w 4)), (1, .int v1)] [.int t0, .ref (gx_ad w 4)] := by
  unfold T_X5_takeFirst_87 at h
  obtain ⟨hz, h⟩ := h
  refine gw_put hC cl_X5 fp_X5_35 (hw.lt (by decide)) (gc_4 hw _) ((gc_4 hw _).trans (gs_X5_6 _ _ _ _)) (gx_nz hz) (gx_nzf hz) (by simp [fs_X5]) dX5_takeFirst_87 ?_
  refine gw_nmM (fun M2 hM2 => ?_)
  have h := h M2 hM2
  refine gw_aload_n hC dX5_takeFirst_90 rfl 0 rfl ?_
  refine gw_iconst (v := 1) hC dX5_takeFirst_91 (by decide) ?_
  refine gw_put hC cl_X5 fp_X5_39 (hw.lt (by decide)) (gc_4 hw _) ((gc_4 hw _).trans (gs_X5_7 _ _ _ _)) rfl rfl (by simp [fs_X5]) dX5_takeFirst_92 ?_
  refine gw_nmM (fun M3 hM3 => ?_)
  have h := h M3 hM3
  refine gw_aload_n hC dX5_takeFirst_95 rfl 0 rfl ?_
  refine gw_iload_n hC dX5_takeFirst_96 rfl 1 rfl ?_
  refine gw_bipush (v := (-55)) hC dX5_takeFirst_97 (by decide) ?_
  refine gw_icmp_ne (tgt := 106) hC dX5_takeFirst_99 (by decide) (fun hc => ?_) (fun hc => ?_)
  · have h := gx_f h hc
    refine gw_iconst (v := 0) hC dX5_takeFirst_106 (by decide) ?_
    refine gw_sub (lv' := [(0, .ref (gx_ad w 4))]) [0] rfl ?_
    exact J_X5_takeFirst_107 hC hw hR hr  M3 0 h
  · have h := gx_t h hc
    refine gw_iconst (v := 1) hC dX5_takeFirst_102 (by decide) ?_
    refine gw_goto (tgt := 107) hC dX5_takeFirst_103 (by decide) ?_
    refine gw_sub (lv' := [(0, .ref (gx_ad w 4))]) [0] rfl ?_
    exact J_X5_takeFirst_107 hC hw hR hr  M3 1 h
set_option maxRecDepth 20000 in
theorem J_X5_takeFirst_82 {z : gx_X} {d : gx_D} {w : gx_V} {ca : Nat → ClassId} (hC : gx_C z d w cX5_takeFirst 2 RX5) (hw : gx_isC ca w) (hR : gx_R z = rm_X5_takeFirst) (hr : (gx_me z).sig.returnType = none)  {Q : gx_M → Prop}   (M : gx_M) (v1 : Int32)  (h : T_X5_takeFirst_82 Q  M v1) : GW z w 2 (gx_Qv w Q (gx_s z).heap.size) M 82 [(0, .ref (gx_ad w 4)), (1, .int v1)] [.ref (gx_ad w 4)] := by
  unfold T_X5_takeFirst_82 at h
  refine gw_iconst (v := 1) hC dX5_takeFirst_82 (by decide) ?_
  refine gw_goto (tgt := 87) hC dX5_takeFirst_83 (by decide) ?_
  exact J_X5_takeFirst_87 hC hw hR hr  M 1 v1 h
set_option maxRecDepth 20000 in
theorem J_X5_takeFirst_41 {z : gx_X} {d : gx_D} {w : gx_V} {ca : Nat → ClassId} (hC : gx_C z d w cX5_takeFirst 2 RX5) (hw : gx_isC ca w) (hR : gx_R z = rm_X5_takeFirst) (hr : (gx_me z).sig.returnType = none)  {Q : gx_M → Prop}   (M : gx_M) (v1 : Int32)  (h : T_X5_takeFirst_41 Q  M v1) : GW z w 2 (gx_Qv w Q (gx_s z).heap.size) M 41 [(0, .ref (gx_ad w 4)), (1, .int v1)] [] := by
  unfold T_X5_takeFirst_41 at h
  refine gw_aload_n hC dX5_takeFirst_41 rfl 0 rfl ?_
  refine gw_get hC cl_X5 fg_X5_32 (hw.lt (by decide)) (gc_4 hw _) (gv_X5_5 _ _ _) dX5_takeFirst_42 ?_
  refine gw_bipush (v := 10) hC dX5_takeFirst_45 (by decide) ?_
  refine gw_icmp_lt (tgt := 58) hC dX5_takeFirst_47 (by decide) (fun hc => ?_) (fun hc => ?_)
  · have h := gx_t h hc
    refine gw_aload_n hC dX5_takeFirst_58 rfl 0 rfl ?_
    refine gw_dup hC dX5_takeFirst_59 rfl ?_
    refine gw_get hC cl_X5 fg_X5_32 (hw.lt (by decide)) (gc_4 hw _) (gv_X5_5 _ _ _) dX5_takeFirst_60 ?_
    refine gw_iconst (v := 1) hC dX5_takeFirst_63 (by decide) ?_
    refine gw_iadd hC dX5_takeFirst_64 ?_
    refine gw_put hC cl_X5 fp_X5_32 (hw.lt (by decide)) (gc_4 hw _) ((gc_4 hw _).trans (gs_X5_5 _ _ _ _)) rfl rfl (by simp [fs_X5]) dX5_takeFirst_65 ?_
    refine gw_nmM (fun M1 hM1 => ?_)
    have h := h M1 hM1
    refine gw_aload_n hC dX5_takeFirst_68 rfl 0 rfl ?_
    refine gw_aload_n hC dX5_takeFirst_69 rfl 0 rfl ?_
    refine gw_get hC cl_X5 fg_X5_35 (hw.lt (by decide)) (gc_4 hw _) (gv_X5_6 _ _ _) dX5_takeFirst_70 ?_
    refine gw_if_ne (tgt := 82) hC dX5_takeFirst_73 (by decide) (fun hc => ?_) (fun hc => ?_)
    · have h := gx_f h hc
      exact J_X5_takeFirst_82 hC hw hR hr  M1 v1 h
    · have h := gx_t h hc
      refine gw_iload_n hC dX5_takeFirst_76 rfl 1 rfl ?_
      refine gw_bipush (v := (-54)) hC dX5_takeFirst_77 (by decide) ?_
      refine gw_icmp_ne (tgt := 86) hC dX5_takeFirst_79 (by decide) (fun hc => ?_) (fun hc => ?_)
      · have h := gx_f h hc
        refine gw_iconst (v := 0) hC dX5_takeFirst_86 (by decide) ?_
        exact J_X5_takeFirst_87 hC hw hR hr  M1 0 v1 h
      · have h := gx_t h hc
        exact J_X5_takeFirst_82 hC hw hR hr  M1 v1 h
  · have h := gx_f h hc
    refine gw_aload_n hC dX5_takeFirst_50 rfl 0 rfl ?_
    refine gw_iconst (v := 5) hC dX5_takeFirst_51 (by decide) ?_
    refine gw_callv (gx_rV hC (n := 1) (As := [.int 5]) (rest := []) (fun sz => c_X5_fail hw  h sz) cv_X5_92_X5_fail (by rw [hR]; exact rr_X5_takeFirst_X5_fail) ⟨(hw.lt (by decide)), _, _, _, _, gc_4 hw _, cl_X5.1⟩ rfl rfl (Nat.le_of_ble_eq_true rfl) dX5_takeFirst_52) ?_
    intro M11 h
    refine gw_goto (tgt := 143) hC dX5_takeFirst_55 (by decide) ?_
    exact gw_vret hC hr dX5_takeFirst_143 h
set_option maxRecDepth 20000 in
theorem J_X5_takeFirst_20 {z : gx_X} {d : gx_D} {w : gx_V} {ca : Nat → ClassId} (hC : gx_C z d w cX5_takeFirst 2 RX5) (hw : gx_isC ca w) (hR : gx_R z = rm_X5_takeFirst) (hr : (gx_me z).sig.returnType = none)  {Q : gx_M → Prop}   (M : gx_M) (v1 : Int32)  (h : T_X5_takeFirst_20 Q  M v1) : GW z w 2 (gx_Qv w Q (gx_s z).heap.size) M 20 [(0, .ref (gx_ad w 4)), (1, .int v1)] [] := by
  unfold T_X5_takeFirst_20 at h
  refine gw_iload_n hC dX5_takeFirst_20 rfl 1 rfl ?_
  refine gw_bipush (v := (-54)) hC dX5_takeFirst_21 (by decide) ?_
  refine gw_icmp_ne (tgt := 41) hC dX5_takeFirst_23 (by decide) (fun hc => ?_) (fun hc => ?_)
  · have h := gx_f h hc
    exact J_X5_takeFirst_41 hC hw hR hr  M v1 h
  · have h := gx_t h hc
    refine gw_aload_n hC dX5_takeFirst_26 rfl 0 rfl ?_
    refine gw_get hC cl_X5 fg_X5_35 (hw.lt (by decide)) (gc_4 hw _) (gv_X5_6 _ _ _) dX5_takeFirst_27 ?_
    refine gw_if_eq (tgt := 41) hC dX5_takeFirst_30 (by decide) (fun hc => ?_) (fun hc => ?_)
    · have h := gx_t h hc
      exact J_X5_takeFirst_41 hC hw hR hr  M v1 h
    · have h := gx_f h hc
      refine gw_aload_n hC dX5_takeFirst_33 rfl 0 rfl ?_
      refine gw_iconst (v := 4) hC dX5_takeFirst_34 (by decide) ?_
      refine gw_callv (gx_rV hC (n := 1) (As := [.int 4]) (rest := []) (fun sz => c_X5_fail hw  h sz) cv_X5_92_X5_fail (by rw [hR]; exact rr_X5_takeFirst_X5_fail) ⟨(hw.lt (by decide)), _, _, _, _, gc_4 hw _, cl_X5.1⟩ rfl rfl (Nat.le_of_ble_eq_true rfl) dX5_takeFirst_35) ?_
      intro M12 h
      refine gw_goto (tgt := 143) hC dX5_takeFirst_38 (by decide) ?_
      exact gw_vret hC hr dX5_takeFirst_143 h
set_option maxRecDepth 20000 in
theorem J_X5_takeFirst {z : gx_X} {d : gx_D} {w : gx_V} {ca : Nat → ClassId} (hC : gx_C z d w cX5_takeFirst 2 RX5) (hw : gx_isC ca w) (hR : gx_R z = rm_X5_takeFirst) (hr : (gx_me z).sig.returnType = none)   {M : gx_M} {v1 : Int32} {Q : gx_M → Prop} (h : T_X5_takeFirst M v1 Q) : GW z w 2 (gx_Qv w Q (gx_s z).heap.size) M 0 [(0, .ref (gx_ad w 4)), (1, .int v1)] [] := by
  unfold T_X5_takeFirst at h
  refine gw_iload_n hC dX5_takeFirst_0 rfl 1 rfl ?_
  refine gw_bipush (v := (-54)) hC dX5_takeFirst_1 (by decide) ?_
  refine gw_icmp_eq (tgt := 20) hC dX5_takeFirst_3 (by decide) (fun hc => ?_) (fun hc => ?_)
  · have h := gx_t h hc
    exact J_X5_takeFirst_20 hC hw hR hr  M v1 h
  · have h := gx_f h hc
    refine gw_iload_n hC dX5_takeFirst_6 rfl 1 rfl ?_
    refine gw_bipush (v := (-55)) hC dX5_takeFirst_7 (by decide) ?_
    refine gw_icmp_eq (tgt := 20) hC dX5_takeFirst_9 (by decide) (fun hc => ?_) (fun hc => ?_)
    · have h := gx_t h hc
      exact J_X5_takeFirst_20 hC hw hR hr  M v1 h
    · have h := gx_f h hc
      refine gw_aload_n hC dX5_takeFirst_12 rfl 0 rfl ?_
      refine gw_iconst (v := 1) hC dX5_takeFirst_13 (by decide) ?_
      refine gw_callv (gx_rV hC (n := 1) (As := [.int 1]) (rest := []) (fun sz => c_X5_fail hw  h sz) cv_X5_92_X5_fail (by rw [hR]; exact rr_X5_takeFirst_X5_fail) ⟨(hw.lt (by decide)), _, _, _, _, gc_4 hw _, cl_X5.1⟩ rfl rfl (Nat.le_of_ble_eq_true rfl) dX5_takeFirst_14) ?_
      intro M13 h
      refine gw_goto (tgt := 143) hC dX5_takeFirst_17 (by decide) ?_
      exact gw_vret hC hr dX5_takeFirst_143 h
theorem c_X5_takeFirst {l : Launch} {d : gx_D} {w : gx_V} {ca : Nat → ClassId} (hw : gx_isC ca w)   {M : gx_M} {v1 : Int32} {Q : gx_M → Prop} (h : T_X5_takeFirst M v1 Q) : gx_Mv l d w yX5_takeFirst cX5_takeFirst 2 rm_X5_takeFirst [.ref (gx_ad w 4), .int v1] M Q := fun sz =>
  gx_of (own := RX5) (by decide +kernel) rfl (Nat.le_of_ble_eq_true rfl) (fun z hC hl hR hsz hr => by subst hsz; exact J_X5_takeFirst hC hw hR hr  h) rfl
set_option maxRecDepth 20000 in
theorem J_X5_emit_54 {z : gx_X} {d : gx_D} {w : gx_V} {ca : Nat → ClassId} (hC : gx_C z d w cX5_emit 2 RX5) (hw : gx_isC ca w) (hR : gx_R z = rm_X5_emit) (hr : (gx_me z).sig.returnType = none)  {Q : gx_M → Prop}   (M : gx_M) (v1 : Int32)  (h : T_X5_emit_54 Q  M v1) : GW z w 2 (gx_Qv w Q (gx_s z).heap.size) M 54 [(0, .ref (gx_ad w 4)), (1, .int v1)] [] := by
  unfold T_X5_emit_54 at h
  refine gw_aload_n hC dX5_emit_54 rfl 0 rfl ?_
  refine gw_get hC cl_X5 fg_X5_42 (hw.lt (by decide)) (gc_4 hw _) (gv_X5_8 _ _ _) dX5_emit_55 ?_
  refine gw_if_ne (tgt := 108) hC dX5_emit_58 (by decide) (fun hc => ?_) (fun hc => ?_)
  · have h := gx_f h hc
    exact gw_vret hC hr dX5_emit_108 h
  · have h := gx_t h hc
    refine gw_aload_n hC dX5_emit_61 rfl 0 rfl ?_
    refine gw_get hC cl_X5 fg_X5_69 (hw.lt (by decide)) (gc_4 hw _) (gv_X5_16 _ _ _) dX5_emit_62 ?_
    obtain ⟨o1, ho1⟩ : ∃ y : Nat, y = (M 4 16).toNatClampNeg := ⟨_, rfl⟩
    obtain ⟨⟨hko1a, hko1b⟩, h⟩ := h o1 ho1
    refine gw_rr ho1 ?_
    refine gw_get hC cl_X4 fg_X5_151 (gn_Pr hw ⟨by omega, by omega⟩) (gc_Pr hw ⟨by omega, by omega⟩ _) (gv_X4_3 _ _ _) dX5_emit_65 ?_
    refine gw_aload_n hC dX5_emit_68 rfl 0 rfl ?_
    refine gw_get hC cl_X5 fg_X5_69 (hw.lt (by decide)) (gc_4 hw _) (gv_X5_16 _ _ _) dX5_emit_69 ?_
    obtain ⟨o2, ho2⟩ : ∃ y : Nat, y = (M 4 16).toNatClampNeg := ⟨_, rfl⟩
    obtain ⟨⟨hko2a, hko2b⟩, h⟩ := h o2 ho2
    refine gw_rr ho2 ?_
    refine gw_get hC cl_X4 fg_X5_154 (gn_Pr hw ⟨by omega, by omega⟩) (gc_Pr hw ⟨by omega, by omega⟩ _) (gv_X4_1 _ _ _) dX5_emit_72 ?_
    refine gw_rr (o' := 12 + o2) (by omega) ?_
    have hq3 : pk_a3 (12 + o2) := by have := gk_ho (o := o2) ⟨by omega, by omega⟩; rwa [show o2 + 12 = 12 + o2 by omega] at this
    refine gw_alen (v := 300) hC (gn_a3 hw hq3) (gc_a3 hw hq3 _) (gt_0 hw) rfl dX5_emit_75 ?_
    refine gw_icmp_ge (tgt := 108) hC dX5_emit_76 (by decide) (fun hc => ?_) (fun hc => ?_)
    · have h := gx_t h hc
      exact gw_vret hC hr dX5_emit_108 h
    · have h := gx_f h hc
      refine gw_aload_n hC dX5_emit_79 rfl 0 rfl ?_
      refine gw_get hC cl_X5 fg_X5_69 (hw.lt (by decide)) (gc_4 hw _) (gv_X5_16 _ _ _) dX5_emit_80 ?_
      obtain ⟨o4, ho4⟩ : ∃ y : Nat, y = (M 4 16).toNatClampNeg := ⟨_, rfl⟩
      obtain ⟨⟨hko4a, hko4b⟩, h⟩ := h o4 ho4
      refine gw_rr ho4 ?_
      refine gw_get hC cl_X4 fg_X5_154 (gn_Pr hw ⟨by omega, by omega⟩) (gc_Pr hw ⟨by omega, by omega⟩ _) (gv_X4_1 _ _ _) dX5_emit_83 ?_
      refine gw_rr (o' := 12 + o4) (by omega) ?_
      have hq5 : pk_a3 (12 + o4) := by have := gk_ho (o := o4) ⟨by omega, by omega⟩; rwa [show o4 + 12 = 12 + o4 by omega] at this
      refine gw_aload_n hC dX5_emit_86 rfl 0 rfl ?_
      refine gw_get hC cl_X5 fg_X5_69 (hw.lt (by decide)) (gc_4 hw _) (gv_X5_16 _ _ _) dX5_emit_87 ?_
      obtain ⟨o6, ho6⟩ : ∃ y : Nat, y = (M 4 16).toNatClampNeg := ⟨_, rfl⟩
      obtain ⟨⟨hko6a, hko6b⟩, h⟩ := h o6 ho6
      refine gw_rr ho6 ?_
      refine gw_get hC cl_X4 fg_X5_151 (gn_Pr hw ⟨by omega, by omega⟩) (gc_Pr hw ⟨by omega, by omega⟩ _) (gv_X4_3 _ _ _) dX5_emit_90 ?_
      refine gw_iload_n hC dX5_emit_93 rfl 1 rfl ?_
      obtain ⟨hi, h⟩ := h
      refine gw_iast hC (gn_a3 hw hq5) (gc_a3 hw hq5) (gt_0 hw) hi dX5_emit_94 ?_
      refine gw_nmM (fun M7 hM7 => ?_)
      have h := h M7 hM7
      refine gw_aload_n hC dX5_emit_95 rfl 0 rfl ?_
      refine gw_get hC cl_X5 fg_X5_69 (hw.lt (by decide)) (gc_4 hw _) (gv_X5_16 _ _ _) dX5_emit_96 ?_
      obtain ⟨o8, ho8⟩ : ∃ y : Nat, y = (M7 4 16).toNatClampNeg := ⟨_, rfl⟩
      obtain ⟨⟨hko8a, hko8b⟩, h⟩ := h o8 ho8
      refine gw_rr ho8 ?_
      refine gw_dup hC dX5_emit_99 rfl ?_
      refine gw_get hC cl_X4 fg_X5_151 (gn_Pr hw ⟨by omega, by omega⟩) (gc_Pr hw ⟨by omega, by omega⟩ _) (gv_X4_3 _ _ _) dX5_emit_100 ?_
      refine gw_iconst (v := 1) hC dX5_emit_103 (by decide) ?_
      refine gw_iadd hC dX5_emit_104 ?_
      refine gw_put hC cl_X4 fp_X5_151 (gn_Pr hw ⟨by omega, by omega⟩) (gc_Pr hw ⟨by omega, by omega⟩ _) ((gc_Pr hw ⟨by omega, by omega⟩ _).trans (gs_X4_3 _ _ _ _)) rfl rfl (by simp [fs_X4]) dX5_emit_105 ?_
      refine gw_nmM (fun M9 hM9 => ?_)
      have h := h M9 hM9
      exact gw_vret hC hr dX5_emit_108 h
set_option maxRecDepth 20000 in
theorem J_X5_emit {z : gx_X} {d : gx_D} {w : gx_V} {ca : Nat → ClassId} (hC : gx_C z d w cX5_emit 2 RX5) (hw : gx_isC ca w) (hR : gx_R z = rm_X5_emit) (hr : (gx_me z).sig.returnType = none)   {M : gx_M} {v1 : Int32} {Q : gx_M → Prop} (h : T_X5_emit M v1 Q) : GW z w 2 (gx_Qv w Q (gx_s z).heap.size) M 0 [(0, .ref (gx_ad w 4)), (1, .int v1)] [] := by
  unfold T_X5_emit at h
  refine gw_aload_n hC dX5_emit_0 rfl 0 rfl ?_
  refine gw_get hC cl_X5 fg_X5_42 (hw.lt (by decide)) (gc_4 hw _) (gv_X5_8 _ _ _) dX5_emit_1 ?_
  refine gw_if_eq (tgt := 54) hC dX5_emit_4 (by decide) (fun hc => ?_) (fun hc => ?_)
  · have h := gx_t h hc
    exact J_X5_emit_54 hC hw hR hr  M v1 h
  · have h := gx_f h hc
    refine gw_aload_n hC dX5_emit_7 rfl 0 rfl ?_
    refine gw_get hC cl_X5 fg_X5_69 (hw.lt (by decide)) (gc_4 hw _) (gv_X5_16 _ _ _) dX5_emit_8 ?_
    obtain ⟨o10, ho10⟩ : ∃ y : Nat, y = (M 4 16).toNatClampNeg := ⟨_, rfl⟩
    obtain ⟨⟨hko10a, hko10b⟩, h⟩ := h o10 ho10
    refine gw_rr ho10 ?_
    refine gw_get hC cl_X4 fg_X5_145 (gn_Pr hw ⟨by omega, by omega⟩) (gc_Pr hw ⟨by omega, by omega⟩ _) (gv_X4_2 _ _ _) dX5_emit_11 ?_
    refine gw_aload_n hC dX5_emit_14 rfl 0 rfl ?_
    refine gw_get hC cl_X5 fg_X5_69 (hw.lt (by decide)) (gc_4 hw _) (gv_X5_16 _ _ _) dX5_emit_15 ?_
    obtain ⟨o11, ho11⟩ : ∃ y : Nat, y = (M 4 16).toNatClampNeg := ⟨_, rfl⟩
    obtain ⟨⟨hko11a, hko11b⟩, h⟩ := h o11 ho11
    refine gw_rr ho11 ?_
    refine gw_get hC cl_X4 fg_X5_148 (gn_Pr hw ⟨by omega, by omega⟩) (gc_Pr hw ⟨by omega, by omega⟩ _) (gv_X4_0 _ _ _) dX5_emit_18 ?_
    refine gw_rr (o' := 6 + o11) (by omega) ?_
    have hq12 : pk_a3 (6 + o11) := by have := gk_be (o := o11) ⟨by omega, by omega⟩; rwa [show o11 + 6 = 6 + o11 by omega] at this
    refine gw_alen (v := 300) hC (gn_a3 hw hq12) (gc_a3 hw hq12 _) (gt_0 hw) rfl dX5_emit_21 ?_
    refine gw_icmp_ge (tgt := 54) hC dX5_emit_22 (by decide) (fun hc => ?_) (fun hc => ?_)
    · have h := gx_t h hc
      exact J_X5_emit_54 hC hw hR hr  M v1 h
    · have h := gx_f h hc
      refine gw_aload_n hC dX5_emit_25 rfl 0 rfl ?_
      refine gw_get hC cl_X5 fg_X5_69 (hw.lt (by decide)) (gc_4 hw _) (gv_X5_16 _ _ _) dX5_emit_26 ?_
      obtain ⟨o13, ho13⟩ : ∃ y : Nat, y = (M 4 16).toNatClampNeg := ⟨_, rfl⟩
      obtain ⟨⟨hko13a, hko13b⟩, h⟩ := h o13 ho13
      refine gw_rr ho13 ?_
      refine gw_get hC cl_X4 fg_X5_148 (gn_Pr hw ⟨by omega, by omega⟩) (gc_Pr hw ⟨by omega, by omega⟩ _) (gv_X4_0 _ _ _) dX5_emit_29 ?_
      refine gw_rr (o' := 6 + o13) (by omega) ?_
      have hq14 : pk_a3 (6 + o13) := by have := gk_be (o := o13) ⟨by omega, by omega⟩; rwa [show o13 + 6 = 6 + o13 by omega] at this
      refine gw_aload_n hC dX5_emit_32 rfl 0 rfl ?_
      refine gw_get hC cl_X5 fg_X5_69 (hw.lt (by decide)) (gc_4 hw _) (gv_X5_16 _ _ _) dX5_emit_33 ?_
      obtain ⟨o15, ho15⟩ : ∃ y : Nat, y = (M 4 16).toNatClampNeg := ⟨_, rfl⟩
      obtain ⟨⟨hko15a, hko15b⟩, h⟩ := h o15 ho15
      refine gw_rr ho15 ?_
      refine gw_get hC cl_X4 fg_X5_145 (gn_Pr hw ⟨by omega, by omega⟩) (gc_Pr hw ⟨by omega, by omega⟩ _) (gv_X4_2 _ _ _) dX5_emit_36 ?_
      refine gw_iload_n hC dX5_emit_39 rfl 1 rfl ?_
      obtain ⟨hi, h⟩ := h
      refine gw_iast hC (gn_a3 hw hq14) (gc_a3 hw hq14) (gt_0 hw) hi dX5_emit_40 ?_
      refine gw_nmM (fun M16 hM16 => ?_)
      have h := h M16 hM16
      refine gw_aload_n hC dX5_emit_41 rfl 0 rfl ?_
      refine gw_get hC cl_X5 fg_X5_69 (hw.lt (by decide)) (gc_4 hw _) (gv_X5_16 _ _ _) dX5_emit_42 ?_
      obtain ⟨o17, ho17⟩ : ∃ y : Nat, y = (M16 4 16).toNatClampNeg := ⟨_, rfl⟩
      obtain ⟨⟨hko17a, hko17b⟩, h⟩ := h o17 ho17
      refine gw_rr ho17 ?_
      refine gw_dup hC dX5_emit_45 rfl ?_
      refine gw_get hC cl_X4 fg_X5_145 (gn_Pr hw ⟨by omega, by omega⟩) (gc_Pr hw ⟨by omega, by omega⟩ _) (gv_X4_2 _ _ _) dX5_emit_46 ?_
      refine gw_iconst (v := 1) hC dX5_emit_49 (by decide) ?_
      refine gw_iadd hC dX5_emit_50 ?_
      refine gw_put hC cl_X4 fp_X5_145 (gn_Pr hw ⟨by omega, by omega⟩) (gc_Pr hw ⟨by omega, by omega⟩ _) ((gc_Pr hw ⟨by omega, by omega⟩ _).trans (gs_X4_2 _ _ _ _)) rfl rfl (by simp [fs_X4]) dX5_emit_51 ?_
      refine gw_nmM (fun M18 hM18 => ?_)
      have h := h M18 hM18
      exact J_X5_emit_54 hC hw hR hr  M18 v1 h
theorem c_X5_emit {l : Launch} {d : gx_D} {w : gx_V} {ca : Nat → ClassId} (hw : gx_isC ca w)   {M : gx_M} {v1 : Int32} {Q : gx_M → Prop} (h : T_X5_emit M v1 Q) : gx_Mv l d w yX5_emit cX5_emit 2 rm_X5_emit [.ref (gx_ad w 4), .int v1] M Q := fun sz =>
  gx_of (own := RX5) (by decide +kernel) rfl (Nat.le_of_ble_eq_true rfl) (fun z hC hl hR hsz hr => by subst hsz; exact J_X5_emit hC hw hR hr  h) rfl
set_option maxRecDepth 20000 in
theorem J_X5_await {z : gx_X} {d : gx_D} {w : gx_V} {ca : Nat → ClassId} (hC : gx_C z d w cX5_await 2 RX5) (hw : gx_isC ca w) (hR : gx_R z = rm_X5_await) (hr : (gx_me z).sig.returnType = none)   {M : gx_M} {v1 : Int32} {Q : gx_M → Prop} (h : T_X5_await M v1 Q) : GW z w 2 (gx_Qv w Q (gx_s z).heap.size) M 0 [(0, .ref (gx_ad w 4)), (1, .int v1)] [] := by
  unfold T_X5_await at h
  refine gw_aload_n hC dX5_await_0 rfl 0 rfl ?_
  refine gw_get hC cl_X5 fg_X5_22 (hw.lt (by decide)) (gc_4 hw _) (gv_X5_2 _ _ _) dX5_await_1 ?_
  refine gw_iconst (v := 0) hC dX5_await_4 (by decide) ?_
  refine gw_aload_n hC dX5_await_5 rfl 0 rfl ?_
  refine gw_get hC cl_X5 fg_X5_18 (hw.lt (by decide)) (gc_4 hw _) (gv_X5_1 _ _ _) dX5_await_6 ?_
  refine gw_alen (v := 300) hC (hw.lt (by decide)) (gc_a3 hw (by decide) _) (gt_0 hw) rfl dX5_await_9 ?_
  refine gw_iconst (v := 1) hC dX5_await_10 (by decide) ?_
  refine gw_isub hC dX5_await_11 ?_
  refine gw_calli (gx_rN hC (n := 3) (As := [.int (M 4 2), .int 0, .int (300 - 1)]) (rest := []) (fun sz => c_X10_within hw  h sz) cn_X5_110_X10_within (by rw [hR]; exact rr_X5_await_X10_within) rfl rfl (Nat.le_of_ble_eq_true rfl) dX5_await_12) ?_
  intro r1 m2 ⟨hm2, h⟩
  rw [hm2]
  refine gw_if_eq (tgt := 38) hC dX5_await_15 (by decide) (fun hc => ?_) (fun hc => ?_)
  · have h := gx_t h hc
    exact gw_vret hC hr dX5_await_38 h
  · have h := gx_f h hc
    refine gw_aload_n hC dX5_await_18 rfl 0 rfl ?_
    refine gw_get hC cl_X5 fg_X5_18 (hw.lt (by decide)) (gc_4 hw _) (gv_X5_1 _ _ _) dX5_await_19 ?_
    refine gw_aload_n hC dX5_await_22 rfl 0 rfl ?_
    refine gw_get hC cl_X5 fg_X5_22 (hw.lt (by decide)) (gc_4 hw _) (gv_X5_2 _ _ _) dX5_await_23 ?_
    refine gw_iload_n hC dX5_await_26 rfl 1 rfl ?_
    obtain ⟨hi, h⟩ := h
    refine gw_iast hC (hw.lt (by decide)) (gc_a3 hw (by decide)) (gt_0 hw) hi dX5_await_27 ?_
    refine gw_nmM (fun M3 hM3 => ?_)
    have h := h M3 hM3
    refine gw_aload_n hC dX5_await_28 rfl 0 rfl ?_
    refine gw_dup hC dX5_await_29 rfl ?_
    refine gw_get hC cl_X5 fg_X5_22 (hw.lt (by decide)) (gc_4 hw _) (gv_X5_2 _ _ _) dX5_await_30 ?_
    refine gw_iconst (v := 1) hC dX5_await_33 (by decide) ?_
    refine gw_iadd hC dX5_await_34 ?_
    refine gw_put hC cl_X5 fp_X5_22 (hw.lt (by decide)) (gc_4 hw _) ((gc_4 hw _).trans (gs_X5_2 _ _ _ _)) rfl rfl (by simp [fs_X5]) dX5_await_35 ?_
    refine gw_nmM (fun M4 hM4 => ?_)
    have h := h M4 hM4
    exact gw_vret hC hr dX5_await_38 h
theorem c_X5_await {l : Launch} {d : gx_D} {w : gx_V} {ca : Nat → ClassId} (hw : gx_isC ca w)   {M : gx_M} {v1 : Int32} {Q : gx_M → Prop} (h : T_X5_await M v1 Q) : gx_Mv l d w yX5_await cX5_await 2 rm_X5_await [.ref (gx_ad w 4), .int v1] M Q := fun sz =>
  gx_of (own := RX5) (by decide +kernel) rfl (Nat.le_of_ble_eq_true rfl) (fun z hC hl hR hsz hr => by subst hsz; exact J_X5_await hC hw hR hr  h) rfl
set_option maxRecDepth 20000 in
theorem J_X5_openUp_53 {z : gx_X} {d : gx_D} {w : gx_V} {ca : Nat → ClassId} (hC : gx_C z d w cX5_openUp 2 RX5) (hw : gx_isC ca w) (hR : gx_R z = rm_X5_openUp) (hr : (gx_me z).sig.returnType = none)  {Q : gx_M → Prop}   (M : gx_M) (t0 : Int32) (v1 : Int32)  (h : T_X5_openUp_53 Q  M t0 v1) : GW z w 2 (gx_Qv w Q (gx_s z).heap.size) M 53 [(0, .ref (gx_ad w 4)), (1, .int v1)] [.int t0, .ref (gx_ad w 4)] := by
  unfold T_X5_openUp_53 at h
  obtain ⟨hz, h⟩ := h
  refine gw_put hC cl_X5 fp_X5_48 (hw.lt (by decide)) (gc_4 hw _) ((gc_4 hw _).trans (gs_X5_10 _ _ _ _)) (gx_nz hz) (gx_nzf hz) (by simp [fs_X5]) dX5_openUp_53 ?_
  refine gw_nmM (fun M2 hM2 => ?_)
  have h := h M2 hM2
  refine gw_aload_n hC dX5_openUp_56 rfl 0 rfl ?_
  refine gw_iload_n hC dX5_openUp_57 rfl 1 rfl ?_
  refine gw_callv (gx_rV hC (n := 1) (As := [.int v1]) (rest := []) (fun sz => c_X5_await hw  h sz) cv_X5_117_X5_await (by rw [hR]; exact rr_X5_openUp_X5_await) ⟨(hw.lt (by decide)), _, _, _, _, gc_4 hw _, cl_X5.1⟩ rfl rfl (Nat.le_of_ble_eq_true rfl) dX5_openUp_58) ?_
  intro M3 h
  exact gw_vret hC hr dX5_openUp_61 h
set_option maxRecDepth 20000 in
theorem J_X5_openUp_41 {z : gx_X} {d : gx_D} {w : gx_V} {ca : Nat → ClassId} (hC : gx_C z d w cX5_openUp 2 RX5) (hw : gx_isC ca w) (hR : gx_R z = rm_X5_openUp) (hr : (gx_me z).sig.returnType = none)  {Q : gx_M → Prop}   (M : gx_M) (v1 : Int32)  (h : T_X5_openUp_41 Q  M v1) : GW z w 2 (gx_Qv w Q (gx_s z).heap.size) M 41 [(0, .ref (gx_ad w 4)), (1, .int v1)] [] := by
  unfold T_X5_openUp_41 at h
  refine gw_aload_n hC dX5_openUp_41 rfl 0 rfl ?_
  refine gw_iload_n hC dX5_openUp_42 rfl 1 rfl ?_
  refine gw_bipush (v := (-41)) hC dX5_openUp_43 (by decide) ?_
  refine gw_icmp_ne (tgt := 52) hC dX5_openUp_45 (by decide) (fun hc => ?_) (fun hc => ?_)
  · have h := gx_f h hc
    refine gw_iconst (v := 0) hC dX5_openUp_52 (by decide) ?_
    exact J_X5_openUp_53 hC hw hR hr  M 0 v1 h
  · have h := gx_t h hc
    refine gw_iconst (v := 1) hC dX5_openUp_48 (by decide) ?_
    refine gw_goto (tgt := 53) hC dX5_openUp_49 (by decide) ?_
    exact J_X5_openUp_53 hC hw hR hr  M 1 v1 h
set_option maxRecDepth 20000 in
theorem J_X5_openUp {z : gx_X} {d : gx_D} {w : gx_V} {ca : Nat → ClassId} (hC : gx_C z d w cX5_openUp 2 RX5) (hw : gx_isC ca w) (hR : gx_R z = rm_X5_openUp) (hr : (gx_me z).sig.returnType = none)   {M : gx_M} {v1 : Int32} {Q : gx_M → Prop} (h : T_X5_openUp M v1 Q) : GW z w 2 (gx_Qv w Q (gx_s z).heap.size) M 0 [(0, .ref (gx_ad w 4)), (1, .int v1)] [] := by
  unfold T_X5_openUp at h
  refine gw_aload_n hC dX5_openUp_0 rfl 0 rfl ?_
  refine gw_get hC cl_X5 fg_X5_26 (hw.lt (by decide)) (gc_4 hw _) (gv_X5_3 _ _ _) dX5_openUp_1 ?_
  refine gw_bipush (v := 8) hC dX5_openUp_4 (by decide) ?_
  refine gw_icmp_lt (tgt := 15) hC dX5_openUp_6 (by decide) (fun hc => ?_) (fun hc => ?_)
  · have h := gx_t h hc
    refine gw_aload_n hC dX5_openUp_15 rfl 0 rfl ?_
    refine gw_dup hC dX5_openUp_16 rfl ?_
    refine gw_get hC cl_X5 fg_X5_26 (hw.lt (by decide)) (gc_4 hw _) (gv_X5_3 _ _ _) dX5_openUp_17 ?_
    refine gw_iconst (v := 1) hC dX5_openUp_20 (by decide) ?_
    refine gw_iadd hC dX5_openUp_21 ?_
    refine gw_put hC cl_X5 fp_X5_26 (hw.lt (by decide)) (gc_4 hw _) ((gc_4 hw _).trans (gs_X5_3 _ _ _ _)) rfl rfl (by simp [fs_X5]) dX5_openUp_22 ?_
    refine gw_nmM (fun M1 hM1 => ?_)
    have h := h M1 hM1
    refine gw_iload_n hC dX5_openUp_25 rfl 1 rfl ?_
    refine gw_bipush (v := (-51)) hC dX5_openUp_26 (by decide) ?_
    refine gw_icmp_ne (tgt := 41) hC dX5_openUp_28 (by decide) (fun hc => ?_) (fun hc => ?_)
    · have h := gx_f h hc
      exact J_X5_openUp_41 hC hw hR hr  M1 v1 h
    · have h := gx_t h hc
      refine gw_aload_n hC dX5_openUp_31 rfl 0 rfl ?_
      refine gw_dup hC dX5_openUp_32 rfl ?_
      refine gw_get hC cl_X5 fg_X5_29 (hw.lt (by decide)) (gc_4 hw _) (gv_X5_4 _ _ _) dX5_openUp_33 ?_
      refine gw_iconst (v := 1) hC dX5_openUp_36 (by decide) ?_
      refine gw_iadd hC dX5_openUp_37 ?_
      refine gw_put hC cl_X5 fp_X5_29 (hw.lt (by decide)) (gc_4 hw _) ((gc_4 hw _).trans (gs_X5_4 _ _ _ _)) rfl rfl (by simp [fs_X5]) dX5_openUp_38 ?_
      refine gw_nmM (fun M4 hM4 => ?_)
      have h := h M4 hM4
      exact J_X5_openUp_41 hC hw hR hr  M4 v1 h
  · have h := gx_f h hc
    refine gw_aload_n hC dX5_openUp_9 rfl 0 rfl ?_
    refine gw_iconst (v := 3) hC dX5_openUp_10 (by decide) ?_
    refine gw_callv (gx_rV hC (n := 1) (As := [.int 3]) (rest := []) (fun sz => c_X5_fail hw  h sz) cv_X5_92_X5_fail (by rw [hR]; exact rr_X5_openUp_X5_fail) ⟨(hw.lt (by decide)), _, _, _, _, gc_4 hw _, cl_X5.1⟩ rfl rfl (Nat.le_of_ble_eq_true rfl) dX5_openUp_11) ?_
    intro M5 h
    exact gw_vret hC hr dX5_openUp_14 h
theorem c_X5_openUp {l : Launch} {d : gx_D} {w : gx_V} {ca : Nat → ClassId} (hw : gx_isC ca w)   {M : gx_M} {v1 : Int32} {Q : gx_M → Prop} (h : T_X5_openUp M v1 Q) : gx_Mv l d w yX5_openUp cX5_openUp 2 rm_X5_openUp [.ref (gx_ad w 4), .int v1] M Q := fun sz =>
  gx_of (own := RX5) (by decide +kernel) rfl (Nat.le_of_ble_eq_true rfl) (fun z hC hl hR hsz hr => by subst hsz; exact J_X5_openUp hC hw hR hr  h) rfl
set_option maxRecDepth 20000 in
theorem J_X5_takeOne_114 {z : gx_X} {d : gx_D} {w : gx_V} {ca : Nat → ClassId} (hC : gx_C z d w cX5_takeOne 2 RX5) (hw : gx_isC ca w) (hR : gx_R z = rm_X5_takeOne) (hr : (gx_me z).sig.returnType = none)  {Q : gx_M → Prop}   (M : gx_M) (t0 : Int32)  (h : T_X5_takeOne_114 Q  M t0) : GW z w 2 (gx_Qv w Q (gx_s z).heap.size) M 114 [] [.int t0, .ref (gx_ad w 4)] := by
  unfold T_X5_takeOne_114 at h
  refine gw_callv (gx_rV hC (n := 1) (As := [.int t0]) (rest := []) (fun sz => c_X5_openUp hw  h sz) cv_X5_114_X5_openUp (by rw [hR]; exact rr_X5_takeOne_X5_openUp) ⟨(hw.lt (by decide)), _, _, _, _, gc_4 hw _, cl_X5.1⟩ rfl rfl (Nat.le_of_ble_eq_true rfl) dX5_takeOne_114) ?_
  intro M3 h
  refine gw_goto (tgt := 125) hC dX5_takeOne_117 (by decide) ?_
  exact gw_vret hC hr dX5_takeOne_125 h
set_option maxRecDepth 20000 in
theorem J_X5_takeOne_101 {z : gx_X} {d : gx_D} {w : gx_V} {ca : Nat → ClassId} (hC : gx_C z d w cX5_takeOne 2 RX5) (hw : gx_isC ca w) (hR : gx_R z = rm_X5_takeOne) (hr : (gx_me z).sig.returnType = none)  {Q : gx_M → Prop}   (M : gx_M) (v1 : Int32)  (h : T_X5_takeOne_101 Q  M v1) : GW z w 2 (gx_Qv w Q (gx_s z).heap.size) M 101 [(0, .ref (gx_ad w 4)), (1, .int v1)] [] := by
  unfold T_X5_takeOne_101 at h
  refine gw_aload_n hC dX5_takeOne_101 rfl 0 rfl ?_
  refine gw_iload_n hC dX5_takeOne_102 rfl 1 rfl ?_
  refine gw_bipush (v := (-22)) hC dX5_takeOne_103 (by decide) ?_
  refine gw_icmp_ne (tgt := 113) hC dX5_takeOne_105 (by decide) (fun hc => ?_) (fun hc => ?_)
  · have h := gx_f h hc
    refine gw_iload_n hC dX5_takeOne_113 rfl 1 rfl ?_
    refine gw_sub (lv' := []) [] rfl ?_
    exact J_X5_takeOne_114 hC hw hR hr  M v1 h
  · have h := gx_t h hc
    refine gw_bipush (v := (-25)) hC dX5_takeOne_108 (by decide) ?_
    refine gw_goto (tgt := 114) hC dX5_takeOne_110 (by decide) ?_
    refine gw_sub (lv' := []) [] rfl ?_
    exact J_X5_takeOne_114 hC hw hR hr  M (-25) h
set_option maxRecDepth 20000 in
theorem J_X5_takeOne_120 {z : gx_X} {d : gx_D} {w : gx_V} {ca : Nat → ClassId} (hC : gx_C z d w cX5_takeOne 2 RX5) (hw : gx_isC ca w) (hR : gx_R z = rm_X5_takeOne) (hr : (gx_me z).sig.returnType = none)  {Q : gx_M → Prop}   (M : gx_M)  (h : T_X5_takeOne_120 Q  M) : GW z w 2 (gx_Qv w Q (gx_s z).heap.size) M 120 [(0, .ref (gx_ad w 4))] [] := by
  unfold T_X5_takeOne_120 at h
  refine gw_aload_n hC dX5_takeOne_120 rfl 0 rfl ?_
  refine gw_iconst (v := 1) hC dX5_takeOne_121 (by decide) ?_
  refine gw_callv (gx_rV hC (n := 1) (As := [.int 1]) (rest := []) (fun sz => c_X5_fail hw  h sz) cv_X5_92_X5_fail (by rw [hR]; exact rr_X5_takeOne_X5_fail) ⟨(hw.lt (by decide)), _, _, _, _, gc_4 hw _, cl_X5.1⟩ rfl rfl (Nat.le_of_ble_eq_true rfl) dX5_takeOne_122) ?_
  intro M4 h
  exact gw_vret hC hr dX5_takeOne_125 h
set_option maxRecDepth 20000 in
theorem J_X5_takeOne_27 {z : gx_X} {d : gx_D} {w : gx_V} {ca : Nat → ClassId} (hC : gx_C z d w cX5_takeOne 2 RX5) (hw : gx_isC ca w) (hR : gx_R z = rm_X5_takeOne) (hr : (gx_me z).sig.returnType = none)  {Q : gx_M → Prop}   (M : gx_M) (v1 : Int32)  (h : T_X5_takeOne_27 Q  M v1) : GW z w 2 (gx_Qv w Q (gx_s z).heap.size) M 27 [(0, .ref (gx_ad w 4)), (1, .int v1)] [] := by
  unfold T_X5_takeOne_27 at h
  refine gw_iload_n hC dX5_takeOne_27 rfl 1 rfl ?_
  refine gw_bipush (v := (-56)) hC dX5_takeOne_28 (by decide) ?_
  refine gw_icmp_ne (tgt := 52) hC dX5_takeOne_30 (by decide) (fun hc => ?_) (fun hc => ?_)
  · have h := gx_f h hc
    refine gw_iload_n hC dX5_takeOne_52 rfl 1 rfl ?_
    refine gw_bipush (v := (-17)) hC dX5_takeOne_53 (by decide) ?_
    refine gw_bipush (v := (-11)) hC dX5_takeOne_55 (by decide) ?_
    refine gw_calli (gx_rN hC (n := 3) (As := [.int v1, .int (-17), .int (-11)]) (rest := []) (fun sz => c_X10_within hw  h sz) cn_X5_110_X10_within (by rw [hR]; exact rr_X5_takeOne_X10_within) rfl rfl (Nat.le_of_ble_eq_true rfl) dX5_takeOne_57) ?_
    intro r1 m2 ⟨hm2, h⟩
    rw [hm2]
    refine gw_if_eq (tgt := 76) hC dX5_takeOne_60 (by decide) (fun hc => ?_) (fun hc => ?_)
    · have h := gx_t h hc
      refine gw_iload_n hC dX5_takeOne_76 rfl 1 rfl ?_
      refine gw_bipush (v := (-51)) hC dX5_takeOne_77 (by decide) ?_
      refine gw_icmp_eq (tgt := 101) hC dX5_takeOne_79 (by decide) (fun hc => ?_) (fun hc => ?_)
      · have h := gx_t h hc
        exact J_X5_takeOne_101 hC hw hR hr  M v1 h
      · have h := gx_f h hc
        refine gw_iload_n hC dX5_takeOne_82 rfl 1 rfl ?_
        refine gw_bipush (v := (-22)) hC dX5_takeOne_83 (by decide) ?_
        refine gw_icmp_eq (tgt := 101) hC dX5_takeOne_85 (by decide) (fun hc => ?_) (fun hc => ?_)
        · have h := gx_t h hc
          exact J_X5_takeOne_101 hC hw hR hr  M v1 h
        · have h := gx_f h hc
          refine gw_iload_n hC dX5_takeOne_88 rfl 1 rfl ?_
          refine gw_bipush (v := (-41)) hC dX5_takeOne_89 (by decide) ?_
          refine gw_icmp_ne (tgt := 120) hC dX5_takeOne_91 (by decide) (fun hc => ?_) (fun hc => ?_)
          · have h := gx_f h hc
            refine gw_sub (lv' := [(0, .ref (gx_ad w 4))]) [0] rfl ?_
            exact J_X5_takeOne_120 hC hw hR hr  M h
          · have h := gx_t h hc
            refine gw_aload_n hC dX5_takeOne_94 rfl 0 rfl ?_
            refine gw_get hC cl_X5 fg_X5_48 (hw.lt (by decide)) (gc_4 hw _) (gv_X5_10 _ _ _) dX5_takeOne_95 ?_
            refine gw_if_eq (tgt := 120) hC dX5_takeOne_98 (by decide) (fun hc => ?_) (fun hc => ?_)
            · have h := gx_t h hc
              refine gw_sub (lv' := [(0, .ref (gx_ad w 4))]) [0] rfl ?_
              exact J_X5_takeOne_120 hC hw hR hr  M h
            · have h := gx_f h hc
              exact J_X5_takeOne_101 hC hw hR hr  M v1 h
    · have h := gx_f h hc
      refine gw_aload_n hC dX5_takeOne_63 rfl 0 rfl ?_
      refine gw_iload_n hC dX5_takeOne_64 rfl 1 rfl ?_
      refine gw_callv (gx_rV hC (n := 1) (As := [.int v1]) (rest := []) (fun sz => c_X5_emit hw  h sz) cv_X5_107_X5_emit (by rw [hR]; exact rr_X5_takeOne_X5_emit) ⟨(hw.lt (by decide)), _, _, _, _, gc_4 hw _, cl_X5.1⟩ rfl rfl (Nat.le_of_ble_eq_true rfl) dX5_takeOne_65) ?_
      intro M5 h
      refine gw_aload_n hC dX5_takeOne_68 rfl 0 rfl ?_
      refine gw_iconst (v := 0) hC dX5_takeOne_69 (by decide) ?_
      refine gw_put hC cl_X5 fp_X5_45 (hw.lt (by decide)) (gc_4 hw _) ((gc_4 hw _).trans (gs_X5_9 _ _ _ _)) rfl rfl (by simp [fs_X5]) dX5_takeOne_70 ?_
      refine gw_nmM (fun M6 hM6 => ?_)
      have h := h M6 hM6
      refine gw_goto (tgt := 125) hC dX5_takeOne_73 (by decide) ?_
      exact gw_vret hC hr dX5_takeOne_125 h
  · have h := gx_t h hc
    refine gw_aload_n hC dX5_takeOne_33 rfl 0 rfl ?_
    refine gw_aload_n hC dX5_takeOne_34 rfl 0 rfl ?_
    refine gw_get hC cl_X5 fg_X5_12 (hw.lt (by decide)) (gc_4 hw _) (gv_X5_0 _ _ _) dX5_takeOne_35 ?_
    refine gw_get hC cl_X6 fg_X5_104 (hw.lt (by decide)) (gc_5 hw _) (gv_X6_5 _ _ _) dX5_takeOne_38 ?_
    refine gw_callv (gx_rV hC (n := 1) (As := [.int (M 5 5)]) (rest := []) (fun sz => c_X5_emit hw  h sz) cv_X5_107_X5_emit (by rw [hR]; exact rr_X5_takeOne_X5_emit) ⟨(hw.lt (by decide)), _, _, _, _, gc_4 hw _, cl_X5.1⟩ rfl rfl (Nat.le_of_ble_eq_true rfl) dX5_takeOne_41) ?_
    intro M7 h
    refine gw_aload_n hC dX5_takeOne_44 rfl 0 rfl ?_
    refine gw_iconst (v := 0) hC dX5_takeOne_45 (by decide) ?_
    refine gw_put hC cl_X5 fp_X5_45 (hw.lt (by decide)) (gc_4 hw _) ((gc_4 hw _).trans (gs_X5_9 _ _ _ _)) rfl rfl (by simp [fs_X5]) dX5_takeOne_46 ?_
    refine gw_nmM (fun M8 hM8 => ?_)
    have h := h M8 hM8
    refine gw_goto (tgt := 125) hC dX5_takeOne_49 (by decide) ?_
    exact gw_vret hC hr dX5_takeOne_125 h
set_option maxRecDepth 20000 in
theorem J_X5_takeOne {z : gx_X} {d : gx_D} {w : gx_V} {ca : Nat → ClassId} (hC : gx_C z d w cX5_takeOne 2 RX5) (hw : gx_isC ca w) (hR : gx_R z = rm_X5_takeOne) (hr : (gx_me z).sig.returnType = none)   {M : gx_M} {v1 : Int32} {Q : gx_M → Prop} (h : T_X5_takeOne M v1 Q) : GW z w 2 (gx_Qv w Q (gx_s z).heap.size) M 0 [(0, .ref (gx_ad w 4)), (1, .int v1)] [] := by
  unfold T_X5_takeOne at h
  refine gw_iload_n hC dX5_takeOne_0 rfl 1 rfl ?_
  refine gw_bipush (v := (-56)) hC dX5_takeOne_1 (by decide) ?_
  refine gw_icmp_ne (tgt := 27) hC dX5_takeOne_3 (by decide) (fun hc => ?_) (fun hc => ?_)
  · have h := gx_f h hc
    exact J_X5_takeOne_27 hC hw hR hr  M v1 h
  · have h := gx_t h hc
    refine gw_aload_n hC dX5_takeOne_6 rfl 0 rfl ?_
    refine gw_get hC cl_X5 fg_X5_12 (hw.lt (by decide)) (gc_4 hw _) (gv_X5_0 _ _ _) dX5_takeOne_7 ?_
    refine gw_get hC cl_X6 fg_X5_104 (hw.lt (by decide)) (gc_5 hw _) (gv_X6_5 _ _ _) dX5_takeOne_10 ?_
    refine gw_sipush (v := 9999) hC dX5_takeOne_13 (by decide) ?_
    refine gw_icmp_le (tgt := 27) hC dX5_takeOne_16 (by decide) (fun hc => ?_) (fun hc => ?_)
    · have h := gx_t h hc
      exact J_X5_takeOne_27 hC hw hR hr  M v1 h
    · have h := gx_f h hc
      refine gw_aload_n hC dX5_takeOne_19 rfl 0 rfl ?_
      refine gw_iconst (v := 2) hC dX5_takeOne_20 (by decide) ?_
      refine gw_callv (gx_rV hC (n := 1) (As := [.int 2]) (rest := []) (fun sz => c_X5_fail hw  h sz) cv_X5_92_X5_fail (by rw [hR]; exact rr_X5_takeOne_X5_fail) ⟨(hw.lt (by decide)), _, _, _, _, gc_4 hw _, cl_X5.1⟩ rfl rfl (Nat.le_of_ble_eq_true rfl) dX5_takeOne_21) ?_
      intro M9 h
      refine gw_goto (tgt := 125) hC dX5_takeOne_24 (by decide) ?_
      exact gw_vret hC hr dX5_takeOne_125 h
theorem c_X5_takeOne {l : Launch} {d : gx_D} {w : gx_V} {ca : Nat → ClassId} (hw : gx_isC ca w)   {M : gx_M} {v1 : Int32} {Q : gx_M → Prop} (h : T_X5_takeOne M v1 Q) : gx_Mv l d w yX5_takeOne cX5_takeOne 2 rm_X5_takeOne [.ref (gx_ad w 4), .int v1] M Q := fun sz =>
  gx_of (own := RX5) (by decide +kernel) rfl (Nat.le_of_ble_eq_true rfl) (fun z hC hl hR hsz hr => by subst hsz; exact J_X5_takeOne hC hw hR hr  h) rfl
set_option maxRecDepth 20000 in
theorem J_X5_strength {z : gx_X} {d : gx_D} {w : gx_V} {ca : Nat → ClassId} (hC : gx_C z d w cX5_strength 1 RX5) (hw : gx_isC ca w) (hR : gx_R z = rm_X5_strength) (hr : (gx_me z).sig.returnType = (some .int))   {M : gx_M} {v0 : Int32} {Q : Int32 → Prop} (h : T_X5_strength M v0 Q) : GW z w 1 (gx_Qi w (fun r M1 => M1 = M ∧ Q r) (gx_s z).heap.size) M 0 [(0, .int v0)] [] := by
  unfold T_X5_strength at h
  refine gw_iload_n hC dX5_strength_0 rfl 0 rfl ?_
  by_cases hs1 : v0 = (-43)
  · have h := gx_t h hs1
    refine gw_tabIn (tgt := 108) (off := 107) (v := (-43)) hC dX5_strength_1 hs1 (by decide) (by decide) (by decide) (by decide) ?_
    refine gw_iconst (v := 1) hC dX5_strength_108 (by decide) ?_
    exact gw_iret hC hr dX5_strength_109 ⟨rfl, h⟩
  have h := gx_f h hs1
  by_cases hs2 : v0 = (-42)
  · have h := gx_t h hs2
    refine gw_tabIn (tgt := 110) (off := 109) (v := (-42)) hC dX5_strength_1 hs2 (by decide) (by decide) (by decide) (by decide) ?_
    refine gw_iconst (v := 2) hC dX5_strength_110 (by decide) ?_
    exact gw_iret hC hr dX5_strength_111 ⟨rfl, h⟩
  have h := gx_f h hs2
  by_cases hs3 : v0 = (-41)
  · have h := gx_t h hs3
    refine gw_tabIn (tgt := 112) (off := 111) (v := (-41)) hC dX5_strength_1 hs3 (by decide) (by decide) (by decide) (by decide) ?_
    refine gw_iconst (v := 3) hC dX5_strength_112 (by decide) ?_
    exact gw_iret hC hr dX5_strength_113 ⟨rfl, h⟩
  have h := gx_f h hs3
  by_cases hs4 : v0 = (-40)
  · have h := gx_t h hs4
    refine gw_tabIn (tgt := 124) (off := 123) (v := (-40)) hC dX5_strength_1 hs4 (by decide) (by decide) (by decide) (by decide) ?_
    refine gw_iconst (v := 0) hC dX5_strength_124 (by decide) ?_
    exact gw_iret hC hr dX5_strength_125 ⟨rfl, h⟩
  have h := gx_f h hs4
  by_cases hs5 : v0 = (-39)
  · have h := gx_t h hs5
    refine gw_tabIn (tgt := 124) (off := 123) (v := (-39)) hC dX5_strength_1 hs5 (by decide) (by decide) (by decide) (by decide) ?_
    refine gw_iconst (v := 0) hC dX5_strength_124 (by decide) ?_
    exact gw_iret hC hr dX5_strength_125 ⟨rfl, h⟩
  have h := gx_f h hs5
  by_cases hs6 : v0 = (-38)
  · have h := gx_t h hs6
    refine gw_tabIn (tgt := 124) (off := 123) (v := (-38)) hC dX5_strength_1 hs6 (by decide) (by decide) (by decide) (by decide) ?_
    refine gw_iconst (v := 0) hC dX5_strength_124 (by decide) ?_
    exact gw_iret hC hr dX5_strength_125 ⟨rfl, h⟩
  have h := gx_f h hs6
  by_cases hs7 : v0 = (-37)
  · have h := gx_t h hs7
    refine gw_tabIn (tgt := 124) (off := 123) (v := (-37)) hC dX5_strength_1 hs7 (by decide) (by decide) (by decide) (by decide) ?_
    refine gw_iconst (v := 0) hC dX5_strength_124 (by decide) ?_
    exact gw_iret hC hr dX5_strength_125 ⟨rfl, h⟩
  have h := gx_f h hs7
  by_cases hs8 : v0 = (-36)
  · have h := gx_t h hs8
    refine gw_tabIn (tgt := 114) (off := 113) (v := (-36)) hC dX5_strength_1 hs8 (by decide) (by decide) (by decide) (by decide) ?_
    refine gw_iconst (v := 4) hC dX5_strength_114 (by decide) ?_
    exact gw_iret hC hr dX5_strength_115 ⟨rfl, h⟩
  have h := gx_f h hs8
  by_cases hs9 : v0 = (-35)
  · have h := gx_t h hs9
    refine gw_tabIn (tgt := 114) (off := 113) (v := (-35)) hC dX5_strength_1 hs9 (by decide) (by decide) (by decide) (by decide) ?_
    refine gw_iconst (v := 4) hC dX5_strength_114 (by decide) ?_
    exact gw_iret hC hr dX5_strength_115 ⟨rfl, h⟩
  have h := gx_f h hs9
  by_cases hs10 : v0 = (-34)
  · have h := gx_t h hs10
    refine gw_tabIn (tgt := 114) (off := 113) (v := (-34)) hC dX5_strength_1 hs10 (by decide) (by decide) (by decide) (by decide) ?_
    refine gw_iconst (v := 4) hC dX5_strength_114 (by decide) ?_
    exact gw_iret hC hr dX5_strength_115 ⟨rfl, h⟩
  have h := gx_f h hs10
  by_cases hs11 : v0 = (-33)
  · have h := gx_t h hs11
    refine gw_tabIn (tgt := 114) (off := 113) (v := (-33)) hC dX5_strength_1 hs11 (by decide) (by decide) (by decide) (by decide) ?_
    refine gw_iconst (v := 4) hC dX5_strength_114 (by decide) ?_
    exact gw_iret hC hr dX5_strength_115 ⟨rfl, h⟩
  have h := gx_f h hs11
  by_cases hs12 : v0 = (-32)
  · have h := gx_t h hs12
    refine gw_tabIn (tgt := 114) (off := 113) (v := (-32)) hC dX5_strength_1 hs12 (by decide) (by decide) (by decide) (by decide) ?_
    refine gw_iconst (v := 4) hC dX5_strength_114 (by decide) ?_
    exact gw_iret hC hr dX5_strength_115 ⟨rfl, h⟩
  have h := gx_f h hs12
  by_cases hs13 : v0 = (-31)
  · have h := gx_t h hs13
    refine gw_tabIn (tgt := 114) (off := 113) (v := (-31)) hC dX5_strength_1 hs13 (by decide) (by decide) (by decide) (by decide) ?_
    refine gw_iconst (v := 4) hC dX5_strength_114 (by decide) ?_
    exact gw_iret hC hr dX5_strength_115 ⟨rfl, h⟩
  have h := gx_f h hs13
  by_cases hs14 : v0 = (-30)
  · have h := gx_t h hs14
    refine gw_tabIn (tgt := 124) (off := 123) (v := (-30)) hC dX5_strength_1 hs14 (by decide) (by decide) (by decide) (by decide) ?_
    refine gw_iconst (v := 0) hC dX5_strength_124 (by decide) ?_
    exact gw_iret hC hr dX5_strength_125 ⟨rfl, h⟩
  have h := gx_f h hs14
  by_cases hs15 : v0 = (-29)
  · have h := gx_t h hs15
    refine gw_tabIn (tgt := 124) (off := 123) (v := (-29)) hC dX5_strength_1 hs15 (by decide) (by decide) (by decide) (by decide) ?_
    refine gw_iconst (v := 0) hC dX5_strength_124 (by decide) ?_
    exact gw_iret hC hr dX5_strength_125 ⟨rfl, h⟩
  have h := gx_f h hs15
  by_cases hs16 : v0 = (-28)
  · have h := gx_t h hs16
    refine gw_tabIn (tgt := 124) (off := 123) (v := (-28)) hC dX5_strength_1 hs16 (by decide) (by decide) (by decide) (by decide) ?_
    refine gw_iconst (v := 0) hC dX5_strength_124 (by decide) ?_
    exact gw_iret hC hr dX5_strength_125 ⟨rfl, h⟩
  have h := gx_f h hs16
  by_cases hs17 : v0 = (-27)
  · have h := gx_t h hs17
    refine gw_tabIn (tgt := 124) (off := 123) (v := (-27)) hC dX5_strength_1 hs17 (by decide) (by decide) (by decide) (by decide) ?_
    refine gw_iconst (v := 0) hC dX5_strength_124 (by decide) ?_
    exact gw_iret hC hr dX5_strength_125 ⟨rfl, h⟩
  have h := gx_f h hs17
  by_cases hs18 : v0 = (-26)
  · have h := gx_t h hs18
    refine gw_tabIn (tgt := 124) (off := 123) (v := (-26)) hC dX5_strength_1 hs18 (by decide) (by decide) (by decide) (by decide) ?_
    refine gw_iconst (v := 0) hC dX5_strength_124 (by decide) ?_
    exact gw_iret hC hr dX5_strength_125 ⟨rfl, h⟩
  have h := gx_f h hs18
  by_cases hs19 : v0 = (-25)
  · have h := gx_t h hs19
    refine gw_tabIn (tgt := 121) (off := 120) (v := (-25)) hC dX5_strength_1 hs19 (by decide) (by decide) (by decide) (by decide) ?_
    refine gw_bipush (v := 7) hC dX5_strength_121 (by decide) ?_
    exact gw_iret hC hr dX5_strength_123 ⟨rfl, h⟩
  have h := gx_f h hs19
  by_cases hs20 : v0 = (-24)
  · have h := gx_t h hs20
    refine gw_tabIn (tgt := 118) (off := 117) (v := (-24)) hC dX5_strength_1 hs20 (by decide) (by decide) (by decide) (by decide) ?_
    refine gw_bipush (v := 6) hC dX5_strength_118 (by decide) ?_
    exact gw_iret hC hr dX5_strength_120 ⟨rfl, h⟩
  have h := gx_f h hs20
  by_cases hs21 : v0 = (-23)
  · have h := gx_t h hs21
    refine gw_tabIn (tgt := 118) (off := 117) (v := (-23)) hC dX5_strength_1 hs21 (by decide) (by decide) (by decide) (by decide) ?_
    refine gw_bipush (v := 6) hC dX5_strength_118 (by decide) ?_
    exact gw_iret hC hr dX5_strength_120 ⟨rfl, h⟩
  have h := gx_f h hs21
  by_cases hs22 : v0 = (-22)
  · have h := gx_t h hs22
    refine gw_tabIn (tgt := 116) (off := 115) (v := (-22)) hC dX5_strength_1 hs22 (by decide) (by decide) (by decide) (by decide) ?_
    refine gw_iconst (v := 5) hC dX5_strength_116 (by decide) ?_
    exact gw_iret hC hr dX5_strength_117 ⟨rfl, h⟩
  have h := gx_f h hs22
  by_cases hs23 : v0 = (-21)
  · have h := gx_t h hs23
    refine gw_tabIn (tgt := 116) (off := 115) (v := (-21)) hC dX5_strength_1 hs23 (by decide) (by decide) (by decide) (by decide) ?_
    refine gw_iconst (v := 5) hC dX5_strength_116 (by decide) ?_
    exact gw_iret hC hr dX5_strength_117 ⟨rfl, h⟩
  have h := gx_f h hs23
  refine gw_tabOut (tgt := 124) 23 hC dX5_strength_1 (by decide) (fun j hj => match j, hj with | 0, _ => fun e => hs1 (e.trans (by decide)) | 1, _ => fun e => hs2 (e.trans (by decide)) | 2, _ => fun e => hs3 (e.trans (by decide)) | 3, _ => fun e => hs4 (e.trans (by decide)) | 4, _ => fun e => hs5 (e.trans (by decide)) | 5, _ => fun e => hs6 (e.trans (by decide)) | 6, _ => fun e => hs7 (e.trans (by decide)) | 7, _ => fun e => hs8 (e.trans (by decide)) | 8, _ => fun e => hs9 (e.trans (by decide)) | 9, _ => fun e => hs10 (e.trans (by decide)) | 10, _ => fun e => hs11 (e.trans (by decide)) | 11, _ => fun e => hs12 (e.trans (by decide)) | 12, _ => fun e => hs13 (e.trans (by decide)) | 13, _ => fun e => hs14 (e.trans (by decide)) | 14, _ => fun e => hs15 (e.trans (by decide)) | 15, _ => fun e => hs16 (e.trans (by decide)) | 16, _ => fun e => hs17 (e.trans (by decide)) | 17, _ => fun e => hs18 (e.trans (by decide)) | 18, _ => fun e => hs19 (e.trans (by decide)) | 19, _ => fun e => hs20 (e.trans (by decide)) | 20, _ => fun e => hs21 (e.trans (by decide)) | 21, _ => fun e => hs22 (e.trans (by decide)) | 22, _ => fun e => hs23 (e.trans (by decide)) | n + 23, hj => absurd hj (by omega)) (by decide) ?_
  refine gw_iconst (v := 0) hC dX5_strength_124 (by decide) ?_
  exact gw_iret hC hr dX5_strength_125 ⟨rfl, h⟩
theorem c_X5_strength {l : Launch} {d : gx_D} {w : gx_V} {ca : Nat → ClassId} (hw : gx_isC ca w)   {M : gx_M} {v0 : Int32} {Q : Int32 → Prop} (h : T_X5_strength M v0 Q) : gx_Mi l d w yX5_strength cX5_strength 1 .int rm_X5_strength [.int v0] M (fun r M1 => M1 = M ∧ Q r) := fun sz =>
  gx_of (own := RX5) (by decide +kernel) rfl (Nat.le_of_ble_eq_true rfl) (fun z hC hl hR hsz hr => by subst hsz; exact J_X5_strength hC hw hR hr  h) rfl
set_option maxRecDepth 20000 in
theorem J_X5_unwind_62 {z : gx_X} {d : gx_D} {w : gx_V} {ca : Nat → ClassId} (hC : gx_C z d w cX5_unwind 4 RX5) (hw : gx_isC ca w) (hR : gx_R z = rm_X5_unwind) (hr : (gx_me z).sig.returnType = none)  {Q : gx_M → Prop} {K15 : gx_M → Int32 → Int32 → Prop} (hK15 : ∀ (M : gx_M) (v1 : Int32) (v2 : Int32), K15 M v1 v2 → GW z w 4 (gx_Qv w Q (gx_s z).heap.size) M 15 [(0, .ref (gx_ad w 4)), (1, .int v1), (2, .int v2)] []) (M : gx_M) (v1 : Int32) (v2 : Int32)  (h : T_X5_unwind_62 Q K15 M v1 v2) : GW z w 4 (gx_Qv w Q (gx_s z).heap.size) M 62 [(0, .ref (gx_ad w 4)), (1, .int v1), (2, .int v2)] [] := by
  unfold T_X5_unwind_62 at h
  refine gw_aload_n hC dX5_unwind_62 rfl 0 rfl ?_
  refine gw_iload_n hC dX5_unwind_63 rfl 2 rfl ?_
  refine gw_put hC cl_X5 fp_X5_22 (hw.lt (by decide)) (gc_4 hw _) ((gc_4 hw _).trans (gs_X5_2 _ _ _ _)) rfl rfl (by simp [fs_X5]) dX5_unwind_64 ?_
  refine gw_nmM (fun M7 hM7 => ?_)
  have h := h M7 hM7
  obtain ⟨x8, hx8⟩ : ∃ y : Int32, y = v2 + (-1) := ⟨_, rfl⟩
  have h := h x8 hx8
  refine gw_iinc (v := x8) (lv' := [(2, .int x8), (0, .ref (gx_ad w 4)), (1, .int v1)]) hC dX5_unwind_67 (k := 2) rfl (by rw [hx8]; rfl) (by decide) rfl ?_
  refine gw_goto (tgt := 15) hC dX5_unwind_70 (by decide) ?_
  refine gw_sub (lv' := [(0, .ref (gx_ad w 4)), (1, .int v1), (2, .int x8)]) [1, 2, 0] rfl ?_
  exact hK15 M7 v1 x8 h
set_option maxRecDepth 20000 in
theorem J_X5_unwind_52 {z : gx_X} {d : gx_D} {w : gx_V} {ca : Nat → ClassId} (hC : gx_C z d w cX5_unwind 4 RX5) (hw : gx_isC ca w) (hR : gx_R z = rm_X5_unwind) (hr : (gx_me z).sig.returnType = none)  {Q : gx_M → Prop} {K15 : gx_M → Int32 → Int32 → Prop} (hK15 : ∀ (M : gx_M) (v1 : Int32) (v2 : Int32), K15 M v1 v2 → GW z w 4 (gx_Qv w Q (gx_s z).heap.size) M 15 [(0, .ref (gx_ad w 4)), (1, .int v1), (2, .int v2)] []) (M : gx_M) (v1 : Int32) (v2 : Int32)  (h : T_X5_unwind_52 Q K15 M v1 v2) : GW z w 4 (gx_Qv w Q (gx_s z).heap.size) M 52 [(0, .ref (gx_ad w 4)), (1, .int v1), (2, .int v2)] [] := by
  unfold T_X5_unwind_52 at h
  refine gw_aload_n hC dX5_unwind_52 rfl 0 rfl ?_
  refine gw_dup hC dX5_unwind_53 rfl ?_
  refine gw_get hC cl_X5 fg_X5_26 (hw.lt (by decide)) (gc_4 hw _) (gv_X5_3 _ _ _) dX5_unwind_54 ?_
  refine gw_iconst (v := 1) hC dX5_unwind_57 (by decide) ?_
  refine gw_isub hC dX5_unwind_58 ?_
  refine gw_put hC cl_X5 fp_X5_26 (hw.lt (by decide)) (gc_4 hw _) ((gc_4 hw _).trans (gs_X5_3 _ _ _ _)) rfl rfl (by simp [fs_X5]) dX5_unwind_59 ?_
  refine gw_nmM (fun M6 hM6 => ?_)
  have h := h M6 hM6
  exact J_X5_unwind_62 hC hw hR hr hK15 M6 v1 v2 h
set_option maxRecDepth 20000 in
theorem J_X5_unwind_15 {z : gx_X} {d : gx_D} {w : gx_V} {ca : Nat → ClassId} (hC : gx_C z d w cX5_unwind 4 RX5) (hw : gx_isC ca w) (hR : gx_R z = rm_X5_unwind) (hr : (gx_me z).sig.returnType = none)  {Q : gx_M → Prop}   : ∀ (n : Nat) (M : gx_M) (v1 : Int32) (v2 : Int32) , T_X5_unwind_15 Q  n M v1 v2 → GW z w 4 (gx_Qv w Q (gx_s z).heap.size) M 15 [(0, .ref (gx_ad w 4)), (1, .int v1), (2, .int v2)] [] := by
  intro n
  induction n with
  | zero =>
    intro M v1 v2 h
    exact h.elim
  | succ n ih =>
    intro M v1 v2 h
    rw [T_X5_unwind_15] at h
    refine gw_iload_n hC dX5_unwind_15 rfl 2 rfl ?_
    refine gw_if_lt (tgt := 73) hC dX5_unwind_16 (by decide) (fun hc => ?_) (fun hc => ?_)
    · have h := gx_t h hc
      exact gw_vret hC hr dX5_unwind_73 h
    · have h := gx_f h hc
      refine gw_aload_n hC dX5_unwind_19 rfl 0 rfl ?_
      refine gw_get hC cl_X5 fg_X5_18 (hw.lt (by decide)) (gc_4 hw _) (gv_X5_1 _ _ _) dX5_unwind_20 ?_
      refine gw_iload_n hC dX5_unwind_23 rfl 2 rfl ?_
      obtain ⟨hi, h⟩ := h
      refine gw_iald hC (hw.lt (by decide)) (gc_a3 hw (by decide) _) (gt_0 hw) hi dX5_unwind_24 ?_
      refine gw_nm (fun x2 hx2 => ?_)
      have h := h x2 hx2
      refine gw_istore_n (lv' := [(3, .int x2), (0, .ref (gx_ad w 4)), (1, .int v1), (2, .int v2)]) hC dX5_unwind_25 rfl (by decide) rfl ?_
      refine gw_iload_n hC dX5_unwind_26 rfl 0 rfl ?_
      refine gw_calli (gx_rS hC (n := 1) (As := [.int x2]) (rest := []) (fun sz => c_X5_strength hw  h sz) cs_X5_129_X5_strength (by rw [hR]; exact rr_X5_unwind_X5_strength) rfl rfl (Nat.le_of_ble_eq_true rfl) dX5_unwind_27) ?_
      intro r3 m4 ⟨hm4, h⟩
      rw [hm4]
      refine gw_iload_n hC dX5_unwind_30 rfl 2 rfl ?_
      refine gw_icmp_ge (tgt := 35) hC dX5_unwind_31 (by decide) (fun hc => ?_) (fun hc => ?_)
      · have h := gx_t h hc
        refine gw_aload_n hC dX5_unwind_35 rfl 1 rfl ?_
        refine gw_iload_n hC dX5_unwind_36 rfl 0 rfl ?_
        refine gw_callv (gx_rV hC (n := 1) (As := [.int x2]) (rest := []) (fun sz => c_X5_emit hw  h sz) cv_X5_107_X5_emit (by rw [hR]; exact rr_X5_unwind_X5_emit) ⟨(hw.lt (by decide)), _, _, _, _, gc_4 hw _, cl_X5.1⟩ rfl rfl (Nat.le_of_ble_eq_true rfl) dX5_unwind_37) ?_
        intro M5 h
        refine gw_iload_n hC dX5_unwind_40 rfl 0 rfl ?_
        refine gw_bipush (v := (-25)) hC dX5_unwind_41 (by decide) ?_
        refine gw_icmp_eq (tgt := 52) hC dX5_unwind_43 (by decide) (fun hc => ?_) (fun hc => ?_)
        · have h := gx_t h hc
          refine gw_sub (lv' := [(0, .ref (gx_ad w 4)), (1, .int v1), (2, .int v2)]) [1, 2, 3] rfl ?_
          exact J_X5_unwind_52 hC hw hR hr ih M5 v1 v2 h
        · have h := gx_f h hc
          refine gw_iload_n hC dX5_unwind_46 rfl 0 rfl ?_
          refine gw_bipush (v := (-41)) hC dX5_unwind_47 (by decide) ?_
          refine gw_icmp_ne (tgt := 62) hC dX5_unwind_49 (by decide) (fun hc => ?_) (fun hc => ?_)
          · have h := gx_f h hc
            refine gw_sub (lv' := [(0, .ref (gx_ad w 4)), (1, .int v1), (2, .int v2)]) [1, 2, 3] rfl ?_
            exact J_X5_unwind_62 hC hw hR hr ih M5 v1 v2 h
          · have h := gx_t h hc
            refine gw_sub (lv' := [(0, .ref (gx_ad w 4)), (1, .int v1), (2, .int v2)]) [1, 2, 3] rfl ?_
            exact J_X5_unwind_52 hC hw hR hr ih M5 v1 v2 h
      · have h := gx_f h hc
        exact gw_vret hC hr dX5_unwind_34 h
set_option maxRecDepth 20000 in
theorem J_X5_unwind {z : gx_X} {d : gx_D} {w : gx_V} {ca : Nat → ClassId} (hC : gx_C z d w cX5_unwind 4 RX5) (hw : gx_isC ca w) (hR : gx_R z = rm_X5_unwind) (hr : (gx_me z).sig.returnType = none)   {M : gx_M} {v1 : Int32} {Q : gx_M → Prop} (h : T_X5_unwind M v1 Q) : GW z w 4 (gx_Qv w Q (gx_s z).heap.size) M 0 [(0, .ref (gx_ad w 4)), (1, .int v1)] [] := by
  unfold T_X5_unwind at h
  refine gw_aload_n hC dX5_unwind_0 rfl 0 rfl ?_
  refine gw_get hC cl_X5 fg_X5_22 (hw.lt (by decide)) (gc_4 hw _) (gv_X5_2 _ _ _) dX5_unwind_1 ?_
  refine gw_aload_n hC dX5_unwind_4 rfl 0 rfl ?_
  refine gw_get hC cl_X5 fg_X5_18 (hw.lt (by decide)) (gc_4 hw _) (gv_X5_1 _ _ _) dX5_unwind_5 ?_
  refine gw_alen (v := 300) hC (hw.lt (by decide)) (gc_a3 hw (by decide) _) (gt_0 hw) rfl dX5_unwind_8 ?_
  refine gw_mmin hC cm_X5_142 cm_st_min cm_ini cm_co_min (by rw [hR]; decide) (by rw [hR]; exact Nat.le_of_ble_eq_true rfl) dX5_unwind_9 ?_
  refine gw_iconst (v := 1) hC dX5_unwind_12 (by decide) ?_
  refine gw_isub hC dX5_unwind_13 ?_
  refine gw_nm (fun x1 hx1 => ?_)
  have h := h x1 hx1
  refine gw_istore_n (lv' := [(2, .int x1), (0, .ref (gx_ad w 4)), (1, .int v1)]) hC dX5_unwind_14 rfl (by decide) rfl ?_
  obtain ⟨k9, h⟩ := h
  refine gw_sub (lv' := [(0, .ref (gx_ad w 4)), (1, .int v1), (2, .int x1)]) [1, 2, 0] rfl ?_
  exact J_X5_unwind_15 hC hw hR hr  k9 M v1 x1 h
theorem c_X5_unwind {l : Launch} {d : gx_D} {w : gx_V} {ca : Nat → ClassId} (hw : gx_isC ca w)   {M : gx_M} {v1 : Int32} {Q : gx_M → Prop} (h : T_X5_unwind M v1 Q) : gx_Mv l d w yX5_unwind cX5_unwind 4 rm_X5_unwind [.ref (gx_ad w 4), .int v1] M Q := fun sz =>
  gx_of (own := RX5) (by decide +kernel) rfl (Nat.le_of_ble_eq_true rfl) (fun z hC hl hR hsz hr => by subst hsz; exact J_X5_unwind hC hw hR hr  h) rfl
set_option maxRecDepth 20000 in
theorem J_X5_awaitNext {z : gx_X} {d : gx_D} {w : gx_V} {ca : Nat → ClassId} (hC : gx_C z d w cX5_awaitNext 2 RX5) (hw : gx_isC ca w) (hR : gx_R z = rm_X5_awaitNext) (hr : (gx_me z).sig.returnType = none)   {M : gx_M} {v1 : Int32} {Q : gx_M → Prop} (h : T_X5_awaitNext M v1 Q) : GW z w 2 (gx_Qv w Q (gx_s z).heap.size) M 0 [(0, .ref (gx_ad w 4)), (1, .int v1)] [] := by
  unfold T_X5_awaitNext at h
  refine gw_aload_n hC dX5_awaitNext_0 rfl 0 rfl ?_
  refine gw_iload_n hC dX5_awaitNext_1 rfl 1 rfl ?_
  refine gw_calli (gx_rS hC (n := 1) (As := [.int v1]) (rest := [.ref (gx_ad w 4)]) (fun sz => c_X5_strength hw  h sz) cs_X5_129_X5_strength (by rw [hR]; exact rr_X5_awaitNext_X5_strength) rfl rfl (Nat.le_of_ble_eq_true rfl) dX5_awaitNext_2) ?_
  intro r1 m2 ⟨hm2, h⟩
  rw [hm2]
  refine gw_callv (gx_rV hC (n := 1) (As := [.int r1]) (rest := []) (fun sz => c_X5_unwind hw  h sz) cv_X5_133_X5_unwind (by rw [hR]; exact rr_X5_awaitNext_X5_unwind) ⟨(hw.lt (by decide)), _, _, _, _, gc_4 hw _, cl_X5.1⟩ rfl rfl (Nat.le_of_ble_eq_true rfl) dX5_awaitNext_5) ?_
  intro M3 h
  refine gw_aload_n hC dX5_awaitNext_8 rfl 0 rfl ?_
  refine gw_iload_n hC dX5_awaitNext_9 rfl 1 rfl ?_
  refine gw_callv (gx_rV hC (n := 1) (As := [.int v1]) (rest := []) (fun sz => c_X5_await hw  h sz) cv_X5_117_X5_await (by rw [hR]; exact rr_X5_awaitNext_X5_await) ⟨(hw.lt (by decide)), _, _, _, _, gc_4 hw _, cl_X5.1⟩ rfl rfl (Nat.le_of_ble_eq_true rfl) dX5_awaitNext_10) ?_
  intro M4 h
  refine gw_aload_n hC dX5_awaitNext_13 rfl 0 rfl ?_
  refine gw_iconst (v := 1) hC dX5_awaitNext_14 (by decide) ?_
  refine gw_put hC cl_X5 fp_X5_45 (hw.lt (by decide)) (gc_4 hw _) ((gc_4 hw _).trans (gs_X5_9 _ _ _ _)) rfl rfl (by simp [fs_X5]) dX5_awaitNext_15 ?_
  refine gw_nmM (fun M5 hM5 => ?_)
  have h := h M5 hM5
  refine gw_aload_n hC dX5_awaitNext_18 rfl 0 rfl ?_
  refine gw_iconst (v := 0) hC dX5_awaitNext_19 (by decide) ?_
  refine gw_put hC cl_X5 fp_X5_48 (hw.lt (by decide)) (gc_4 hw _) ((gc_4 hw _).trans (gs_X5_10 _ _ _ _)) rfl rfl (by simp [fs_X5]) dX5_awaitNext_20 ?_
  refine gw_nmM (fun M6 hM6 => ?_)
  have h := h M6 hM6
  exact gw_vret hC hr dX5_awaitNext_23 h
theorem c_X5_awaitNext {l : Launch} {d : gx_D} {w : gx_V} {ca : Nat → ClassId} (hw : gx_isC ca w)   {M : gx_M} {v1 : Int32} {Q : gx_M → Prop} (h : T_X5_awaitNext M v1 Q) : gx_Mv l d w yX5_awaitNext cX5_awaitNext 2 rm_X5_awaitNext [.ref (gx_ad w 4), .int v1] M Q := fun sz =>
  gx_of (own := RX5) (by decide +kernel) rfl (Nat.le_of_ble_eq_true rfl) (fun z hC hl hR hsz hr => by subst hsz; exact J_X5_awaitNext hC hw hR hr  h) rfl
set_option maxRecDepth 20000 in
theorem J_X5_closeBracket {z : gx_X} {d : gx_D} {w : gx_V} {ca : Nat → ClassId} (hC : gx_C z d w cX5_closeBracket 1 RX5) (hw : gx_isC ca w) (hR : gx_R z = rm_X5_closeBracket) (hr : (gx_me z).sig.returnType = none)   {M : gx_M}  {Q : gx_M → Prop} (h : T_X5_closeBracket M  Q) : GW z w 1 (gx_Qv w Q (gx_s z).heap.size) M 0 [(0, .ref (gx_ad w 4))] [] := by
  unfold T_X5_closeBracket at h
  refine gw_aload_n hC dX5_closeBracket_0 rfl 0 rfl ?_
  refine gw_iconst (v := 1) hC dX5_closeBracket_1 (by decide) ?_
  refine gw_callv (gx_rV hC (n := 1) (As := [.int 1]) (rest := []) (fun sz => c_X5_unwind hw  h sz) cv_X5_133_X5_unwind (by rw [hR]; exact rr_X5_closeBracket_X5_unwind) ⟨(hw.lt (by decide)), _, _, _, _, gc_4 hw _, cl_X5.1⟩ rfl rfl (Nat.le_of_ble_eq_true rfl) dX5_closeBracket_2) ?_
  intro M1 h
  refine gw_aload_n hC dX5_closeBracket_5 rfl 0 rfl ?_
  refine gw_iconst (v := 0) hC dX5_closeBracket_6 (by decide) ?_
  refine gw_aload_n hC dX5_closeBracket_7 rfl 0 rfl ?_
  refine gw_get hC cl_X5 fg_X5_22 (hw.lt (by decide)) (gc_4 hw _) (gv_X5_2 _ _ _) dX5_closeBracket_8 ?_
  refine gw_iconst (v := 1) hC dX5_closeBracket_11 (by decide) ?_
  refine gw_isub hC dX5_closeBracket_12 ?_
  refine gw_mmax hC cm_X5_136 cm_st_max cm_ini cm_co_max (by rw [hR]; decide) (by rw [hR]; exact Nat.le_of_ble_eq_true rfl) dX5_closeBracket_13 ?_
  refine gw_put hC cl_X5 fp_X5_22 (hw.lt (by decide)) (gc_4 hw _) ((gc_4 hw _).trans (gs_X5_2 _ _ _ _)) rfl rfl (by simp [fs_X5]) dX5_closeBracket_16 ?_
  refine gw_nmM (fun M2 hM2 => ?_)
  have h := h M2 hM2
  refine gw_aload_n hC dX5_closeBracket_19 rfl 0 rfl ?_
  refine gw_dup hC dX5_closeBracket_20 rfl ?_
  refine gw_get hC cl_X5 fg_X5_26 (hw.lt (by decide)) (gc_4 hw _) (gv_X5_3 _ _ _) dX5_closeBracket_21 ?_
  refine gw_iconst (v := 1) hC dX5_closeBracket_24 (by decide) ?_
  refine gw_isub hC dX5_closeBracket_25 ?_
  refine gw_put hC cl_X5 fp_X5_26 (hw.lt (by decide)) (gc_4 hw _) ((gc_4 hw _).trans (gs_X5_3 _ _ _ _)) rfl rfl (by simp [fs_X5]) dX5_closeBracket_26 ?_
  refine gw_nmM (fun M3 hM3 => ?_)
  have h := h M3 hM3
  refine gw_aload_n hC dX5_closeBracket_29 rfl 0 rfl ?_
  refine gw_dup hC dX5_closeBracket_30 rfl ?_
  refine gw_get hC cl_X5 fg_X5_29 (hw.lt (by decide)) (gc_4 hw _) (gv_X5_4 _ _ _) dX5_closeBracket_31 ?_
  refine gw_iconst (v := 1) hC dX5_closeBracket_34 (by decide) ?_
  refine gw_isub hC dX5_closeBracket_35 ?_
  refine gw_put hC cl_X5 fp_X5_29 (hw.lt (by decide)) (gc_4 hw _) ((gc_4 hw _).trans (gs_X5_4 _ _ _ _)) rfl rfl (by simp [fs_X5]) dX5_closeBracket_36 ?_
  refine gw_nmM (fun M4 hM4 => ?_)
  have h := h M4 hM4
  exact gw_vret hC hr dX5_closeBracket_39 h
theorem c_X5_closeBracket {l : Launch} {d : gx_D} {w : gx_V} {ca : Nat → ClassId} (hw : gx_isC ca w)   {M : gx_M}  {Q : gx_M → Prop} (h : T_X5_closeBracket M  Q) : gx_Mv l d w yX5_closeBracket cX5_closeBracket 1 rm_X5_closeBracket [.ref (gx_ad w 4)] M Q := fun sz =>
  gx_of (own := RX5) (by decide +kernel) rfl (Nat.le_of_ble_eq_true rfl) (fun z hC hl hR hsz hr => by subst hsz; exact J_X5_closeBracket hC hw hR hr  h) rfl
set_option maxRecDepth 20000 in
theorem J_X5_endClause_45 {z : gx_X} {d : gx_D} {w : gx_V} {ca : Nat → ClassId} (hC : gx_C z d w cX5_endClause 1 RX5) (hw : gx_isC ca w) (hR : gx_R z = rm_X5_endClause) (hr : (gx_me z).sig.returnType = none)  {Q : gx_M → Prop}   (M : gx_M)  (h : T_X5_endClause_45 Q  M) : GW z w 1 (gx_Qv w Q (gx_s z).heap.size) M 45 [] [.ref (gx_ad w 4)] := by
  unfold T_X5_endClause_45 at h
  refine gw_iconst (v := 1) hC dX5_endClause_45 (by decide) ?_
  refine gw_goto (tgt := 50) hC dX5_endClause_46 (by decide) ?_
  refine gw_put hC cl_X5 fp_X5_54 (hw.lt (by decide)) (gc_4 hw _) ((gc_4 hw _).trans (gs_X5_12 _ _ _ _)) rfl rfl (by simp [fs_X5]) dX5_endClause_50 ?_
  refine gw_nmM (fun M3 hM3 => ?_)
  have h := h M3 hM3
  exact gw_vret hC hr dX5_endClause_53 h
set_option maxRecDepth 20000 in
theorem J_X5_endClause_30 {z : gx_X} {d : gx_D} {w : gx_V} {ca : Nat → ClassId} (hC : gx_C z d w cX5_endClause 1 RX5) (hw : gx_isC ca w) (hR : gx_R z = rm_X5_endClause) (hr : (gx_me z).sig.returnType = none)  {Q : gx_M → Prop}   (M : gx_M)  (h : T_X5_endClause_30 Q  M) : GW z w 1 (gx_Qv w Q (gx_s z).heap.size) M 30 [(0, .ref (gx_ad w 4))] [] := by
  unfold T_X5_endClause_30 at h
  refine gw_aload_n hC dX5_endClause_30 rfl 0 rfl ?_
  refine gw_aload_n hC dX5_endClause_31 rfl 0 rfl ?_
  refine gw_get hC cl_X5 fg_X5_54 (hw.lt (by decide)) (gc_4 hw _) (gv_X5_12 _ _ _) dX5_endClause_32 ?_
  refine gw_if_ne (tgt := 45) hC dX5_endClause_35 (by decide) (fun hc => ?_) (fun hc => ?_)
  · have h := gx_f h hc
    refine gw_sub (lv' := []) [] rfl ?_
    exact J_X5_endClause_45 hC hw hR hr  M h
  · have h := gx_t h hc
    refine gw_aload_n hC dX5_endClause_38 rfl 0 rfl ?_
    refine gw_get hC cl_X5 fg_X5_42 (hw.lt (by decide)) (gc_4 hw _) (gv_X5_8 _ _ _) dX5_endClause_39 ?_
    refine gw_if_eq (tgt := 49) hC dX5_endClause_42 (by decide) (fun hc => ?_) (fun hc => ?_)
    · have h := gx_t h hc
      refine gw_iconst (v := 0) hC dX5_endClause_49 (by decide) ?_
      refine gw_put hC cl_X5 fp_X5_54 (hw.lt (by decide)) (gc_4 hw _) ((gc_4 hw _).trans (gs_X5_12 _ _ _ _)) rfl rfl (by simp [fs_X5]) dX5_endClause_50 ?_
      refine gw_nmM (fun M4 hM4 => ?_)
      have h := h M4 hM4
      exact gw_vret hC hr dX5_endClause_53 h
    · have h := gx_f h hc
      refine gw_sub (lv' := []) [] rfl ?_
      exact J_X5_endClause_45 hC hw hR hr  M h
set_option maxRecDepth 20000 in
theorem J_X5_endClause {z : gx_X} {d : gx_D} {w : gx_V} {ca : Nat → ClassId} (hC : gx_C z d w cX5_endClause 1 RX5) (hw : gx_isC ca w) (hR : gx_R z = rm_X5_endClause) (hr : (gx_me z).sig.returnType = none)   {M : gx_M}  {Q : gx_M → Prop} (h : T_X5_endClause M  Q) : GW z w 1 (gx_Qv w Q (gx_s z).heap.size) M 0 [(0, .ref (gx_ad w 4))] [] := by
  unfold T_X5_endClause at h
  refine gw_aload_n hC dX5_endClause_0 rfl 0 rfl ?_
  refine gw_iconst (v := 1) hC dX5_endClause_1 (by decide) ?_
  refine gw_callv (gx_rV hC (n := 1) (As := [.int 1]) (rest := []) (fun sz => c_X5_unwind hw  h sz) cv_X5_133_X5_unwind (by rw [hR]; exact rr_X5_endClause_X5_unwind) ⟨(hw.lt (by decide)), _, _, _, _, gc_4 hw _, cl_X5.1⟩ rfl rfl (Nat.le_of_ble_eq_true rfl) dX5_endClause_2) ?_
  intro M1 h
  refine gw_aload_n hC dX5_endClause_5 rfl 0 rfl ?_
  refine gw_iconst (v := 0) hC dX5_endClause_6 (by decide) ?_
  refine gw_put hC cl_X5 fp_X5_39 (hw.lt (by decide)) (gc_4 hw _) ((gc_4 hw _).trans (gs_X5_7 _ _ _ _)) rfl rfl (by simp [fs_X5]) dX5_endClause_7 ?_
  refine gw_nmM (fun M2 hM2 => ?_)
  have h := h M2 hM2
  refine gw_aload_n hC dX5_endClause_10 rfl 0 rfl ?_
  refine gw_get hC cl_X5 fg_X5_42 (hw.lt (by decide)) (gc_4 hw _) (gv_X5_8 _ _ _) dX5_endClause_11 ?_
  refine gw_if_eq (tgt := 30) hC dX5_endClause_14 (by decide) (fun hc => ?_) (fun hc => ?_)
  · have h := gx_t h hc
    exact J_X5_endClause_30 hC hw hR hr  M2 h
  · have h := gx_f h hc
    refine gw_aload_n hC dX5_endClause_17 rfl 0 rfl ?_
    refine gw_get hC cl_X5 fg_X5_54 (hw.lt (by decide)) (gc_4 hw _) (gv_X5_12 _ _ _) dX5_endClause_18 ?_
    refine gw_if_eq (tgt := 30) hC dX5_endClause_21 (by decide) (fun hc => ?_) (fun hc => ?_)
    · have h := gx_t h hc
      exact J_X5_endClause_30 hC hw hR hr  M2 h
    · have h := gx_f h hc
      refine gw_aload_n hC dX5_endClause_24 rfl 0 rfl ?_
      refine gw_bipush (v := (-43)) hC dX5_endClause_25 (by decide) ?_
      refine gw_callv (gx_rV hC (n := 1) (As := [.int (-43)]) (rest := []) (fun sz => c_X5_emit hw  h sz) cv_X5_107_X5_emit (by rw [hR]; exact rr_X5_endClause_X5_emit) ⟨(hw.lt (by decide)), _, _, _, _, gc_4 hw _, cl_X5.1⟩ rfl rfl (Nat.le_of_ble_eq_true rfl) dX5_endClause_27) ?_
      intro M5 h
      exact J_X5_endClause_30 hC hw hR hr  M5 h
theorem c_X5_endClause {l : Launch} {d : gx_D} {w : gx_V} {ca : Nat → ClassId} (hw : gx_isC ca w)   {M : gx_M}  {Q : gx_M → Prop} (h : T_X5_endClause M  Q) : gx_Mv l d w yX5_endClause cX5_endClause 1 rm_X5_endClause [.ref (gx_ad w 4)] M Q := fun sz =>
  gx_of (own := RX5) (by decide +kernel) rfl (Nat.le_of_ble_eq_true rfl) (fun z hC hl hR hsz hr => by subst hsz; exact J_X5_endClause hC hw hR hr  h) rfl
set_option maxRecDepth 20000 in
theorem J_X5_takeBehindOne_159 {z : gx_X} {d : gx_D} {w : gx_V} {ca : Nat → ClassId} (hC : gx_C z d w cX5_takeBehindOne 2 RX5) (hw : gx_isC ca w) (hR : gx_R z = rm_X5_takeBehindOne) (hr : (gx_me z).sig.returnType = none)  {Q : gx_M → Prop}   (M : gx_M)  (h : T_X5_takeBehindOne_159 Q  M) : GW z w 2 (gx_Qv w Q (gx_s z).heap.size) M 159 [(0, .ref (gx_ad w 4))] [] := by
  unfold T_X5_takeBehindOne_159 at h
  refine gw_aload_n hC dX5_takeBehindOne_159 rfl 0 rfl ?_
  refine gw_iconst (v := 1) hC dX5_takeBehindOne_160 (by decide) ?_
  refine gw_callv (gx_rV hC (n := 1) (As := [.int 1]) (rest := []) (fun sz => c_X5_fail hw  h sz) cv_X5_92_X5_fail (by rw [hR]; exact rr_X5_takeBehindOne_X5_fail) ⟨(hw.lt (by decide)), _, _, _, _, gc_4 hw _, cl_X5.1⟩ rfl rfl (Nat.le_of_ble_eq_true rfl) dX5_takeBehindOne_161) ?_
  intro M5 h
  exact gw_vret hC hr dX5_takeBehindOne_164 h
set_option maxRecDepth 20000 in
theorem J_X5_takeBehindOne_128 {z : gx_X} {d : gx_D} {w : gx_V} {ca : Nat → ClassId} (hC : gx_C z d w cX5_takeBehindOne 2 RX5) (hw : gx_isC ca w) (hR : gx_R z = rm_X5_takeBehindOne) (hr : (gx_me z).sig.returnType = none)  {Q : gx_M → Prop}   (M : gx_M) (v1 : Int32)  (h : T_X5_takeBehindOne_128 Q  M v1) : GW z w 2 (gx_Qv w Q (gx_s z).heap.size) M 128 [(0, .ref (gx_ad w 4)), (1, .int v1)] [] := by
  unfold T_X5_takeBehindOne_128 at h
  refine gw_iload_n hC dX5_takeBehindOne_128 rfl 1 rfl ?_
  refine gw_bipush (v := (-53)) hC dX5_takeBehindOne_129 (by decide) ?_
  refine gw_icmp_ne (tgt := 159) hC dX5_takeBehindOne_131 (by decide) (fun hc => ?_) (fun hc => ?_)
  · have h := gx_f h hc
    refine gw_sub (lv' := [(0, .ref (gx_ad w 4))]) [0] rfl ?_
    exact J_X5_takeBehindOne_159 hC hw hR hr  M h
  · have h := gx_t h hc
    refine gw_aload_n hC dX5_takeBehindOne_134 rfl 0 rfl ?_
    refine gw_get hC cl_X5 fg_X5_29 (hw.lt (by decide)) (gc_4 hw _) (gv_X5_4 _ _ _) dX5_takeBehindOne_135 ?_
    refine gw_if_ne (tgt := 159) hC dX5_takeBehindOne_138 (by decide) (fun hc => ?_) (fun hc => ?_)
    · have h := gx_f h hc
      refine gw_sub (lv' := [(0, .ref (gx_ad w 4))]) [0] rfl ?_
      exact J_X5_takeBehindOne_159 hC hw hR hr  M h
    · have h := gx_t h hc
      refine gw_aload_n hC dX5_takeBehindOne_141 rfl 0 rfl ?_
      refine gw_get hC cl_X5 fg_X5_51 (hw.lt (by decide)) (gc_4 hw _) (gv_X5_11 _ _ _) dX5_takeBehindOne_142 ?_
      refine gw_aload_n hC dX5_takeBehindOne_145 rfl 0 rfl ?_
      refine gw_get hC cl_X5 fg_X5_42 (hw.lt (by decide)) (gc_4 hw _) (gv_X5_8 _ _ _) dX5_takeBehindOne_146 ?_
      refine gw_icmp_ne (tgt := 159) hC dX5_takeBehindOne_149 (by decide) (fun hc => ?_) (fun hc => ?_)
      · have h := gx_f h hc
        refine gw_sub (lv' := [(0, .ref (gx_ad w 4))]) [0] rfl ?_
        exact J_X5_takeBehindOne_159 hC hw hR hr  M h
      · have h := gx_t h hc
        refine gw_aload_n hC dX5_takeBehindOne_152 rfl 0 rfl ?_
        refine gw_callv (gx_rV hC (n := 0) (As := []) (rest := []) (fun sz => c_X5_endClause hw  h sz) cv_X5_126_X5_endClause (by rw [hR]; exact rr_X5_takeBehindOne_X5_endClause) ⟨(hw.lt (by decide)), _, _, _, _, gc_4 hw _, cl_X5.1⟩ rfl rfl (Nat.le_of_ble_eq_true rfl) dX5_takeBehindOne_153) ?_
        intro M6 h
        refine gw_goto (tgt := 164) hC dX5_takeBehindOne_156 (by decide) ?_
        exact gw_vret hC hr dX5_takeBehindOne_164 h
set_option maxRecDepth 20000 in
theorem J_X5_takeBehindOne_96 {z : gx_X} {d : gx_D} {w : gx_V} {ca : Nat → ClassId} (hC : gx_C z d w cX5_takeBehindOne 2 RX5) (hw : gx_isC ca w) (hR : gx_R z = rm_X5_takeBehindOne) (hr : (gx_me z).sig.returnType = none)  {Q : gx_M → Prop}   (M : gx_M) (v1 : Int32)  (h : T_X5_takeBehindOne_96 Q  M v1) : GW z w 2 (gx_Qv w Q (gx_s z).heap.size) M 96 [(0, .ref (gx_ad w 4)), (1, .int v1)] [] := by
  unfold T_X5_takeBehindOne_96 at h
  refine gw_aload_n hC dX5_takeBehindOne_96 rfl 0 rfl ?_
  refine gw_get hC cl_X5 fg_X5_29 (hw.lt (by decide)) (gc_4 hw _) (gv_X5_4 _ _ _) dX5_takeBehindOne_97 ?_
  refine gw_if_ne (tgt := 128) hC dX5_takeBehindOne_100 (by decide) (fun hc => ?_) (fun hc => ?_)
  · have h := gx_f h hc
    exact J_X5_takeBehindOne_128 hC hw hR hr  M v1 h
  · have h := gx_t h hc
    refine gw_aload_n hC dX5_takeBehindOne_103 rfl 0 rfl ?_
    refine gw_get hC cl_X5 fg_X5_51 (hw.lt (by decide)) (gc_4 hw _) (gv_X5_11 _ _ _) dX5_takeBehindOne_104 ?_
    refine gw_if_eq (tgt := 128) hC dX5_takeBehindOne_107 (by decide) (fun hc => ?_) (fun hc => ?_)
    · have h := gx_t h hc
      exact J_X5_takeBehindOne_128 hC hw hR hr  M v1 h
    · have h := gx_f h hc
      refine gw_aload_n hC dX5_takeBehindOne_110 rfl 0 rfl ?_
      refine gw_iload_n hC dX5_takeBehindOne_111 rfl 1 rfl ?_
      refine gw_callv (gx_rV hC (n := 1) (As := [.int v1]) (rest := []) (fun sz => c_X5_awaitNext hw  h sz) cv_X5_120_X5_awaitNext (by rw [hR]; exact rr_X5_takeBehindOne_X5_awaitNext) ⟨(hw.lt (by decide)), _, _, _, _, gc_4 hw _, cl_X5.1⟩ rfl rfl (Nat.le_of_ble_eq_true rfl) dX5_takeBehindOne_112) ?_
      intro M7 h
      refine gw_aload_n hC dX5_takeBehindOne_115 rfl 0 rfl ?_
      refine gw_iconst (v := 0) hC dX5_takeBehindOne_116 (by decide) ?_
      refine gw_put hC cl_X5 fp_X5_51 (hw.lt (by decide)) (gc_4 hw _) ((gc_4 hw _).trans (gs_X5_11 _ _ _ _)) rfl rfl (by simp [fs_X5]) dX5_takeBehindOne_117 ?_
      refine gw_nmM (fun M8 hM8 => ?_)
      have h := h M8 hM8
      refine gw_aload_n hC dX5_takeBehindOne_120 rfl 0 rfl ?_
      refine gw_iconst (v := 1) hC dX5_takeBehindOne_121 (by decide) ?_
      refine gw_put hC cl_X5 fp_X5_48 (hw.lt (by decide)) (gc_4 hw _) ((gc_4 hw _).trans (gs_X5_10 _ _ _ _)) rfl rfl (by simp [fs_X5]) dX5_takeBehindOne_122 ?_
      refine gw_nmM (fun M9 hM9 => ?_)
      have h := h M9 hM9
      refine gw_goto (tgt := 164) hC dX5_takeBehindOne_125 (by decide) ?_
      exact gw_vret hC hr dX5_takeBehindOne_164 h
set_option maxRecDepth 20000 in
theorem J_X5_takeBehindOne_84 {z : gx_X} {d : gx_D} {w : gx_V} {ca : Nat → ClassId} (hC : gx_C z d w cX5_takeBehindOne 2 RX5) (hw : gx_isC ca w) (hR : gx_R z = rm_X5_takeBehindOne) (hr : (gx_me z).sig.returnType = none)  {Q : gx_M → Prop}   (M : gx_M) (v1 : Int32)  (h : T_X5_takeBehindOne_84 Q  M v1) : GW z w 2 (gx_Qv w Q (gx_s z).heap.size) M 84 [(0, .ref (gx_ad w 4)), (1, .int v1)] [] := by
  unfold T_X5_takeBehindOne_84 at h
  refine gw_iload_n hC dX5_takeBehindOne_84 rfl 1 rfl ?_
  refine gw_bipush (v := (-42)) hC dX5_takeBehindOne_85 (by decide) ?_
  refine gw_icmp_eq (tgt := 96) hC dX5_takeBehindOne_87 (by decide) (fun hc => ?_) (fun hc => ?_)
  · have h := gx_t h hc
    exact J_X5_takeBehindOne_96 hC hw hR hr  M v1 h
  · have h := gx_f h hc
    refine gw_iload_n hC dX5_takeBehindOne_90 rfl 1 rfl ?_
    refine gw_bipush (v := (-43)) hC dX5_takeBehindOne_91 (by decide) ?_
    refine gw_icmp_ne (tgt := 128) hC dX5_takeBehindOne_93 (by decide) (fun hc => ?_) (fun hc => ?_)
    · have h := gx_f h hc
      exact J_X5_takeBehindOne_128 hC hw hR hr  M v1 h
    · have h := gx_t h hc
      exact J_X5_takeBehindOne_96 hC hw hR hr  M v1 h
set_option maxRecDepth 20000 in
theorem J_X5_takeBehindOne_39 {z : gx_X} {d : gx_D} {w : gx_V} {ca : Nat → ClassId} (hC : gx_C z d w cX5_takeBehindOne 2 RX5) (hw : gx_isC ca w) (hR : gx_R z = rm_X5_takeBehindOne) (hr : (gx_me z).sig.returnType = none)  {Q : gx_M → Prop}   (M : gx_M) (v1 : Int32)  (h : T_X5_takeBehindOne_39 Q  M v1) : GW z w 2 (gx_Qv w Q (gx_s z).heap.size) M 39 [(0, .ref (gx_ad w 4)), (1, .int v1)] [] := by
  unfold T_X5_takeBehindOne_39 at h
  refine gw_iload_n hC dX5_takeBehindOne_39 rfl 1 rfl ?_
  refine gw_bipush (v := (-36)) hC dX5_takeBehindOne_40 (by decide) ?_
  refine gw_bipush (v := (-31)) hC dX5_takeBehindOne_42 (by decide) ?_
  refine gw_calli (gx_rN hC (n := 3) (As := [.int v1, .int (-36), .int (-31)]) (rest := []) (fun sz => c_X10_within hw  h sz) cn_X5_110_X10_within (by rw [hR]; exact rr_X5_takeBehindOne_X10_within) rfl rfl (Nat.le_of_ble_eq_true rfl) dX5_takeBehindOne_44) ?_
  intro r3 m4 ⟨hm4, h⟩
  rw [hm4]
  refine gw_if_eq (tgt := 84) hC dX5_takeBehindOne_47 (by decide) (fun hc => ?_) (fun hc => ?_)
  · have h := gx_t h hc
    exact J_X5_takeBehindOne_84 hC hw hR hr  M v1 h
  · have h := gx_f h hc
    refine gw_aload_n hC dX5_takeBehindOne_50 rfl 0 rfl ?_
    refine gw_get hC cl_X5 fg_X5_42 (hw.lt (by decide)) (gc_4 hw _) (gv_X5_8 _ _ _) dX5_takeBehindOne_51 ?_
    refine gw_if_eq (tgt := 84) hC dX5_takeBehindOne_54 (by decide) (fun hc => ?_) (fun hc => ?_)
    · have h := gx_t h hc
      exact J_X5_takeBehindOne_84 hC hw hR hr  M v1 h
    · have h := gx_f h hc
      refine gw_aload_n hC dX5_takeBehindOne_57 rfl 0 rfl ?_
      refine gw_get hC cl_X5 fg_X5_29 (hw.lt (by decide)) (gc_4 hw _) (gv_X5_4 _ _ _) dX5_takeBehindOne_58 ?_
      refine gw_if_ne (tgt := 84) hC dX5_takeBehindOne_61 (by decide) (fun hc => ?_) (fun hc => ?_)
      · have h := gx_f h hc
        exact J_X5_takeBehindOne_84 hC hw hR hr  M v1 h
      · have h := gx_t h hc
        refine gw_aload_n hC dX5_takeBehindOne_64 rfl 0 rfl ?_
        refine gw_get hC cl_X5 fg_X5_51 (hw.lt (by decide)) (gc_4 hw _) (gv_X5_11 _ _ _) dX5_takeBehindOne_65 ?_
        refine gw_if_ne (tgt := 84) hC dX5_takeBehindOne_68 (by decide) (fun hc => ?_) (fun hc => ?_)
        · have h := gx_f h hc
          exact J_X5_takeBehindOne_84 hC hw hR hr  M v1 h
        · have h := gx_t h hc
          refine gw_aload_n hC dX5_takeBehindOne_71 rfl 0 rfl ?_
          refine gw_iload_n hC dX5_takeBehindOne_72 rfl 1 rfl ?_
          refine gw_callv (gx_rV hC (n := 1) (As := [.int v1]) (rest := []) (fun sz => c_X5_awaitNext hw  h sz) cv_X5_120_X5_awaitNext (by rw [hR]; exact rr_X5_takeBehindOne_X5_awaitNext) ⟨(hw.lt (by decide)), _, _, _, _, gc_4 hw _, cl_X5.1⟩ rfl rfl (Nat.le_of_ble_eq_true rfl) dX5_takeBehindOne_73) ?_
          intro M10 h
          refine gw_aload_n hC dX5_takeBehindOne_76 rfl 0 rfl ?_
          refine gw_iconst (v := 1) hC dX5_takeBehindOne_77 (by decide) ?_
          refine gw_put hC cl_X5 fp_X5_51 (hw.lt (by decide)) (gc_4 hw _) ((gc_4 hw _).trans (gs_X5_11 _ _ _ _)) rfl rfl (by simp [fs_X5]) dX5_takeBehindOne_78 ?_
          refine gw_nmM (fun M11 hM11 => ?_)
          have h := h M11 hM11
          refine gw_goto (tgt := 164) hC dX5_takeBehindOne_81 (by decide) ?_
          exact gw_vret hC hr dX5_takeBehindOne_164 h
set_option maxRecDepth 20000 in
theorem J_X5_takeBehindOne {z : gx_X} {d : gx_D} {w : gx_V} {ca : Nat → ClassId} (hC : gx_C z d w cX5_takeBehindOne 2 RX5) (hw : gx_isC ca w) (hR : gx_R z = rm_X5_takeBehindOne) (hr : (gx_me z).sig.returnType = none)   {M : gx_M} {v1 : Int32} {Q : gx_M → Prop} (h : T_X5_takeBehindOne M v1 Q) : GW z w 2 (gx_Qv w Q (gx_s z).heap.size) M 0 [(0, .ref (gx_ad w 4)), (1, .int v1)] [] := by
  unfold T_X5_takeBehindOne at h
  refine gw_iload_n hC dX5_takeBehindOne_0 rfl 1 rfl ?_
  refine gw_bipush (v := (-24)) hC dX5_takeBehindOne_1 (by decide) ?_
  refine gw_bipush (v := (-21)) hC dX5_takeBehindOne_3 (by decide) ?_
  refine gw_calli (gx_rN hC (n := 3) (As := [.int v1, .int (-24), .int (-21)]) (rest := []) (fun sz => c_X10_within hw  h sz) cn_X5_110_X10_within (by rw [hR]; exact rr_X5_takeBehindOne_X10_within) rfl rfl (Nat.le_of_ble_eq_true rfl) dX5_takeBehindOne_5) ?_
  intro r1 m2 ⟨hm2, h⟩
  rw [hm2]
  refine gw_if_eq (tgt := 19) hC dX5_takeBehindOne_8 (by decide) (fun hc => ?_) (fun hc => ?_)
  · have h := gx_t h hc
    refine gw_iload_n hC dX5_takeBehindOne_19 rfl 1 rfl ?_
    refine gw_bipush (v := (-52)) hC dX5_takeBehindOne_20 (by decide) ?_
    refine gw_icmp_ne (tgt := 39) hC dX5_takeBehindOne_22 (by decide) (fun hc => ?_) (fun hc => ?_)
    · have h := gx_f h hc
      exact J_X5_takeBehindOne_39 hC hw hR hr  M v1 h
    · have h := gx_t h hc
      refine gw_aload_n hC dX5_takeBehindOne_25 rfl 0 rfl ?_
      refine gw_get hC cl_X5 fg_X5_29 (hw.lt (by decide)) (gc_4 hw _) (gv_X5_4 _ _ _) dX5_takeBehindOne_26 ?_
      refine gw_if_le (tgt := 39) hC dX5_takeBehindOne_29 (by decide) (fun hc => ?_) (fun hc => ?_)
      · have h := gx_t h hc
        exact J_X5_takeBehindOne_39 hC hw hR hr  M v1 h
      · have h := gx_f h hc
        refine gw_aload_n hC dX5_takeBehindOne_32 rfl 0 rfl ?_
        refine gw_callv (gx_rV hC (n := 0) (As := []) (rest := []) (fun sz => c_X5_closeBracket hw  h sz) cv_X5_123_X5_closeBracket (by rw [hR]; exact rr_X5_takeBehindOne_X5_closeBracket) ⟨(hw.lt (by decide)), _, _, _, _, gc_4 hw _, cl_X5.1⟩ rfl rfl (Nat.le_of_ble_eq_true rfl) dX5_takeBehindOne_33) ?_
        intro M12 h
        refine gw_goto (tgt := 164) hC dX5_takeBehindOne_36 (by decide) ?_
        exact gw_vret hC hr dX5_takeBehindOne_164 h
  · have h := gx_f h hc
    refine gw_aload_n hC dX5_takeBehindOne_11 rfl 0 rfl ?_
    refine gw_iload_n hC dX5_takeBehindOne_12 rfl 1 rfl ?_
    refine gw_callv (gx_rV hC (n := 1) (As := [.int v1]) (rest := []) (fun sz => c_X5_awaitNext hw  h sz) cv_X5_120_X5_awaitNext (by rw [hR]; exact rr_X5_takeBehindOne_X5_awaitNext) ⟨(hw.lt (by decide)), _, _, _, _, gc_4 hw _, cl_X5.1⟩ rfl rfl (Nat.le_of_ble_eq_true rfl) dX5_takeBehindOne_13) ?_
    intro M13 h
    refine gw_goto (tgt := 164) hC dX5_takeBehindOne_16 (by decide) ?_
    exact gw_vret hC hr dX5_takeBehindOne_164 h
theorem c_X5_takeBehindOne {l : Launch} {d : gx_D} {w : gx_V} {ca : Nat → ClassId} (hw : gx_isC ca w)   {M : gx_M} {v1 : Int32} {Q : gx_M → Prop} (h : T_X5_takeBehindOne M v1 Q) : gx_Mv l d w yX5_takeBehindOne cX5_takeBehindOne 2 rm_X5_takeBehindOne [.ref (gx_ad w 4), .int v1] M Q := fun sz =>
  gx_of (own := RX5) (by decide +kernel) rfl (Nat.le_of_ble_eq_true rfl) (fun z hC hl hR hsz hr => by subst hsz; exact J_X5_takeBehindOne hC hw hR hr  h) rfl
set_option maxRecDepth 20000 in
theorem J_X5_take_33 {z : gx_X} {d : gx_D} {w : gx_V} {ca : Nat → ClassId} (hC : gx_C z d w cX5_take 2 RX5) (hw : gx_isC ca w) (hR : gx_R z = rm_X5_take) (hr : (gx_me z).sig.returnType = none)  {Q : gx_M → Prop}   (M : gx_M)  (h : T_X5_take_33 Q  M) : GW z w 2 (gx_Qv w Q (gx_s z).heap.size) M 33 [(0, .ref (gx_ad w 4))] [] := by
  unfold T_X5_take_33 at h
  refine gw_aload_n hC dX5_take_33 rfl 0 rfl ?_
  refine gw_iconst (v := 1) hC dX5_take_34 (by decide) ?_
  refine gw_callv (gx_rV hC (n := 1) (As := [.int 1]) (rest := []) (fun sz => c_X5_fail hw  h sz) cv_X5_92_X5_fail (by rw [hR]; exact rr_X5_take_X5_fail) ⟨(hw.lt (by decide)), _, _, _, _, gc_4 hw _, cl_X5.1⟩ rfl rfl (Nat.le_of_ble_eq_true rfl) dX5_take_35) ?_
  intro M1 h
  refine gw_goto (tgt := 76) hC dX5_take_38 (by decide) ?_
  exact gw_vret hC hr dX5_take_76 h
set_option maxRecDepth 20000 in
theorem J_X5_take_21 {z : gx_X} {d : gx_D} {w : gx_V} {ca : Nat → ClassId} (hC : gx_C z d w cX5_take 2 RX5) (hw : gx_isC ca w) (hR : gx_R z = rm_X5_take) (hr : (gx_me z).sig.returnType = none)  {Q : gx_M → Prop}   (M : gx_M) (v1 : Int32)  (h : T_X5_take_21 Q  M v1) : GW z w 2 (gx_Qv w Q (gx_s z).heap.size) M 21 [(0, .ref (gx_ad w 4)), (1, .int v1)] [] := by
  unfold T_X5_take_21 at h
  refine gw_iload_n hC dX5_take_21 rfl 1 rfl ?_
  refine gw_bipush (v := (-57)) hC dX5_take_22 (by decide) ?_
  refine gw_icmp_eq (tgt := 33) hC dX5_take_24 (by decide) (fun hc => ?_) (fun hc => ?_)
  · have h := gx_t h hc
    refine gw_sub (lv' := [(0, .ref (gx_ad w 4))]) [0] rfl ?_
    exact J_X5_take_33 hC hw hR hr  M h
  · have h := gx_f h hc
    refine gw_iload_n hC dX5_take_27 rfl 1 rfl ?_
    refine gw_bipush (v := (-58)) hC dX5_take_28 (by decide) ?_
    refine gw_icmp_ne (tgt := 41) hC dX5_take_30 (by decide) (fun hc => ?_) (fun hc => ?_)
    · have h := gx_f h hc
      refine gw_aload_n hC dX5_take_41 rfl 0 rfl ?_
      refine gw_get hC cl_X5 fg_X5_39 (hw.lt (by decide)) (gc_4 hw _) (gv_X5_7 _ _ _) dX5_take_42 ?_
      refine gw_if_ne (tgt := 56) hC dX5_take_45 (by decide) (fun hc => ?_) (fun hc => ?_)
      · have h := gx_f h hc
        refine gw_aload_n hC dX5_take_56 rfl 0 rfl ?_
        refine gw_get hC cl_X5 fg_X5_45 (hw.lt (by decide)) (gc_4 hw _) (gv_X5_9 _ _ _) dX5_take_57 ?_
        refine gw_if_eq (tgt := 71) hC dX5_take_60 (by decide) (fun hc => ?_) (fun hc => ?_)
        · have h := gx_t h hc
          refine gw_aload_n hC dX5_take_71 rfl 0 rfl ?_
          refine gw_iload_n hC dX5_take_72 rfl 1 rfl ?_
          refine gw_callv (gx_rV hC (n := 1) (As := [.int v1]) (rest := []) (fun sz => c_X5_takeBehindOne hw  h sz) cv_X5_101_X5_takeBehindOne (by rw [hR]; exact rr_X5_take_X5_takeBehindOne) ⟨(hw.lt (by decide)), _, _, _, _, gc_4 hw _, cl_X5.1⟩ rfl rfl (Nat.le_of_ble_eq_true rfl) dX5_take_73) ?_
          intro M2 h
          exact gw_vret hC hr dX5_take_76 h
        · have h := gx_f h hc
          refine gw_aload_n hC dX5_take_63 rfl 0 rfl ?_
          refine gw_iload_n hC dX5_take_64 rfl 1 rfl ?_
          refine gw_callv (gx_rV hC (n := 1) (As := [.int v1]) (rest := []) (fun sz => c_X5_takeOne hw  h sz) cv_X5_98_X5_takeOne (by rw [hR]; exact rr_X5_take_X5_takeOne) ⟨(hw.lt (by decide)), _, _, _, _, gc_4 hw _, cl_X5.1⟩ rfl rfl (Nat.le_of_ble_eq_true rfl) dX5_take_65) ?_
          intro M3 h
          refine gw_goto (tgt := 76) hC dX5_take_68 (by decide) ?_
          exact gw_vret hC hr dX5_take_76 h
      · have h := gx_t h hc
        refine gw_aload_n hC dX5_take_48 rfl 0 rfl ?_
        refine gw_iload_n hC dX5_take_49 rfl 1 rfl ?_
        refine gw_callv (gx_rV hC (n := 1) (As := [.int v1]) (rest := []) (fun sz => c_X5_takeFirst hw  h sz) cv_X5_95_X5_takeFirst (by rw [hR]; exact rr_X5_take_X5_takeFirst) ⟨(hw.lt (by decide)), _, _, _, _, gc_4 hw _, cl_X5.1⟩ rfl rfl (Nat.le_of_ble_eq_true rfl) dX5_take_50) ?_
        intro M4 h
        refine gw_goto (tgt := 76) hC dX5_take_53 (by decide) ?_
        exact gw_vret hC hr dX5_take_76 h
    · have h := gx_t h hc
      refine gw_sub (lv' := [(0, .ref (gx_ad w 4))]) [0] rfl ?_
      exact J_X5_take_33 hC hw hR hr  M h
set_option maxRecDepth 20000 in
theorem J_X5_take {z : gx_X} {d : gx_D} {w : gx_V} {ca : Nat → ClassId} (hC : gx_C z d w cX5_take 2 RX5) (hw : gx_isC ca w) (hR : gx_R z = rm_X5_take) (hr : (gx_me z).sig.returnType = none)   {M : gx_M} {v1 : Int32} {Q : gx_M → Prop} (h : T_X5_take M v1 Q) : GW z w 2 (gx_Qv w Q (gx_s z).heap.size) M 0 [(0, .ref (gx_ad w 4)), (1, .int v1)] [] := by
  unfold T_X5_take at h
  refine gw_iload_n hC dX5_take_0 rfl 1 rfl ?_
  refine gw_bipush (v := (-57)) hC dX5_take_1 (by decide) ?_
  refine gw_icmp_ne (tgt := 21) hC dX5_take_3 (by decide) (fun hc => ?_) (fun hc => ?_)
  · have h := gx_f h hc
    exact J_X5_take_21 hC hw hR hr  M v1 h
  · have h := gx_t h hc
    refine gw_aload_n hC dX5_take_6 rfl 0 rfl ?_
    refine gw_get hC cl_X5 fg_X5_39 (hw.lt (by decide)) (gc_4 hw _) (gv_X5_7 _ _ _) dX5_take_7 ?_
    refine gw_if_ne (tgt := 21) hC dX5_take_10 (by decide) (fun hc => ?_) (fun hc => ?_)
    · have h := gx_f h hc
      exact J_X5_take_21 hC hw hR hr  M v1 h
    · have h := gx_t h hc
      refine gw_aload_n hC dX5_take_13 rfl 0 rfl ?_
      refine gw_iconst (v := 1) hC dX5_take_14 (by decide) ?_
      refine gw_put hC cl_X5 fp_X5_57 (hw.lt (by decide)) (gc_4 hw _) ((gc_4 hw _).trans (gs_X5_13 _ _ _ _)) rfl rfl (by simp [fs_X5]) dX5_take_15 ?_
      refine gw_nmM (fun M5 hM5 => ?_)
      have h := h M5 hM5
      refine gw_goto (tgt := 76) hC dX5_take_18 (by decide) ?_
      exact gw_vret hC hr dX5_take_76 h
theorem c_X5_take {l : Launch} {d : gx_D} {w : gx_V} {ca : Nat → ClassId} (hw : gx_isC ca w)   {M : gx_M} {v1 : Int32} {Q : gx_M → Prop} (h : T_X5_take M v1 Q) : gx_Mv l d w yX5_take cX5_take 2 rm_X5_take [.ref (gx_ad w 4), .int v1] M Q := fun sz =>
  gx_of (own := RX5) (by decide +kernel) rfl (Nat.le_of_ble_eq_true rfl) (fun z hC hl hR hsz hr => by subst hsz; exact J_X5_take hC hw hR hr  h) rfl
set_option maxRecDepth 20000 in
theorem J_X5_read_57 {z : gx_X} {d : gx_D} {w : gx_V} {ca : Nat → ClassId} (hC : gx_C z d w cX5_read 4 RX5) (hw : gx_isC ca w) (hR : gx_R z = rm_X5_read) (hr : (gx_me z).sig.returnType = none)  {Q : gx_M → Prop} {K95 : gx_M → Prop} (hK95 : ∀ (M : gx_M), K95 M → GW z w 4 (gx_Qv w Q (gx_s z).heap.size) M 95 [] []) : ∀ (n : Nat) (M : gx_M) (v3 : Int32) , T_X5_read_57 Q K95 n M v3 → GW z w 4 (gx_Qv w Q (gx_s z).heap.size) M 57 [(0, .ref (gx_ad w 4)), (3, .int v3)] [] := by
  intro n
  induction n with
  | zero =>
    intro M v3 h
    exact h.elim
  | succ n ih =>
    intro M v3 h
    rw [T_X5_read_57] at h
    refine gw_iload_n hC dX5_read_57 rfl 1 rfl ?_
    refine gw_sipush (v := 300) hC dX5_read_58 (by decide) ?_
    refine gw_icmp_gt (tgt := 95) hC dX5_read_61 (by decide) (fun hc => ?_) (fun hc => ?_)
    · have h := gx_t h hc
      refine gw_sub (lv' := []) [] rfl ?_
      exact hK95 M h
    · have h := gx_f h hc
      refine gw_aload_n hC dX5_read_64 rfl 0 rfl ?_
      refine gw_get hC cl_X5 fg_X5_57 (hw.lt (by decide)) (gc_4 hw _) (gv_X5_13 _ _ _) dX5_read_65 ?_
      refine gw_if_ne (tgt := 95) hC dX5_read_68 (by decide) (fun hc => ?_) (fun hc => ?_)
      · have h := gx_f h hc
        refine gw_sub (lv' := []) [] rfl ?_
        exact hK95 M h
      · have h := gx_t h hc
        refine gw_aload_n hC dX5_read_71 rfl 0 rfl ?_
        refine gw_get hC cl_X5 fg_X5_12 (hw.lt (by decide)) (gc_4 hw _) (gv_X5_0 _ _ _) dX5_read_72 ?_
        refine gw_callv (gx_rV hC (n := 0) (As := []) (rest := []) (fun sz => c_X6_next hw  h sz) cv_X5_80_X6_next (by rw [hR]; exact rr_X5_read_X6_next) ⟨(hw.lt (by decide)), _, _, _, _, gc_5 hw _, cl_X6.1⟩ rfl rfl (Nat.le_of_ble_eq_true rfl) dX5_read_75) ?_
        intro M12 h
        refine gw_aload_n hC dX5_read_78 rfl 0 rfl ?_
        refine gw_aload_n hC dX5_read_79 rfl 0 rfl ?_
        refine gw_get hC cl_X5 fg_X5_12 (hw.lt (by decide)) (gc_4 hw _) (gv_X5_0 _ _ _) dX5_read_80 ?_
        refine gw_get hC cl_X6 fg_X5_83 (hw.lt (by decide)) (gc_5 hw _) (gv_X6_4 _ _ _) dX5_read_83 ?_
        refine gw_callv (gx_rV hC (n := 1) (As := [.int (M12 5 4)]) (rest := []) (fun sz => c_X5_take hw  h sz) cv_X5_86_X5_take (by rw [hR]; exact rr_X5_read_X5_take) ⟨(hw.lt (by decide)), _, _, _, _, gc_4 hw _, cl_X5.1⟩ rfl rfl (Nat.le_of_ble_eq_true rfl) dX5_read_86) ?_
        intro M13 h
        obtain ⟨x14, hx14⟩ : ∃ y : Int32, y = v3 + 1 := ⟨_, rfl⟩
        have h := h x14 hx14
        refine gw_iinc (v := x14) (lv' := [(3, .int x14), (0, .ref (gx_ad w 4))]) hC dX5_read_89 (k := 1) rfl (by rw [hx14]; rfl) (by decide) rfl ?_
        refine gw_goto (tgt := 57) hC dX5_read_92 (by decide) ?_
        refine gw_sub (lv' := [(0, .ref (gx_ad w 4)), (3, .int x14)]) [1, 0] rfl ?_
        exact ih M13 x14 h
set_option maxRecDepth 20000 in
theorem J_X5_read {z : gx_X} {d : gx_D} {w : gx_V} {ca : Nat → ClassId} (hC : gx_C z d w cX5_read 4 RX5) (hw : gx_isC ca w) (hR : gx_R z = rm_X5_read) (hr : (gx_me z).sig.returnType = none) {o1 : Nat} (ho1 : pk_Pr o1) {M : gx_M} {v2 : Int32} {Q : gx_M → Prop} (h : T_X5_read M o1 v2 Q) : GW z w 4 (gx_Qv w Q (gx_s z).heap.size) M 0 [(0, .ref (gx_ad w 4)), (1, .ref (gx_ad w o1)), (2, .int v2)] [] := by
  unfold T_X5_read at h
  have ⟨ho1a, ho1b⟩ := ho1
  refine gw_aload_n hC dX5_read_0 rfl 0 rfl ?_
  refine gw_get hC cl_X5 fg_X5_12 (hw.lt (by decide)) (gc_4 hw _) (gv_X5_0 _ _ _) dX5_read_1 ?_
  refine gw_iload_n hC dX5_read_4 rfl 2 rfl ?_
  refine gw_callv (gx_rV hC (n := 1) (As := [.int v2]) (rest := []) (fun sz => c_X6_restart hw  h sz) cv_X5_73_X6_restart (by rw [hR]; exact rr_X5_read_X6_restart) ⟨(hw.lt (by decide)), _, _, _, _, gc_5 hw _, cl_X6.1⟩ rfl rfl (Nat.le_of_ble_eq_true rfl) dX5_read_5) ?_
  intro M1 h
  refine gw_aload_n hC dX5_read_8 rfl 0 rfl ?_
  refine gw_aload_n hC dX5_read_9 rfl 1 rfl ?_
  refine gw_put (x := nI o1) hC cl_X5 fp_X5_69 (hw.lt (by decide)) (gc_4 hw _) ((gc_4 hw _).trans (gs_X5_16 _ _ _ _ (nI_clamp (by omega)))) rfl rfl (by simp [fs_X5]) dX5_read_10 ?_
  refine gw_nmM (fun M2 hM2 => ?_)
  have h := h M2 hM2
  refine gw_aload_n hC dX5_read_13 rfl 0 rfl ?_
  refine gw_get hC cl_X5 fg_X5_69 (hw.lt (by decide)) (gc_4 hw _) (gv_X5_16 _ _ _) dX5_read_14 ?_
  obtain ⟨o3, ho3⟩ : ∃ y : Nat, y = (M2 4 16).toNatClampNeg := ⟨_, rfl⟩
  obtain ⟨⟨hko3a, hko3b⟩, h⟩ := h o3 ho3
  refine gw_rr ho3 ?_
  refine gw_callv (gx_rV hC (n := 0) (As := []) (rest := []) (fun sz => c_X4_empty hw ⟨by omega, by omega⟩ h sz) cv_X5_77_X4_empty (by rw [hR]; exact rr_X5_read_X4_empty) ⟨(gn_Pr hw ⟨by omega, by omega⟩), _, _, _, _, gc_Pr hw ⟨by omega, by omega⟩ _, cl_X4.1⟩ rfl rfl (Nat.le_of_ble_eq_true rfl) dX5_read_17) ?_
  intro M4 h
  refine gw_aload_n hC dX5_read_20 rfl 0 rfl ?_
  refine gw_iconst (v := 0) hC dX5_read_21 (by decide) ?_
  refine gw_put hC cl_X5 fp_X5_32 (hw.lt (by decide)) (gc_4 hw _) ((gc_4 hw _).trans (gs_X5_5 _ _ _ _)) rfl rfl (by simp [fs_X5]) dX5_read_22 ?_
  refine gw_nmM (fun M5 hM5 => ?_)
  have h := h M5 hM5
  refine gw_aload_n hC dX5_read_25 rfl 0 rfl ?_
  refine gw_iconst (v := 0) hC dX5_read_26 (by decide) ?_
  refine gw_put hC cl_X5 fp_X5_35 (hw.lt (by decide)) (gc_4 hw _) ((gc_4 hw _).trans (gs_X5_6 _ _ _ _)) rfl rfl (by simp [fs_X5]) dX5_read_27 ?_
  refine gw_nmM (fun M6 hM6 => ?_)
  have h := h M6 hM6
  refine gw_aload_n hC dX5_read_30 rfl 0 rfl ?_
  refine gw_iconst (v := 0) hC dX5_read_31 (by decide) ?_
  refine gw_put hC cl_X5 fp_X5_39 (hw.lt (by decide)) (gc_4 hw _) ((gc_4 hw _).trans (gs_X5_7 _ _ _ _)) rfl rfl (by simp [fs_X5]) dX5_read_32 ?_
  refine gw_nmM (fun M7 hM7 => ?_)
  have h := h M7 hM7
  refine gw_aload_n hC dX5_read_35 rfl 0 rfl ?_
  refine gw_iconst (v := 0) hC dX5_read_36 (by decide) ?_
  refine gw_put hC cl_X5 fp_X5_54 (hw.lt (by decide)) (gc_4 hw _) ((gc_4 hw _).trans (gs_X5_12 _ _ _ _)) rfl rfl (by simp [fs_X5]) dX5_read_37 ?_
  refine gw_nmM (fun M8 hM8 => ?_)
  have h := h M8 hM8
  refine gw_aload_n hC dX5_read_40 rfl 0 rfl ?_
  refine gw_iconst (v := 0) hC dX5_read_41 (by decide) ?_
  refine gw_put hC cl_X5 fp_X5_57 (hw.lt (by decide)) (gc_4 hw _) ((gc_4 hw _).trans (gs_X5_13 _ _ _ _)) rfl rfl (by simp [fs_X5]) dX5_read_42 ?_
  refine gw_nmM (fun M9 hM9 => ?_)
  have h := h M9 hM9
  refine gw_aload_n hC dX5_read_45 rfl 0 rfl ?_
  refine gw_iconst (v := 0) hC dX5_read_46 (by decide) ?_
  refine gw_put hC cl_X5 fp_X5_60 (hw.lt (by decide)) (gc_4 hw _) ((gc_4 hw _).trans (gs_X5_14 _ _ _ _)) rfl rfl (by simp [fs_X5]) dX5_read_47 ?_
  refine gw_nmM (fun M10 hM10 => ?_)
  have h := h M10 hM10
  refine gw_aload_n hC dX5_read_50 rfl 0 rfl ?_
  refine gw_iconst (v := (-1)) hC dX5_read_51 (by decide) ?_
  refine gw_put hC cl_X5 fp_X5_63 (hw.lt (by decide)) (gc_4 hw _) ((gc_4 hw _).trans (gs_X5_15 _ _ _ _)) rfl rfl (by simp [fs_X5]) dX5_read_52 ?_
  refine gw_nmM (fun M11 hM11 => ?_)
  have h := h M11 hM11
  refine gw_iconst (v := 0) hC dX5_read_55 (by decide) ?_
  refine gw_istore_n (lv' := [(3, .int 0), (0, .ref (gx_ad w 4)), (1, .ref (gx_ad w o1)), (2, .int v2)]) hC dX5_read_56 rfl (by decide) rfl ?_
  obtain ⟨k15, h⟩ := h
  refine gw_sub (lv' := [(0, .ref (gx_ad w 4)), (3, .int 0)]) [1, 0] rfl ?_
  exact J_X5_read_57 hC hw hR hr (fun M16 h => by
      exact gw_vret hC hr dX5_read_95 h) k15 M11 0 h
theorem c_X5_read {l : Launch} {d : gx_D} {w : gx_V} {ca : Nat → ClassId} (hw : gx_isC ca w) {o1 : Nat} (ho1 : pk_Pr o1) {M : gx_M} {v2 : Int32} {Q : gx_M → Prop} (h : T_X5_read M o1 v2 Q) : gx_Mv l d w yX5_read cX5_read 4 rm_X5_read [.ref (gx_ad w 4), .ref (gx_ad w o1), .int v2] M Q := fun sz =>
  gx_of (own := RX5) (by decide +kernel) rfl (Nat.le_of_ble_eq_true rfl) (fun z hC hl hR hsz hr => by subst hsz; exact J_X5_read hC hw hR hr ho1 h) rfl
set_option maxRecDepth 20000 in
theorem J_X7_glowOf_25 {z : gx_X} {d : gx_D} {w : gx_V} {ca : Nat → ClassId} (hC : gx_C z d w cX7_glowOf 4 RX7) (hw : gx_isC ca w) (hR : gx_R z = rm_X7_glowOf) (hr : (gx_me z).sig.returnType = (some .int)) {M : gx_M} {Q : Int32 → Prop}   (t0 : Int32) (v1 : Int32) (v2 : Int32)  (h : T_X7_glowOf_25 M Q  t0 v1 v2) : GW z w 4 (gx_Qi w (fun r M1 => M1 = M ∧ Q r) (gx_s z).heap.size) M 25 [(0, .ref (gx_ad w 8)), (1, .int v1), (2, .int v2)] [.int t0] := by
  unfold T_X7_glowOf_25 at h
  refine gw_istore_n (lv' := [(3, .int t0), (0, .ref (gx_ad w 8)), (1, .int v1), (2, .int v2)]) hC dX7_glowOf_25 rfl (by decide) rfl ?_
  refine gw_iload_n hC dX7_glowOf_26 rfl 0 rfl ?_
  refine gw_if_eq (tgt := 44) hC dX7_glowOf_27 (by decide) (fun hc => ?_) (fun hc => ?_)
  · have h := gx_t h hc
    refine gw_iconst (v := 0) hC dX7_glowOf_44 (by decide) ?_
    exact gw_iret hC hr dX7_glowOf_45 ⟨rfl, h⟩
  · have h := gx_f h hc
    refine gw_aload_n hC dX7_glowOf_30 rfl 1 rfl ?_
    refine gw_get hC cl_X7 fg_X7_9 (hw.lt (by decide)) (gc_8 hw _) (gv_X7_0 _ _ _) dX7_glowOf_31 ?_
    refine gw_iload_n hC dX7_glowOf_34 rfl 2 rfl ?_
    refine gw_bipush (v := 16) hC dX7_glowOf_35 (by decide) ?_
    refine gw_imul hC dX7_glowOf_37 ?_
    refine gw_iload_n hC dX7_glowOf_38 rfl 3 rfl ?_
    refine gw_iadd hC dX7_glowOf_39 ?_
    obtain ⟨hi, h⟩ := h
    refine gw_iald hC (hw.lt (by decide)) (gc_9 hw _) (gt_0 hw) hi dX7_glowOf_40 ?_
    refine gw_goto (tgt := 45) hC dX7_glowOf_41 (by decide) ?_
    exact gw_iret hC hr dX7_glowOf_45 ⟨rfl, h⟩
set_option maxRecDepth 20000 in
theorem J_X7_glowOf_24 {z : gx_X} {d : gx_D} {w : gx_V} {ca : Nat → ClassId} (hC : gx_C z d w cX7_glowOf 4 RX7) (hw : gx_isC ca w) (hR : gx_R z = rm_X7_glowOf) (hr : (gx_me z).sig.returnType = (some .int)) {M : gx_M} {Q : Int32 → Prop}   (v1 : Int32) (v2 : Int32)  (h : T_X7_glowOf_24 M Q  v1 v2) : GW z w 4 (gx_Qi w (fun r M1 => M1 = M ∧ Q r) (gx_s z).heap.size) M 24 [(0, .ref (gx_ad w 8)), (1, .int v1), (2, .int v2)] [] := by
  unfold T_X7_glowOf_24 at h
  refine gw_iconst (v := 0) hC dX7_glowOf_24 (by decide) ?_
  exact J_X7_glowOf_25 hC hw hR hr  0 v1 v2 h
set_option maxRecDepth 20000 in
theorem J_X7_glowOf {z : gx_X} {d : gx_D} {w : gx_V} {ca : Nat → ClassId} (hC : gx_C z d w cX7_glowOf 4 RX7) (hw : gx_isC ca w) (hR : gx_R z = rm_X7_glowOf) (hr : (gx_me z).sig.returnType = (some .int))   {M : gx_M} {v1 : Int32} {v2 : Int32} {Q : Int32 → Prop} (h : T_X7_glowOf M v1 v2 Q) : GW z w 4 (gx_Qi w (fun r M1 => M1 = M ∧ Q r) (gx_s z).heap.size) M 0 [(0, .ref (gx_ad w 8)), (1, .int v1), (2, .int v2)] [] := by
  unfold T_X7_glowOf at h
  refine gw_iload_n hC dX7_glowOf_0 rfl 1 rfl ?_
  refine gw_iconst (v := 0) hC dX7_glowOf_1 (by decide) ?_
  refine gw_bipush (v := 19) hC dX7_glowOf_2 (by decide) ?_
  refine gw_calli (gx_rN hC (n := 3) (As := [.int v1, .int 0, .int 19]) (rest := []) (fun sz => c_X10_within hw  h sz) cn_X7_15_X10_within (by rw [hR]; exact rr_X7_glowOf_X10_within) rfl rfl (Nat.le_of_ble_eq_true rfl) dX7_glowOf_4) ?_
  intro r1 m2 ⟨hm2, h⟩
  rw [hm2]
  refine gw_if_eq (tgt := 24) hC dX7_glowOf_7 (by decide) (fun hc => ?_) (fun hc => ?_)
  · have h := gx_t h hc
    exact J_X7_glowOf_24 hC hw hR hr  v1 v2 h
  · have h := gx_f h hc
    refine gw_iload_n hC dX7_glowOf_10 rfl 2 rfl ?_
    refine gw_iconst (v := 0) hC dX7_glowOf_11 (by decide) ?_
    refine gw_bipush (v := 15) hC dX7_glowOf_12 (by decide) ?_
    refine gw_calli (gx_rN hC (n := 3) (As := [.int v2, .int 0, .int 15]) (rest := []) (fun sz => c_X10_within hw  h sz) cn_X7_15_X10_within (by rw [hR]; exact rr_X7_glowOf_X10_within) rfl rfl (Nat.le_of_ble_eq_true rfl) dX7_glowOf_14) ?_
    intro r3 m4 ⟨hm4, h⟩
    rw [hm4]
    refine gw_if_eq (tgt := 24) hC dX7_glowOf_17 (by decide) (fun hc => ?_) (fun hc => ?_)
    · have h := gx_t h hc
      exact J_X7_glowOf_24 hC hw hR hr  v1 v2 h
    · have h := gx_f h hc
      refine gw_iconst (v := 1) hC dX7_glowOf_20 (by decide) ?_
      refine gw_goto (tgt := 25) hC dX7_glowOf_21 (by decide) ?_
      exact J_X7_glowOf_25 hC hw hR hr  1 v1 v2 h
theorem c_X7_glowOf {l : Launch} {d : gx_D} {w : gx_V} {ca : Nat → ClassId} (hw : gx_isC ca w)   {M : gx_M} {v1 : Int32} {v2 : Int32} {Q : Int32 → Prop} (h : T_X7_glowOf M v1 v2 Q) : gx_Mi l d w yX7_glowOf cX7_glowOf 4 .int rm_X7_glowOf [.ref (gx_ad w 8), .int v1, .int v2] M (fun r M1 => M1 = M ∧ Q r) := fun sz =>
  gx_of (own := RX7) (by decide +kernel) rfl (Nat.le_of_ble_eq_true rfl) (fun z hC hl hR hsz hr => by subst hsz; exact J_X7_glowOf hC hw hR hr  h) rfl
set_option maxRecDepth 20000 in
theorem J_X7_bits_30 {z : gx_X} {d : gx_D} {w : gx_V} {ca : Nat → ClassId} (hC : gx_C z d w cX7_bits 5 RX7) (hw : gx_isC ca w) (hR : gx_R z = rm_X7_bits) (hr : (gx_me z).sig.returnType = (some .int)) {M : gx_M} {Q : Int32 → Prop} {K5 : Int32 → Int32 → Int32 → Int32 → Prop} (hK5 : ∀ (v1 : Int32) (v2 : Int32) (v3 : Int32) (v4 : Int32), K5 v1 v2 v3 v4 → GW z w 5 (gx_Qi w (fun r M1 => M1 = M ∧ Q r) (gx_s z).heap.size) M 5 [(0, .ref (gx_ad w 8)), (1, .int v1), (2, .int v2), (3, .int v3), (4, .int v4)] []) (v1 : Int32) (v2 : Int32) (v3 : Int32) (v4 : Int32)  (h : T_X7_bits_30 M Q K5 v1 v2 v3 v4) : GW z w 5 (gx_Qi w (fun r M1 => M1 = M ∧ Q r) (gx_s z).heap.size) M 30 [(0, .ref (gx_ad w 8)), (1, .int v1), (2, .int v2), (3, .int v3), (4, .int v4)] [] := by
  unfold T_X7_bits_30 at h
  obtain ⟨x3, hx3⟩ : ∃ y : Int32, y = v4 + 1 := ⟨_, rfl⟩
  have h := h x3 hx3
  refine gw_iinc (v := x3) (lv' := [(4, .int x3), (0, .ref (gx_ad w 8)), (1, .int v1), (2, .int v2), (3, .int v3)]) hC dX7_bits_30 (k := 4) rfl (by rw [hx3]; rfl) (by decide) rfl ?_
  refine gw_goto (tgt := 5) hC dX7_bits_33 (by decide) ?_
  refine gw_sub (lv' := [(0, .ref (gx_ad w 8)), (1, .int v1), (2, .int v2), (3, .int v3), (4, .int x3)]) [1, 2, 3, 4, 0] rfl ?_
  exact hK5 v1 v2 v3 x3 h
set_option maxRecDepth 20000 in
theorem J_X7_bits_5 {z : gx_X} {d : gx_D} {w : gx_V} {ca : Nat → ClassId} (hC : gx_C z d w cX7_bits 5 RX7) (hw : gx_isC ca w) (hR : gx_R z = rm_X7_bits) (hr : (gx_me z).sig.returnType = (some .int)) {M : gx_M} {Q : Int32 → Prop}   : ∀ (n : Nat) (v1 : Int32) (v2 : Int32) (v3 : Int32) (v4 : Int32) , T_X7_bits_5 M Q  n v1 v2 v3 v4 → GW z w 5 (gx_Qi w (fun r M1 => M1 = M ∧ Q r) (gx_s z).heap.size) M 5 [(0, .ref (gx_ad w 8)), (1, .int v1), (2, .int v2), (3, .int v3), (4, .int v4)] [] := by
  intro n
  induction n with
  | zero =>
    intro v1 v2 v3 v4 h
    exact h.elim
  | succ n ih =>
    intro v1 v2 v3 v4 h
    rw [T_X7_bits_5] at h
    refine gw_iload hC dX7_bits_5 4 rfl ?_
    refine gw_bipush (v := 16) hC dX7_bits_7 (by decide) ?_
    refine gw_icmp_ge (tgt := 36) hC dX7_bits_9 (by decide) (fun hc => ?_) (fun hc => ?_)
    · have h := gx_t h hc
      refine gw_iload_n hC dX7_bits_36 rfl 3 rfl ?_
      exact gw_iret hC hr dX7_bits_37 ⟨rfl, h⟩
    · have h := gx_f h hc
      refine gw_aload_n hC dX7_bits_12 rfl 0 rfl ?_
      refine gw_iload_n hC dX7_bits_13 rfl 1 rfl ?_
      refine gw_iload hC dX7_bits_14 4 rfl ?_
      refine gw_calli (gx_rV hC (n := 2) (As := [.int v1, .int v4]) (rest := []) (fun sz => c_X7_glowOf hw  h sz) cv_X7_25_X7_glowOf (by rw [hR]; exact rr_X7_bits_X7_glowOf) ⟨(hw.lt (by decide)), _, _, _, _, gc_8 hw _, cl_X7.1⟩ rfl rfl (Nat.le_of_ble_eq_true rfl) dX7_bits_16) ?_
      intro r1 m2 ⟨hm2, h⟩
      rw [hm2]
      refine gw_iload_n hC dX7_bits_19 rfl 2 rfl ?_
      refine gw_icmp_lt (tgt := 30) hC dX7_bits_20 (by decide) (fun hc => ?_) (fun hc => ?_)
      · have h := gx_t h hc
        exact J_X7_bits_30 hC hw hR hr ih v1 v2 v3 v4 h
      · have h := gx_f h hc
        refine gw_iload_n hC dX7_bits_23 rfl 3 rfl ?_
        refine gw_iconst (v := 1) hC dX7_bits_24 (by decide) ?_
        refine gw_iload hC dX7_bits_25 4 rfl ?_
        refine gw_ishl hC dX7_bits_27 ?_
        refine gw_ior hC dX7_bits_28 ?_
        refine gw_nm (fun x4 hx4 => ?_)
        have h := h x4 hx4
        refine gw_istore_n (lv' := [(3, .int x4), (0, .ref (gx_ad w 8)), (1, .int v1), (2, .int v2), (4, .int v4)]) hC dX7_bits_29 rfl (by decide) rfl ?_
        refine gw_sub (lv' := [(0, .ref (gx_ad w 8)), (1, .int v1), (2, .int v2), (3, .int x4), (4, .int v4)]) [1, 2, 3, 0, 4] rfl ?_
        exact J_X7_bits_30 hC hw hR hr ih v1 v2 x4 v4 h
set_option maxRecDepth 20000 in
theorem J_X7_bits {z : gx_X} {d : gx_D} {w : gx_V} {ca : Nat → ClassId} (hC : gx_C z d w cX7_bits 5 RX7) (hw : gx_isC ca w) (hR : gx_R z = rm_X7_bits) (hr : (gx_me z).sig.returnType = (some .int))   {M : gx_M} {v1 : Int32} {v2 : Int32} {Q : Int32 → Prop} (h : T_X7_bits M v1 v2 Q) : GW z w 5 (gx_Qi w (fun r M1 => M1 = M ∧ Q r) (gx_s z).heap.size) M 0 [(0, .ref (gx_ad w 8)), (1, .int v1), (2, .int v2)] [] := by
  unfold T_X7_bits at h
  refine gw_iconst (v := 0) hC dX7_bits_0 (by decide) ?_
  refine gw_istore_n (lv' := [(3, .int 0), (0, .ref (gx_ad w 8)), (1, .int v1), (2, .int v2)]) hC dX7_bits_1 rfl (by decide) rfl ?_
  refine gw_iconst (v := 0) hC dX7_bits_2 (by decide) ?_
  refine gw_istore (lv' := [(4, .int 0), (3, .int 0), (0, .ref (gx_ad w 8)), (1, .int v1), (2, .int v2)]) hC dX7_bits_3 (by decide) rfl ?_
  obtain ⟨k5, h⟩ := h
  refine gw_sub (lv' := [(0, .ref (gx_ad w 8)), (1, .int v1), (2, .int v2), (3, .int 0), (4, .int 0)]) [2, 3, 4, 1, 0] rfl ?_
  exact J_X7_bits_5 hC hw hR hr  k5 v1 v2 0 0 h
theorem c_X7_bits {l : Launch} {d : gx_D} {w : gx_V} {ca : Nat → ClassId} (hw : gx_isC ca w)   {M : gx_M} {v1 : Int32} {v2 : Int32} {Q : Int32 → Prop} (h : T_X7_bits M v1 v2 Q) : gx_Mi l d w yX7_bits cX7_bits 5 .int rm_X7_bits [.ref (gx_ad w 8), .int v1, .int v2] M (fun r M1 => M1 = M ∧ Q r) := fun sz =>
  gx_of (own := RX7) (by decide +kernel) rfl (Nat.le_of_ble_eq_true rfl) (fun z hC hl hR hsz hr => by subst hsz; exact J_X7_bits hC hw hR hr  h) rfl
set_option maxRecDepth 20000 in
theorem J_J6_bitCount_0f7a4 {z : gx_X} {d : gx_D} {w : gx_V} {ca : Nat → ClassId} (hC : gx_C z d w cJ6_bitCount_0f7a4 1 RJ6) (hw : gx_isC ca w) (hR : gx_R z = rm_J6_bitCount_0f7a4) (hr : (gx_me z).sig.returnType = (some .int))   {M : gx_M} {v0 : Int32} {Q : Int32 → Prop} (h : T_J6_bitCount_0f7a4  v0 Q) : GW z w 1 (gx_Qi w (fun r M1 => M1 = M ∧ Q r) (gx_s z).heap.size) M 0 [(0, .int v0)] [] := by
  unfold T_J6_bitCount_0f7a4 at h
  refine gw_iload_n hC dJ6_bitCount_0f7a4_0 rfl 0 rfl ?_
  refine gw_iload_n hC dJ6_bitCount_0f7a4_1 rfl 0 rfl ?_
  refine gw_iconst (v := 1) hC dJ6_bitCount_0f7a4_2 (by decide) ?_
  refine gw_iushr hC dJ6_bitCount_0f7a4_3 rfl ?_
  refine gw_ldcw hC kc_J6_265 dJ6_bitCount_0f7a4_4 ?_
  refine gw_iand hC dJ6_bitCount_0f7a4_7 ?_
  refine gw_isub hC dJ6_bitCount_0f7a4_8 ?_
  refine gw_nm (fun x1 hx1 => ?_)
  have h := h x1 hx1
  refine gw_istore_n (lv' := [(0, .int x1)]) hC dJ6_bitCount_0f7a4_9 rfl (by decide) rfl ?_
  refine gw_iload_n hC dJ6_bitCount_0f7a4_10 rfl 0 rfl ?_
  refine gw_ldcw hC kc_J6_266 dJ6_bitCount_0f7a4_11 ?_
  refine gw_iand hC dJ6_bitCount_0f7a4_14 ?_
  refine gw_iload_n hC dJ6_bitCount_0f7a4_15 rfl 0 rfl ?_
  refine gw_iconst (v := 2) hC dJ6_bitCount_0f7a4_16 (by decide) ?_
  refine gw_iushr hC dJ6_bitCount_0f7a4_17 rfl ?_
  refine gw_ldcw hC kc_J6_266 dJ6_bitCount_0f7a4_18 ?_
  refine gw_iand hC dJ6_bitCount_0f7a4_21 ?_
  refine gw_iadd hC dJ6_bitCount_0f7a4_22 ?_
  refine gw_nm (fun x2 hx2 => ?_)
  have h := h x2 hx2
  refine gw_istore_n (lv' := [(0, .int x2)]) hC dJ6_bitCount_0f7a4_23 rfl (by decide) rfl ?_
  refine gw_iload_n hC dJ6_bitCount_0f7a4_24 rfl 0 rfl ?_
  refine gw_iload_n hC dJ6_bitCount_0f7a4_25 rfl 0 rfl ?_
  refine gw_iconst (v := 4) hC dJ6_bitCount_0f7a4_26 (by decide) ?_
  refine gw_iushr hC dJ6_bitCount_0f7a4_27 rfl ?_
  refine gw_iadd hC dJ6_bitCount_0f7a4_28 ?_
  refine gw_ldcw hC kc_J6_267 dJ6_bitCount_0f7a4_29 ?_
  refine gw_iand hC dJ6_bitCount_0f7a4_32 ?_
  refine gw_nm (fun x3 hx3 => ?_)
  have h := h x3 hx3
  refine gw_istore_n (lv' := [(0, .int x3)]) hC dJ6_bitCount_0f7a4_33 rfl (by decide) rfl ?_
  refine gw_iload_n hC dJ6_bitCount_0f7a4_34 rfl 0 rfl ?_
  refine gw_iload_n hC dJ6_bitCount_0f7a4_35 rfl 0 rfl ?_
  refine gw_bipush (v := 8) hC dJ6_bitCount_0f7a4_36 (by decide) ?_
  refine gw_iushr hC dJ6_bitCount_0f7a4_38 rfl ?_
  refine gw_iadd hC dJ6_bitCount_0f7a4_39 ?_
  refine gw_nm (fun x4 hx4 => ?_)
  have h := h x4 hx4
  refine gw_istore_n (lv' := [(0, .int x4)]) hC dJ6_bitCount_0f7a4_40 rfl (by decide) rfl ?_
  refine gw_iload_n hC dJ6_bitCount_0f7a4_41 rfl 0 rfl ?_
  refine gw_iload_n hC dJ6_bitCount_0f7a4_42 rfl 0 rfl ?_
  refine gw_bipush (v := 16) hC dJ6_bitCount_0f7a4_43 (by decide) ?_
  refine gw_iushr hC dJ6_bitCount_0f7a4_45 rfl ?_
  refine gw_iadd hC dJ6_bitCount_0f7a4_46 ?_
  refine gw_nm (fun x5 hx5 => ?_)
  have h := h x5 hx5
  refine gw_istore_n (lv' := [(0, .int x5)]) hC dJ6_bitCount_0f7a4_47 rfl (by decide) rfl ?_
  refine gw_iload_n hC dJ6_bitCount_0f7a4_48 rfl 0 rfl ?_
  refine gw_bipush (v := 63) hC dJ6_bitCount_0f7a4_49 (by decide) ?_
  refine gw_iand hC dJ6_bitCount_0f7a4_51 ?_
  exact gw_iret hC hr dJ6_bitCount_0f7a4_52 ⟨rfl, h⟩
theorem c_J6_bitCount_0f7a4 {l : Launch} {d : gx_D} {w : gx_V} {ca : Nat → ClassId} (hw : gx_isC ca w)   {M : gx_M} {v0 : Int32} {Q : Int32 → Prop} (h : T_J6_bitCount_0f7a4  v0 Q) : gx_Mi l d w yJ6_bitCount_0f7a4 cJ6_bitCount_0f7a4 1 .int rm_J6_bitCount_0f7a4 [.int v0] M (fun r M1 => M1 = M ∧ Q r) := fun sz =>
  gx_ofF (own := RJ6) (by decide +kernel) rfl (Nat.le_of_ble_eq_true rfl) (fun z hC hl hR hsz hr => by subst hsz; exact J_J6_bitCount_0f7a4 hC hw hR hr  h) rfl
set_option maxRecDepth 20000 in
theorem J_X7_dots_4 {z : gx_X} {d : gx_D} {w : gx_V} {ca : Nat → ClassId} (hC : gx_C z d w cX7_dots 4 RX7) (hw : gx_isC ca w) (hR : gx_R z = rm_X7_dots) (hr : (gx_me z).sig.returnType = (some .int)) {M : gx_M} {Q : Int32 → Prop}   : ∀ (n : Nat) (v1 : Int32) (v2 : Int32) (v3 : Int32) , T_X7_dots_4 M Q  n v1 v2 v3 → GW z w 4 (gx_Qi w (fun r M1 => M1 = M ∧ Q r) (gx_s z).heap.size) M 4 [(0, .ref (gx_ad w 8)), (1, .int v1), (2, .int v2), (3, .int v3)] [] := by
  intro n
  induction n with
  | zero =>
    intro v1 v2 v3 h
    exact h.elim
  | succ n ih =>
    intro v1 v2 v3 h
    rw [T_X7_dots_4] at h
    refine gw_iload_n hC dX7_dots_4 rfl 3 rfl ?_
    refine gw_bipush (v := 20) hC dX7_dots_5 (by decide) ?_
    refine gw_icmp_ge (tgt := 28) hC dX7_dots_7 (by decide) (fun hc => ?_) (fun hc => ?_)
    · have h := gx_t h hc
      refine gw_iload_n hC dX7_dots_28 rfl 2 rfl ?_
      exact gw_iret hC hr dX7_dots_29 ⟨rfl, h⟩
    · have h := gx_f h hc
      refine gw_iload_n hC dX7_dots_10 rfl 2 rfl ?_
      refine gw_aload_n hC dX7_dots_11 rfl 0 rfl ?_
      refine gw_iload_n hC dX7_dots_12 rfl 3 rfl ?_
      refine gw_iload_n hC dX7_dots_13 rfl 1 rfl ?_
      refine gw_calli (gx_rV hC (n := 2) (As := [.int v3, .int v1]) (rest := [.int v2]) (fun sz => c_X7_bits hw  h sz) cv_X7_28_X7_bits (by rw [hR]; exact rr_X7_dots_X7_bits) ⟨(hw.lt (by decide)), _, _, _, _, gc_8 hw _, cl_X7.1⟩ rfl rfl (Nat.le_of_ble_eq_true rfl) dX7_dots_14) ?_
      intro r1 m2 ⟨hm2, h⟩
      rw [hm2]
      refine gw_calli (gx_rS hC (n := 1) (As := [.int r1]) (rest := [.int v2]) (fun sz => c_J6_bitCount_0f7a4 hw  h sz) cs_X7_31_J6_bitCount_0f7a4 (by rw [hR]; exact rr_X7_dots_J6_bitCount_0f7a4) rfl rfl (Nat.le_of_ble_eq_true rfl) dX7_dots_17) ?_
      intro r3 m4 ⟨hm4, h⟩
      rw [hm4]
      refine gw_iadd hC dX7_dots_20 ?_
      refine gw_nm (fun x5 hx5 => ?_)
      have h := h x5 hx5
      refine gw_istore_n (lv' := [(2, .int x5), (0, .ref (gx_ad w 8)), (1, .int v1), (3, .int v3)]) hC dX7_dots_21 rfl (by decide) rfl ?_
      obtain ⟨x6, hx6⟩ : ∃ y : Int32, y = v3 + 1 := ⟨_, rfl⟩
      have h := h x6 hx6
      refine gw_iinc (v := x6) (lv' := [(3, .int x6), (2, .int x5), (0, .ref (gx_ad w 8)), (1, .int v1)]) hC dX7_dots_22 (k := 3) rfl (by rw [hx6]; rfl) (by decide) rfl ?_
      refine gw_goto (tgt := 4) hC dX7_dots_25 (by decide) ?_
      refine gw_sub (lv' := [(0, .ref (gx_ad w 8)), (1, .int v1), (2, .int x5), (3, .int x6)]) [2, 3, 1, 0] rfl ?_
      exact ih v1 x5 x6 h
set_option maxRecDepth 20000 in
theorem J_X7_dots {z : gx_X} {d : gx_D} {w : gx_V} {ca : Nat → ClassId} (hC : gx_C z d w cX7_dots 4 RX7) (hw : gx_isC ca w) (hR : gx_R z = rm_X7_dots) (hr : (gx_me z).sig.returnType = (some .int))   {M : gx_M} {v1 : Int32} {Q : Int32 → Prop} (h : T_X7_dots M v1 Q) : GW z w 4 (gx_Qi w (fun r M1 => M1 = M ∧ Q r) (gx_s z).heap.size) M 0 [(0, .ref (gx_ad w 8)), (1, .int v1)] [] := by
  unfold T_X7_dots at h
  refine gw_iconst (v := 0) hC dX7_dots_0 (by decide) ?_
  refine gw_istore_n (lv' := [(2, .int 0), (0, .ref (gx_ad w 8)), (1, .int v1)]) hC dX7_dots_1 rfl (by decide) rfl ?_
  refine gw_iconst (v := 0) hC dX7_dots_2 (by decide) ?_
  refine gw_istore_n (lv' := [(3, .int 0), (2, .int 0), (0, .ref (gx_ad w 8)), (1, .int v1)]) hC dX7_dots_3 rfl (by decide) rfl ?_
  obtain ⟨k7, h⟩ := h
  refine gw_sub (lv' := [(0, .ref (gx_ad w 8)), (1, .int v1), (2, .int 0), (3, .int 0)]) [2, 3, 1, 0] rfl ?_
  exact J_X7_dots_4 hC hw hR hr  k7 v1 0 0 h
theorem c_X7_dots {l : Launch} {d : gx_D} {w : gx_V} {ca : Nat → ClassId} (hw : gx_isC ca w)   {M : gx_M} {v1 : Int32} {Q : Int32 → Prop} (h : T_X7_dots M v1 Q) : gx_Mi l d w yX7_dots cX7_dots 4 .int rm_X7_dots [.ref (gx_ad w 8), .int v1] M (fun r M1 => M1 = M ∧ Q r) := fun sz =>
  gx_of (own := RX7) (by decide +kernel) rfl (Nat.le_of_ble_eq_true rfl) (fun z hC hl hR hsz hr => by subst hsz; exact J_X7_dots hC hw hR hr  h) rfl
set_option maxRecDepth 20000 in
theorem J_X9_add {z : gx_X} {d : gx_D} {w : gx_V} {ca : Nat → ClassId} (hC : gx_C z d w cX9_add 6 RX9) (hw : gx_isC ca w) (hR : gx_R z = rm_X9_add) (hr : (gx_me z).sig.returnType = none) {o0 : Nat} (ho0 : pk_Si o0) {M : gx_M} {v1 : Int32} {v2 : Int32} {v3 : Int32} {v4 : Int32} {v5 : Int32} {Q : gx_M → Prop} (h : T_X9_add M o0 v1 v2 v3 v4 v5 Q) : GW z w 6 (gx_Qv w Q (gx_s z).heap.size) M 0 [(0, .ref (gx_ad w o0)), (1, .int v1), (2, .int v2), (3, .int v3), (4, .int v4), (5, .int v5)] [] := by
  unfold T_X9_add at h
  have ⟨ho0a, ho0b⟩ := ho0
  refine gw_aload_n hC dX9_add_0 rfl 0 rfl ?_
  refine gw_get hC cl_X9 fg_X9_17 (gn_Si hw ⟨by omega, by omega⟩) (gc_Si hw ⟨by omega, by omega⟩ _) (gv_X9_1 _ _ _) dX9_add_1 ?_
  refine gw_iconst (v := 0) hC dX9_add_4 (by decide) ?_
  refine gw_aload_n hC dX9_add_5 rfl 0 rfl ?_
  refine gw_get hC cl_X9 fg_X9_11 (gn_Si hw ⟨by omega, by omega⟩) (gc_Si hw ⟨by omega, by omega⟩ _) (gv_X9_0 _ _ _) dX9_add_6 ?_
  refine gw_rr (o' := 8 + o0) (by omega) ?_
  refine gw_alen (v := 6) hC (gn_PA hw ⟨by omega, by omega⟩) (gc_PA hw ⟨by omega, by omega⟩ _) (gt_2 hw) rfl dX9_add_9 ?_
  refine gw_iconst (v := 1) hC dX9_add_10 (by decide) ?_
  refine gw_isub hC dX9_add_11 ?_
  refine gw_calli (gx_rN hC (n := 3) (As := [.int (M o0 1), .int 0, .int (6 - 1)]) (rest := []) (fun sz => c_X10_within hw  h sz) cn_X9_22_X10_within (by rw [hR]; exact rr_X9_add_X10_within) rfl rfl (Nat.le_of_ble_eq_true rfl) dX9_add_12) ?_
  intro r1 m2 ⟨hm2, h⟩
  rw [hm2]
  refine gw_if_eq (tgt := 47) hC dX9_add_15 (by decide) (fun hc => ?_) (fun hc => ?_)
  · have h := gx_t h hc
    exact gw_vret hC hr dX9_add_47 h
  · have h := gx_f h hc
    refine gw_aload_n hC dX9_add_18 rfl 0 rfl ?_
    refine gw_get hC cl_X9 fg_X9_11 (gn_Si hw ⟨by omega, by omega⟩) (gc_Si hw ⟨by omega, by omega⟩ _) (gv_X9_0 _ _ _) dX9_add_19 ?_
    refine gw_rr (o' := 8 + o0) (by omega) ?_
    refine gw_aload_n hC dX9_add_22 rfl 0 rfl ?_
    refine gw_get hC cl_X9 fg_X9_17 (gn_Si hw ⟨by omega, by omega⟩) (gc_Si hw ⟨by omega, by omega⟩ _) (gv_X9_1 _ _ _) dX9_add_23 ?_
    obtain ⟨hi, h⟩ := h
    have hb3 := vp_lt hi
    refine gw_aald hC (gn_PA hw ⟨by omega, by omega⟩) (gc_PA hw ⟨by omega, by omega⟩ _) (gt_2 hw) rfl hi dX9_add_26 ?_
    refine gw_rr (o' := (M o0 1).toNatClampNeg + 6 * o0 - 190) (by omega) ?_
    refine gw_iload_n hC dX9_add_27 rfl 1 rfl ?_
    refine gw_iload_n hC dX9_add_28 rfl 2 rfl ?_
    refine gw_iload_n hC dX9_add_29 rfl 3 rfl ?_
    refine gw_iload hC dX9_add_30 4 rfl ?_
    refine gw_iload hC dX9_add_32 5 rfl ?_
    refine gw_callv (gx_rV hC (n := 5) (As := [.int v1, .int v2, .int v3, .int v4, .int v5]) (rest := []) (fun sz => c_X3_set hw ⟨by omega, by omega⟩ h sz) cv_X9_26_X3_set (by rw [hR]; exact rr_X9_add_X3_set) ⟨(gn_Pt hw ⟨by omega, by omega⟩), _, _, _, _, gc_Pt hw ⟨by omega, by omega⟩ _, cl_X3.1⟩ rfl rfl (Nat.le_of_ble_eq_true rfl) dX9_add_34) ?_
    intro M4 h
    refine gw_aload_n hC dX9_add_37 rfl 0 rfl ?_
    refine gw_dup hC dX9_add_38 rfl ?_
    refine gw_get hC cl_X9 fg_X9_17 (gn_Si hw ⟨by omega, by omega⟩) (gc_Si hw ⟨by omega, by omega⟩ _) (gv_X9_1 _ _ _) dX9_add_39 ?_
    refine gw_iconst (v := 1) hC dX9_add_42 (by decide) ?_
    refine gw_iadd hC dX9_add_43 ?_
    refine gw_put hC cl_X9 fp_X9_17 (gn_Si hw ⟨by omega, by omega⟩) (gc_Si hw ⟨by omega, by omega⟩ _) ((gc_Si hw ⟨by omega, by omega⟩ _).trans (gs_X9_1 _ _ _ _)) rfl rfl (by simp [fs_X9]) dX9_add_44 ?_
    refine gw_nmM (fun M5 hM5 => ?_)
    have h := h M5 hM5
    exact gw_vret hC hr dX9_add_47 h
theorem c_X9_add {l : Launch} {d : gx_D} {w : gx_V} {ca : Nat → ClassId} (hw : gx_isC ca w) {o0 : Nat} (ho0 : pk_Si o0) {M : gx_M} {v1 : Int32} {v2 : Int32} {v3 : Int32} {v4 : Int32} {v5 : Int32} {Q : gx_M → Prop} (h : T_X9_add M o0 v1 v2 v3 v4 v5 Q) : gx_Mv l d w yX9_add cX9_add 6 rm_X9_add [.ref (gx_ad w o0), .int v1, .int v2, .int v3, .int v4, .int v5] M Q := fun sz =>
  gx_of (own := RX9) (by decide +kernel) rfl (Nat.le_of_ble_eq_true rfl) (fun z hC hl hR hsz hr => by subst hsz; exact J_X9_add hC hw hR hr ho0 h) rfl
set_option maxRecDepth 20000 in
theorem J_X9_copyFrom_7 {z : gx_X} {d : gx_D} {w : gx_V} {ca : Nat → ClassId} (hC : gx_C z d w cX9_copyFrom 4 RX9) (hw : gx_isC ca w) (hR : gx_R z = rm_X9_copyFrom) (hr : (gx_me z).sig.returnType = none)  {Q : gx_M → Prop} {K61 : gx_M → Prop} (hK61 : ∀ (M : gx_M), K61 M → GW z w 4 (gx_Qv w Q (gx_s z).heap.size) M 61 [] []) : ∀ (n : Nat) (M : gx_M) (o0 : Nat) (o1 : Nat) (v2 : Int32) (ho0 : pk_Si o0) (ho1 : pk_Si o1), T_X9_copyFrom_7 Q K61 n M o0 o1 v2 → GW z w 4 (gx_Qv w Q (gx_s z).heap.size) M 7 [(0, .ref (gx_ad w o0)), (1, .ref (gx_ad w o1)), (2, .int v2)] [] := by
  intro n
  induction n with
  | zero =>
    intro M o0 o1 v2 ho0 ho1 h
    exact h.elim
  | succ n ih =>
    intro M o0 o1 v2 ho0 ho1 h
    rw [T_X9_copyFrom_7] at h
    have ⟨ho0a, ho0b⟩ := ho0
    have ⟨ho1a, ho1b⟩ := ho1
    refine gw_iload_n hC dX9_copyFrom_7 rfl 2 rfl ?_
    refine gw_aload_n hC dX9_copyFrom_8 rfl 1 rfl ?_
    refine gw_get hC cl_X9 fg_X9_17 (gn_Si hw ⟨by omega, by omega⟩) (gc_Si hw ⟨by omega, by omega⟩ _) (gv_X9_1 _ _ _) dX9_copyFrom_9 ?_
    refine gw_icmp_ge (tgt := 61) hC dX9_copyFrom_12 (by decide) (fun hc => ?_) (fun hc => ?_)
    · have h := gx_t h hc
      refine gw_sub (lv' := []) [] rfl ?_
      exact hK61 M h
    · have h := gx_f h hc
      refine gw_iload_n hC dX9_copyFrom_15 rfl 2 rfl ?_
      refine gw_aload_n hC dX9_copyFrom_16 rfl 1 rfl ?_
      refine gw_get hC cl_X9 fg_X9_11 (gn_Si hw ⟨by omega, by omega⟩) (gc_Si hw ⟨by omega, by omega⟩ _) (gv_X9_0 _ _ _) dX9_copyFrom_17 ?_
      refine gw_rr (o' := 8 + o1) (by omega) ?_
      refine gw_alen (v := 6) hC (gn_PA hw ⟨by omega, by omega⟩) (gc_PA hw ⟨by omega, by omega⟩ _) (gt_2 hw) rfl dX9_copyFrom_20 ?_
      refine gw_icmp_ge (tgt := 61) hC dX9_copyFrom_21 (by decide) (fun hc => ?_) (fun hc => ?_)
      · have h := gx_t h hc
        refine gw_sub (lv' := []) [] rfl ?_
        exact hK61 M h
      · have h := gx_f h hc
        refine gw_aload_n hC dX9_copyFrom_24 rfl 1 rfl ?_
        refine gw_get hC cl_X9 fg_X9_11 (gn_Si hw ⟨by omega, by omega⟩) (gc_Si hw ⟨by omega, by omega⟩ _) (gv_X9_0 _ _ _) dX9_copyFrom_25 ?_
        refine gw_rr (o' := 8 + o1) (by omega) ?_
        refine gw_iload_n hC dX9_copyFrom_28 rfl 2 rfl ?_
        obtain ⟨hi, h⟩ := h
        have hb2 := vp_lt hi
        refine gw_aald hC (gn_PA hw ⟨by omega, by omega⟩) (gc_PA hw ⟨by omega, by omega⟩ _) (gt_2 hw) rfl hi dX9_copyFrom_29 ?_
        refine gw_rr (o' := v2.toNatClampNeg + 6 * o1 - 190) (by omega) ?_
        refine gw_astore_n (lv' := [(3, .ref (gx_ad w (v2.toNatClampNeg + 6 * o1 - 190))), (0, .ref (gx_ad w o0)), (1, .ref (gx_ad w o1)), (2, .int v2)]) hC dX9_copyFrom_30 rfl (by decide) rfl ?_
        refine gw_aload_n hC dX9_copyFrom_31 rfl 1 rfl ?_
        refine gw_aload_n hC dX9_copyFrom_32 rfl 0 rfl ?_
        refine gw_get hC cl_X3 fg_X9_34 (gn_Pt hw ⟨by omega, by omega⟩) (gc_Pt hw ⟨by omega, by omega⟩ _) (gv_X3_0 _ _ _) dX9_copyFrom_33 ?_
        refine gw_aload_n hC dX9_copyFrom_36 rfl 0 rfl ?_
        refine gw_get hC cl_X3 fg_X9_37 (gn_Pt hw ⟨by omega, by omega⟩) (gc_Pt hw ⟨by omega, by omega⟩ _) (gv_X3_1 _ _ _) dX9_copyFrom_37 ?_
        refine gw_aload_n hC dX9_copyFrom_40 rfl 0 rfl ?_
        refine gw_get hC cl_X3 fg_X9_40 (gn_Pt hw ⟨by omega, by omega⟩) (gc_Pt hw ⟨by omega, by omega⟩ _) (gv_X3_2 _ _ _) dX9_copyFrom_41 ?_
        refine gw_aload_n hC dX9_copyFrom_44 rfl 0 rfl ?_
        refine gw_get hC cl_X3 fg_X9_43 (gn_Pt hw ⟨by omega, by omega⟩) (gc_Pt hw ⟨by omega, by omega⟩ _) (gv_X3_3 _ _ _) dX9_copyFrom_45 ?_
        refine gw_aload_n hC dX9_copyFrom_48 rfl 0 rfl ?_
        refine gw_get hC cl_X3 fg_X9_46 (gn_Pt hw ⟨by omega, by omega⟩) (gc_Pt hw ⟨by omega, by omega⟩ _) (gv_X3_4 _ _ _) dX9_copyFrom_49 ?_
        refine gw_callv (gx_rV hC (n := 5) (As := [.int (M (v2.toNatClampNeg + 6 * o1 - 190) 0), .int (M (v2.toNatClampNeg + 6 * o1 - 190) 1), .int (M (v2.toNatClampNeg + 6 * o1 - 190) 2), .int (M (v2.toNatClampNeg + 6 * o1 - 190) 3), .int (M (v2.toNatClampNeg + 6 * o1 - 190) 4)]) (rest := []) (fun sz => c_X9_add hw ⟨by omega, by omega⟩ h sz) cv_X9_49_X9_add (by rw [hR]; exact rr_X9_copyFrom_X9_add) ⟨(gn_Si hw ⟨by omega, by omega⟩), _, _, _, _, gc_Si hw ⟨by omega, by omega⟩ _, cl_X9.1⟩ rfl rfl (Nat.le_of_ble_eq_true rfl) dX9_copyFrom_52) ?_
        intro M3 h
        obtain ⟨x4, hx4⟩ : ∃ y : Int32, y = v2 + 1 := ⟨_, rfl⟩
        have h := h x4 hx4
        refine gw_iinc (v := x4) (lv' := [(2, .int x4), (3, .ref (gx_ad w (v2.toNatClampNeg + 6 * o1 - 190))), (0, .ref (gx_ad w o0)), (1, .ref (gx_ad w o1))]) hC dX9_copyFrom_55 (k := 3) rfl (by rw [hx4]; rfl) (by decide) rfl ?_
        refine gw_goto (tgt := 7) hC dX9_copyFrom_58 (by decide) ?_
        refine gw_sub (lv' := [(0, .ref (gx_ad w o0)), (1, .ref (gx_ad w o1)), (2, .int x4)]) [2, 3, 0] rfl ?_
        exact ih M3 o0 o1 x4 ⟨by omega, by omega⟩ ⟨by omega, by omega⟩ h
