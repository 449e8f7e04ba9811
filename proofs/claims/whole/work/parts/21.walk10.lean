set_option maxRecDepth 20000 in
theorem J_X11_settings {z : gx_X} {d : gx_D} {w : gx_V} {ca : Nat → ClassId} (hC : gx_C z d w cX11_settings 10 RX11) (hw : gx_isR ca w) (hR : gx_R z = rm_X11_settings) (hr : (gx_me z).sig.returnType = (some .int))   {M : gx_M} {v1 : Int32} {v2 : Int32} {v3 : Int32} {Q : Int32 → gx_M → Prop} (h : T_X11_settings M v1 v2 v3 Q) : GW z w 10 (gx_Qi w Q (gx_s z).heap.size) M 0 [(0, .ref (gx_ad w 0)), (1, .int v1), (2, .int v2), (3, .int v3)] [] := by
  unfold T_X11_settings at h
  refine gw_iload_n hC dX11_settings_0 rfl 1 rfl ?_
  refine gw_calli (gx_rS hC (n := 1) (As := [.int v1]) (rest := []) (fun sz => c_X11_isEnd hw  h sz) cs_X11_301_X11_isEnd (by rw [hR]; exact rr_X11_settings_X11_isEnd) rfl rfl (Nat.le_of_ble_eq_true rfl) dX11_settings_1) ?_
  intro r1 m2 ⟨hm2, h⟩
  rw [hm2]
  refine gw_if_eq (tgt := 19) hC dX11_settings_4 (by decide) (fun hc => ?_) (fun hc => ?_)
  · have h := gx_t h hc
    refine gw_iconst (v := (-1)) hC dX11_settings_19 (by decide) ?_
    exact gw_iret hC hr dX11_settings_20 h
  · have h := gx_f h hc
    refine gw_iload_n hC dX11_settings_7 rfl 2 rfl ?_
    refine gw_calli (gx_rS hC (n := 1) (As := [.int v2]) (rest := []) (fun sz => c_X11_isLight hw  h sz) cs_X11_328_X11_isLight (by rw [hR]; exact rr_X11_settings_X11_isLight) rfl rfl (Nat.le_of_ble_eq_true rfl) dX11_settings_8) ?_
    intro r3 m4 ⟨hm4, h⟩
    rw [hm4]
    refine gw_if_eq (tgt := 19) hC dX11_settings_11 (by decide) (fun hc => ?_) (fun hc => ?_)
    · have h := gx_t h hc
      refine gw_iconst (v := (-1)) hC dX11_settings_19 (by decide) ?_
      exact gw_iret hC hr dX11_settings_20 h
    · have h := gx_f h hc
      refine gw_iload_n hC dX11_settings_14 rfl 3 rfl ?_
      refine gw_iconst (v := (-1)) hC dX11_settings_15 (by decide) ?_
      refine gw_icmp_ge (tgt := 21) hC dX11_settings_16 (by decide) (fun hc => ?_) (fun hc => ?_)
      · have h := gx_t h hc
        refine gw_aload_n hC dX11_settings_21 rfl 0 rfl ?_
        refine gw_get hC cl_X11 fg_X11_7 (hw.lt (by decide)) (gd_0 hw _) (gv_X11_0 _ _ _) dX11_settings_22 ?_
        refine gw_iconst (v := 2) hC dX11_settings_25 (by decide) ?_
        obtain ⟨hi, h⟩ := h
        refine gw_iald hC (hw.lt (by decide)) (gd_1 hw _) (gu_0 hw) hi dX11_settings_26 ?_
        refine gw_nm (fun x5 hx5 => ?_)
        have h := h x5 hx5
        refine gw_istore (lv' := [(4, .int x5), (0, .ref (gx_ad w 0)), (1, .int v1), (2, .int v2), (3, .int v3)]) hC dX11_settings_27 (by decide) rfl ?_
        refine gw_aload_n hC dX11_settings_29 rfl 1 rfl ?_
        refine gw_get hC cl_X11 fg_X11_7 (hw.lt (by decide)) (gd_0 hw _) (gv_X11_0 _ _ _) dX11_settings_30 ?_
        refine gw_bipush (v := 12) hC dX11_settings_33 (by decide) ?_
        obtain ⟨hi, h⟩ := h
        refine gw_iald hC (hw.lt (by decide)) (gd_1 hw _) (gu_0 hw) hi dX11_settings_35 ?_
        refine gw_nm (fun x6 hx6 => ?_)
        have h := h x6 hx6
        refine gw_istore (lv' := [(5, .int x6), (4, .int x5), (0, .ref (gx_ad w 0)), (1, .int v1), (2, .int v2), (3, .int v3)]) hC dX11_settings_36 (by decide) rfl ?_
        refine gw_iconst (v := 0) hC dX11_settings_38 (by decide) ?_
        refine gw_istore (lv' := [(6, .int 0), (5, .int x6), (4, .int x5), (0, .ref (gx_ad w 0)), (1, .int v1), (2, .int v2), (3, .int v3)]) hC dX11_settings_39 (by decide) rfl ?_
        refine gw_iconst (v := (-1)) hC dX11_settings_41 (by decide) ?_
        refine gw_istore (lv' := [(7, .int (-1)), (6, .int 0), (5, .int x6), (4, .int x5), (0, .ref (gx_ad w 0)), (1, .int v1), (2, .int v2), (3, .int v3)]) hC dX11_settings_42 (by decide) rfl ?_
        refine gw_aload_n hC dX11_settings_44 rfl 4 rfl ?_
        refine gw_callv (gx_rV hC (n := 0) (As := []) (rest := []) (fun sz => c_X11_laysBoth hw  h sz) cv_X11_304_X11_laysBoth (by rw [hR]; exact rr_X11_settings_X11_laysBoth) ⟨(hw.lt (by decide)), _, _, _, _, gd_0 hw _, cl_X11.1⟩ rfl rfl (Nat.le_of_ble_eq_true rfl) dX11_settings_45) ?_
        intro M7 h
        refine gw_iconst (v := 1) hC dX11_settings_48 (by decide) ?_
        refine gw_istore (lv' := [(8, .int 1), (7, .int (-1)), (6, .int 0), (5, .int x6), (4, .int x5), (0, .ref (gx_ad w 0)), (1, .int v1), (2, .int v2), (3, .int v3)]) hC dX11_settings_49 (by decide) rfl ?_
        obtain ⟨k31, h⟩ := h
        refine gw_sub (lv' := [(0, .ref (gx_ad w 0)), (1, .int v1), (2, .int v2), (3, .int v3), (4, .int x5), (5, .int x6), (6, .int 0), (7, .int (-1)), (8, .int 1)]) [5, 6, 7, 8, 4, 3, 2, 1, 0] rfl ?_
        exact J_X11_settings_51 hC hw hR hr (fun M37 v3_32 v4_33 v5_34 v6_35 v7_36 h => by
            refine gw_aload_n hC dX11_settings_146 rfl 0 rfl ?_
            refine gw_get hC cl_X11 fg_X11_7 (hw.lt (by decide)) (gd_0 hw _) (gv_X11_0 _ _ _) dX11_settings_147 ?_
            refine gw_iconst (v := 2) hC dX11_settings_150 (by decide) ?_
            refine gw_iload hC dX11_settings_151 2 rfl ?_
            obtain ⟨hi, h⟩ := h
            refine gw_iast hC (hw.lt (by decide)) (gd_1 hw) (gu_0 hw) hi dX11_settings_153 ?_
            refine gw_nmM (fun M38 hM38 => ?_)
            have h := h M38 hM38
            refine gw_aload_n hC dX11_settings_154 rfl 0 rfl ?_
            refine gw_get hC cl_X11 fg_X11_7 (hw.lt (by decide)) (gd_0 hw _) (gv_X11_0 _ _ _) dX11_settings_155 ?_
            refine gw_bipush (v := 12) hC dX11_settings_158 (by decide) ?_
            refine gw_iload hC dX11_settings_160 3 rfl ?_
            obtain ⟨hi, h⟩ := h
            refine gw_iast hC (hw.lt (by decide)) (gd_1 hw) (gu_0 hw) hi dX11_settings_162 ?_
            refine gw_nmM (fun M39 hM39 => ?_)
            have h := h M39 hM39
            refine gw_iload_n hC dX11_settings_163 rfl 1 rfl ?_
            refine gw_iconst (v := (-1)) hC dX11_settings_164 (by decide) ?_
            refine gw_icmp_ne (tgt := 173) hC dX11_settings_165 (by decide) (fun hc => ?_) (fun hc => ?_)
            · have h := gx_f h hc
              refine gw_iload hC dX11_settings_173 5 rfl ?_
              exact gw_iret hC hr dX11_settings_175 h
            · have h := gx_t h hc
              refine gw_iload hC dX11_settings_168 4 rfl ?_
              refine gw_goto (tgt := 175) hC dX11_settings_170 (by decide) ?_
              exact gw_iret hC hr dX11_settings_175 h) k31 M7 v1 v2 v3 x5 x6 0 (-1) 1 h
      · have h := gx_f h hc
        refine gw_iconst (v := (-1)) hC dX11_settings_19 (by decide) ?_
        exact gw_iret hC hr dX11_settings_20 h
theorem c_X11_settings {l : Launch} {d : gx_D} {w : gx_V} {ca : Nat → ClassId} (hw : gx_isR ca w)   {M : gx_M} {v1 : Int32} {v2 : Int32} {v3 : Int32} {Q : Int32 → gx_M → Prop} (h : T_X11_settings M v1 v2 v3 Q) : gx_Mi l d w yX11_settings cX11_settings 10 .int rm_X11_settings [.ref (gx_ad w 0), .int v1, .int v2, .int v3] M Q := fun sz =>
  gx_of (own := RX11) (by decide +kernel) rfl (Nat.le_of_ble_eq_true rfl) (fun z hC hl hR hsz hr => by subst hsz; exact J_X11_settings hC hw hR hr  h) rfl
set_option maxRecDepth 20000 in
theorem J_X11_risen_3 {z : gx_X} {d : gx_D} {w : gx_V} {ca : Nat → ClassId} (hC : gx_C z d w cX11_risen 7 RX11) (hw : gx_isR ca w) (hR : gx_R z = rm_X11_risen) (hr : (gx_me z).sig.returnType = (some .int)) {M : gx_M} {Q : Int32 → Prop}   : ∀ (n : Nat) (v1 : Int32) (v3 : Int32) (v4 : Int32) (v5 : Int32) (v6 : Int32) , T_X11_risen_3 M Q  n v1 v3 v4 v5 v6 → GW z w 7 (gx_Qi w (fun r M1 => M1 = M ∧ Q r) (gx_s z).heap.size) M 3 [(0, .ref (gx_ad w 0)), (1, .int v1), (3, .int v3), (4, .int v4), (5, .int v5), (6, .int v6)] [] := by
  intro n
  induction n with
  | zero =>
    intro v1 v3 v4 v5 v6 h
    exact h.elim
  | succ n ih =>
    intro v1 v3 v4 v5 v6 h
    rw [T_X11_risen_3] at h
    refine gw_iload hC dX11_risen_3 5 rfl ?_
    refine gw_iload_n hC dX11_risen_5 rfl 2 rfl ?_
    refine gw_icmp_ge (tgt := 58) hC dX11_risen_6 (by decide) (fun hc => ?_) (fun hc => ?_)
    · have h := gx_t h hc
      refine gw_iconst (v := (-1)) hC dX11_risen_58 (by decide) ?_
      exact gw_iret hC hr dX11_risen_59 ⟨rfl, h⟩
    · have h := gx_f h hc
      refine gw_bipush (v := 10) hC dX11_risen_9 (by decide) ?_
      refine gw_aload_n hC dX11_risen_11 rfl 0 rfl ?_
      refine gw_get hC cl_X11 fg_X11_42 (hw.lt (by decide)) (gd_0 hw _) (gv_X11_11 _ _ _) dX11_risen_12 ?_
      refine gw_sipush (v := 2000) hC dX11_risen_15 (by decide) ?_
      refine gw_iload_n hC dX11_risen_18 rfl 1 rfl ?_
      refine gw_imul hC dX11_risen_19 ?_
      refine gw_iload hC dX11_risen_20 5 rfl ?_
      refine gw_iadd hC dX11_risen_22 ?_
      obtain ⟨hi, h⟩ := h
      refine gw_iald hC (hw.lt (by decide)) (gd_9 hw _) (gu_0 hw) hi dX11_risen_23 ?_
      refine gw_aload_n hC dX11_risen_24 rfl 0 rfl ?_
      refine gw_get hC cl_X11 fg_X11_351 (hw.lt (by decide)) (gd_0 hw _) (gv_X11_39 _ _ _) dX11_risen_25 ?_
      refine gw_isub hC dX11_risen_28 ?_
      refine gw_imul hC dX11_risen_29 ?_
      refine gw_iload hC dX11_risen_30 4 rfl ?_
      refine gw_aload_n hC dX11_risen_32 rfl 0 rfl ?_
      refine gw_get hC cl_X11 fg_X11_354 (hw.lt (by decide)) (gd_0 hw _) (gv_X11_40 _ _ _) dX11_risen_33 ?_
      refine gw_aload_n hC dX11_risen_36 rfl 0 rfl ?_
      refine gw_get hC cl_X11 fg_X11_351 (hw.lt (by decide)) (gd_0 hw _) (gv_X11_39 _ _ _) dX11_risen_37 ?_
      refine gw_isub hC dX11_risen_40 ?_
      refine gw_imul hC dX11_risen_41 ?_
      refine gw_icmp_lt (tgt := 48) hC dX11_risen_42 (by decide) (fun hc => ?_) (fun hc => ?_)
      · have h := gx_t h hc
        refine gw_iload hC dX11_risen_48 5 rfl ?_
        refine gw_iload hC dX11_risen_50 3 rfl ?_
        refine gw_iadd hC dX11_risen_52 ?_
        refine gw_nm (fun x1 hx1 => ?_)
        have h := h x1 hx1
        refine gw_istore (lv' := [(6, .int x1), (0, .ref (gx_ad w 0)), (1, .int v1), (3, .int v3), (4, .int v4), (5, .int v5)]) hC dX11_risen_53 (by decide) rfl ?_
        refine gw_goto (tgt := 3) hC dX11_risen_55 (by decide) ?_
        refine gw_sub (lv' := [(0, .ref (gx_ad w 0)), (1, .int v1), (3, .int v3), (4, .int v4), (5, .int v5), (6, .int x1)]) [1, 2, 3, 4, 5, 0] rfl ?_
        exact ih v1 v3 v4 v5 x1 h
      · have h := gx_f h hc
        refine gw_iload hC dX11_risen_45 5 rfl ?_
        exact gw_iret hC hr dX11_risen_47 ⟨rfl, h⟩
set_option maxRecDepth 20000 in
theorem J_X11_risen {z : gx_X} {d : gx_D} {w : gx_V} {ca : Nat → ClassId} (hC : gx_C z d w cX11_risen 7 RX11) (hw : gx_isR ca w) (hR : gx_R z = rm_X11_risen) (hr : (gx_me z).sig.returnType = (some .int))   {M : gx_M} {v1 : Int32} {v2 : Int32} {v3 : Int32} {v4 : Int32} {v5 : Int32} {Q : Int32 → Prop} (h : T_X11_risen M v1 v2 v3 v4 v5 Q) : GW z w 7 (gx_Qi w (fun r M1 => M1 = M ∧ Q r) (gx_s z).heap.size) M 0 [(0, .ref (gx_ad w 0)), (1, .int v1), (2, .int v2), (3, .int v3), (4, .int v4), (5, .int v5)] [] := by
  unfold T_X11_risen at h
  refine gw_iload_n hC dX11_risen_0 rfl 2 rfl ?_
  refine gw_istore (lv' := [(6, .int v2), (0, .ref (gx_ad w 0)), (1, .int v1), (2, .int v2), (3, .int v3), (4, .int v4), (5, .int v5)]) hC dX11_risen_1 (by decide) rfl ?_
  obtain ⟨k2, h⟩ := h
  refine gw_sub (lv' := [(0, .ref (gx_ad w 0)), (1, .int v1), (3, .int v3), (4, .int v4), (5, .int v5), (6, .int v2)]) [1, 2, 4, 5, 6, 0] rfl ?_
  exact J_X11_risen_3 hC hw hR hr  k2 v1 v3 v4 v5 v2 h
theorem c_X11_risen {l : Launch} {d : gx_D} {w : gx_V} {ca : Nat → ClassId} (hw : gx_isR ca w)   {M : gx_M} {v1 : Int32} {v2 : Int32} {v3 : Int32} {v4 : Int32} {v5 : Int32} {Q : Int32 → Prop} (h : T_X11_risen M v1 v2 v3 v4 v5 Q) : gx_Mi l d w yX11_risen cX11_risen 7 .int rm_X11_risen [.ref (gx_ad w 0), .int v1, .int v2, .int v3, .int v4, .int v5] M (fun r M1 => M1 = M ∧ Q r) := fun sz =>
  gx_of (own := RX11) (by decide +kernel) rfl (Nat.le_of_ble_eq_true rfl) (fun z hC hl hR hsz hr => by subst hsz; exact J_X11_risen hC hw hR hr  h) rfl
set_option maxRecDepth 20000 in
theorem J_X11_measure_138 {z : gx_X} {d : gx_D} {w : gx_V} {ca : Nat → ClassId} (hC : gx_C z d w cX11_measure 10 RX11) (hw : gx_isR ca w) (hR : gx_R z = rm_X11_measure) (hr : (gx_me z).sig.returnType = (some .int))  {Q : Int32 → gx_M → Prop} {K76 : gx_M → Int32 → Int32 → Int32 → Int32 → Int32 → Prop} (hK76 : ∀ (M : gx_M) (v1 : Int32) (v2 : Int32) (v3 : Int32) (v4 : Int32) (v5 : Int32), K76 M v1 v2 v3 v4 v5 → GW z w 10 (gx_Qi w Q (gx_s z).heap.size) M 76 [(0, .ref (gx_ad w 0)), (1, .int v1), (2, .int v2), (3, .int v3), (4, .int v4), (5, .int v5)] []) (M : gx_M) (t0 : Int32) (v1 : Int32) (v2 : Int32) (v3 : Int32) (v4 : Int32) (v5 : Int32)  (h : T_X11_measure_138 Q K76 M t0 v1 v2 v3 v4 v5) : GW z w 10 (gx_Qi w Q (gx_s z).heap.size) M 138 [(0, .ref (gx_ad w 0)), (1, .int v1), (2, .int v2), (3, .int v3), (4, .int v4), (5, .int v5)] [.int t0, .ref (gx_ad w 0)] := by
  unfold T_X11_measure_138 at h
  refine gw_put hC cl_X11 fp_X11_354 (hw.lt (by decide)) (gd_0 hw _) ((gd_0 hw _).trans (gs_X11_40 _ _ _ _)) rfl rfl (by simp [fs_X11]) dX11_measure_138 ?_
  refine gw_nmM (fun M14 hM14 => ?_)
  have h := h M14 hM14
  obtain ⟨x15, hx15⟩ : ∃ y : Int32, y = v5 + 1 := ⟨_, rfl⟩
  have h := h x15 hx15
  refine gw_iinc (v := x15) (lv' := [(5, .int x15), (0, .ref (gx_ad w 0)), (1, .int v1), (2, .int v2), (3, .int v3), (4, .int v4)]) hC dX11_measure_141 (k := 5) rfl (by rw [hx15]; rfl) (by decide) rfl ?_
  refine gw_goto (tgt := 76) hC dX11_measure_144 (by decide) ?_
  refine gw_sub (lv' := [(0, .ref (gx_ad w 0)), (1, .int v1), (2, .int v2), (3, .int v3), (4, .int v4), (5, .int x15)]) [1, 2, 3, 4, 5, 0] rfl ?_
  exact hK76 M14 v1 v2 v3 v4 x15 h
set_option maxRecDepth 20000 in
theorem J_X11_measure_116 {z : gx_X} {d : gx_D} {w : gx_V} {ca : Nat → ClassId} (hC : gx_C z d w cX11_measure 10 RX11) (hw : gx_isR ca w) (hR : gx_R z = rm_X11_measure) (hr : (gx_me z).sig.returnType = (some .int))  {Q : Int32 → gx_M → Prop} {K76 : gx_M → Int32 → Int32 → Int32 → Int32 → Int32 → Prop} (hK76 : ∀ (M : gx_M) (v1 : Int32) (v2 : Int32) (v3 : Int32) (v4 : Int32) (v5 : Int32), K76 M v1 v2 v3 v4 v5 → GW z w 10 (gx_Qi w Q (gx_s z).heap.size) M 76 [(0, .ref (gx_ad w 0)), (1, .int v1), (2, .int v2), (3, .int v3), (4, .int v4), (5, .int v5)] []) (M : gx_M) (t0 : Int32) (v1 : Int32) (v2 : Int32) (v3 : Int32) (v4 : Int32) (v5 : Int32) (v6 : Int32)  (h : T_X11_measure_116 Q K76 M t0 v1 v2 v3 v4 v5 v6) : GW z w 10 (gx_Qi w Q (gx_s z).heap.size) M 116 [(0, .ref (gx_ad w 0)), (1, .int v1), (2, .int v2), (3, .int v3), (4, .int v4), (5, .int v5), (6, .int v6)] [.int t0, .ref (gx_ad w 0)] := by
  unfold T_X11_measure_116 at h
  refine gw_put hC cl_X11 fp_X11_351 (hw.lt (by decide)) (gd_0 hw _) ((gd_0 hw _).trans (gs_X11_39 _ _ _ _)) rfl rfl (by simp [fs_X11]) dX11_measure_116 ?_
  refine gw_nmM (fun M13 hM13 => ?_)
  have h := h M13 hM13
  refine gw_aload_n hC dX11_measure_119 rfl 0 rfl ?_
  refine gw_iload hC dX11_measure_120 6 rfl ?_
  refine gw_aload_n hC dX11_measure_122 rfl 0 rfl ?_
  refine gw_get hC cl_X11 fg_X11_354 (hw.lt (by decide)) (gd_0 hw _) (gv_X11_40 _ _ _) dX11_measure_123 ?_
  refine gw_icmp_le (tgt := 134) hC dX11_measure_126 (by decide) (fun hc => ?_) (fun hc => ?_)
  · have h := gx_t h hc
    refine gw_aload_n hC dX11_measure_134 rfl 0 rfl ?_
    refine gw_get hC cl_X11 fg_X11_354 (hw.lt (by decide)) (gd_0 hw _) (gv_X11_40 _ _ _) dX11_measure_135 ?_
    refine gw_sub (lv' := [(0, .ref (gx_ad w 0)), (1, .int v1), (2, .int v2), (3, .int v3), (4, .int v4), (5, .int v5)]) [0, 1, 2, 3, 4, 5] rfl ?_
    exact J_X11_measure_138 hC hw hR hr hK76 M13 (M13 0 40) v1 v2 v3 v4 v5 h
  · have h := gx_f h hc
    refine gw_iload hC dX11_measure_129 6 rfl ?_
    refine gw_goto (tgt := 138) hC dX11_measure_131 (by decide) ?_
    refine gw_sub (lv' := [(0, .ref (gx_ad w 0)), (1, .int v1), (2, .int v2), (3, .int v3), (4, .int v4), (5, .int v5)]) [0, 1, 2, 3, 4, 5] rfl ?_
    exact J_X11_measure_138 hC hw hR hr hK76 M13 v6 v1 v2 v3 v4 v5 h
set_option maxRecDepth 20000 in
theorem J_X11_measure_76 {z : gx_X} {d : gx_D} {w : gx_V} {ca : Nat → ClassId} (hC : gx_C z d w cX11_measure 10 RX11) (hw : gx_isR ca w) (hR : gx_R z = rm_X11_measure) (hr : (gx_me z).sig.returnType = (some .int))  {Q : Int32 → gx_M → Prop} {K147 : gx_M → Int32 → Int32 → Int32 → Int32 → Prop} (hK147 : ∀ (M : gx_M) (v1 : Int32) (v2 : Int32) (v3 : Int32) (v4 : Int32), K147 M v1 v2 v3 v4 → GW z w 10 (gx_Qi w Q (gx_s z).heap.size) M 147 [(0, .ref (gx_ad w 0)), (1, .int v1), (2, .int v2), (3, .int v3), (4, .int v4)] []) : ∀ (n : Nat) (M : gx_M) (v1 : Int32) (v2 : Int32) (v3 : Int32) (v4 : Int32) (v5 : Int32) , T_X11_measure_76 Q K147 n M v1 v2 v3 v4 v5 → GW z w 10 (gx_Qi w Q (gx_s z).heap.size) M 76 [(0, .ref (gx_ad w 0)), (1, .int v1), (2, .int v2), (3, .int v3), (4, .int v4), (5, .int v5)] [] := by
  intro n
  induction n with
  | zero =>
    intro M v1 v2 v3 v4 v5 h
    exact h.elim
  | succ n ih =>
    intro M v1 v2 v3 v4 v5 h
    rw [T_X11_measure_76] at h
    refine gw_iload hC dX11_measure_76 5 rfl ?_
    refine gw_iload_n hC dX11_measure_78 rfl 3 rfl ?_
    refine gw_icmp_ge (tgt := 147) hC dX11_measure_79 (by decide) (fun hc => ?_) (fun hc => ?_)
    · have h := gx_t h hc
      refine gw_sub (lv' := [(0, .ref (gx_ad w 0)), (1, .int v1), (2, .int v2), (3, .int v3), (4, .int v4)]) [0, 1, 2, 3, 4] rfl ?_
      exact hK147 M v1 v2 v3 v4 h
    · have h := gx_f h hc
      refine gw_aload_n hC dX11_measure_82 rfl 0 rfl ?_
      refine gw_get hC cl_X11 fg_X11_42 (hw.lt (by decide)) (gd_0 hw _) (gv_X11_11 _ _ _) dX11_measure_83 ?_
      refine gw_sipush (v := 2000) hC dX11_measure_86 (by decide) ?_
      refine gw_iload_n hC dX11_measure_89 rfl 1 rfl ?_
      refine gw_imul hC dX11_measure_90 ?_
      refine gw_iload hC dX11_measure_91 5 rfl ?_
      refine gw_iadd hC dX11_measure_93 ?_
      obtain ⟨hi, h⟩ := h
      refine gw_iald hC (hw.lt (by decide)) (gd_9 hw _) (gu_0 hw) hi dX11_measure_94 ?_
      refine gw_nm (fun x12 hx12 => ?_)
      have h := h x12 hx12
      refine gw_istore (lv' := [(6, .int x12), (0, .ref (gx_ad w 0)), (1, .int v1), (2, .int v2), (3, .int v3), (4, .int v4), (5, .int v5)]) hC dX11_measure_95 (by decide) rfl ?_
      refine gw_aload_n hC dX11_measure_97 rfl 1 rfl ?_
      refine gw_iload hC dX11_measure_98 0 rfl ?_
      refine gw_aload_n hC dX11_measure_100 rfl 1 rfl ?_
      refine gw_get hC cl_X11 fg_X11_351 (hw.lt (by decide)) (gd_0 hw _) (gv_X11_39 _ _ _) dX11_measure_101 ?_
      refine gw_icmp_ge (tgt := 112) hC dX11_measure_104 (by decide) (fun hc => ?_) (fun hc => ?_)
      · have h := gx_t h hc
        refine gw_aload_n hC dX11_measure_112 rfl 1 rfl ?_
        refine gw_get hC cl_X11 fg_X11_351 (hw.lt (by decide)) (gd_0 hw _) (gv_X11_39 _ _ _) dX11_measure_113 ?_
        refine gw_sub (lv' := [(0, .ref (gx_ad w 0)), (1, .int v1), (2, .int v2), (3, .int v3), (4, .int v4), (5, .int v5), (6, .int x12)]) [1, 2, 3, 4, 5, 6, 0] rfl ?_
        exact J_X11_measure_116 hC hw hR hr ih M (M 0 39) v1 v2 v3 v4 v5 x12 h
      · have h := gx_f h hc
        refine gw_iload hC dX11_measure_107 0 rfl ?_
        refine gw_goto (tgt := 116) hC dX11_measure_109 (by decide) ?_
        refine gw_sub (lv' := [(0, .ref (gx_ad w 0)), (1, .int v1), (2, .int v2), (3, .int v3), (4, .int v4), (5, .int v5), (6, .int x12)]) [1, 2, 3, 4, 5, 6, 0] rfl ?_
        exact J_X11_measure_116 hC hw hR hr ih M x12 v1 v2 v3 v4 v5 x12 h
set_option maxRecDepth 20000 in
theorem J_X11_measure_250 {z : gx_X} {d : gx_D} {w : gx_V} {ca : Nat → ClassId} (hC : gx_C z d w cX11_measure 10 RX11) (hw : gx_isR ca w) (hR : gx_R z = rm_X11_measure) (hr : (gx_me z).sig.returnType = (some .int))  {Q : Int32 → gx_M → Prop}   (M : gx_M) (t0 : Int32) (v1 : Int32) (v2 : Int32) (v3 : Int32) (v4 : Int32)  (h : T_X11_measure_250 Q  M t0 v1 v2 v3 v4) : GW z w 10 (gx_Qi w Q (gx_s z).heap.size) M 250 [(0, .ref (gx_ad w 0)), (1, .int v1), (2, .int v2), (3, .int v3), (4, .int v4)] [.int t0] := by
  unfold T_X11_measure_250 at h
  refine gw_istore (lv' := [(5, .int t0), (0, .ref (gx_ad w 0)), (1, .int v1), (2, .int v2), (3, .int v3), (4, .int v4)]) hC dX11_measure_250 (by decide) rfl ?_
  refine gw_aload_n hC dX11_measure_252 rfl 1 rfl ?_
  refine gw_iload_n hC dX11_measure_253 rfl 2 rfl ?_
  refine gw_iload_n hC dX11_measure_254 rfl 3 rfl ?_
  refine gw_iload_n hC dX11_measure_255 rfl 4 rfl ?_
  refine gw_iload hC dX11_measure_256 0 rfl ?_
  refine gw_iconst (v := 1) hC dX11_measure_258 (by decide) ?_
  refine gw_calli (gx_rV hC (n := 5) (As := [.int v1, .int v2, .int v3, .int t0, .int 1]) (rest := []) (fun sz => c_X11_risen hw  h sz) cv_X11_357_X11_risen (by rw [hR]; exact rr_X11_measure_X11_risen) ⟨(hw.lt (by decide)), _, _, _, _, gd_0 hw _, cl_X11.1⟩ rfl rfl (Nat.le_of_ble_eq_true rfl) dX11_measure_259) ?_
  intro r22 m23 ⟨hm23, h⟩
  rw [hm23]
  refine gw_istore (lv' := [(6, .int r22), (5, .int t0), (0, .ref (gx_ad w 0)), (1, .int v1), (2, .int v2), (3, .int v3), (4, .int v4)]) hC dX11_measure_262 (by decide) rfl ?_
  refine gw_aload_n hC dX11_measure_264 rfl 2 rfl ?_
  refine gw_iload_n hC dX11_measure_265 rfl 3 rfl ?_
  refine gw_iload_n hC dX11_measure_266 rfl 4 rfl ?_
  refine gw_iload_n hC dX11_measure_267 rfl 5 rfl ?_
  refine gw_iload hC dX11_measure_268 1 rfl ?_
  refine gw_bipush (v := 9) hC dX11_measure_270 (by decide) ?_
  refine gw_calli (gx_rV hC (n := 5) (As := [.int v1, .int v2, .int v3, .int t0, .int 9]) (rest := []) (fun sz => c_X11_risen hw  h sz) cv_X11_357_X11_risen (by rw [hR]; exact rr_X11_measure_X11_risen) ⟨(hw.lt (by decide)), _, _, _, _, gd_0 hw _, cl_X11.1⟩ rfl rfl (Nat.le_of_ble_eq_true rfl) dX11_measure_272) ?_
  intro r24 m25 ⟨hm25, h⟩
  rw [hm25]
  refine gw_istore (lv' := [(7, .int r24), (6, .int r22), (5, .int t0), (0, .ref (gx_ad w 0)), (1, .int v1), (2, .int v2), (3, .int v3), (4, .int v4)]) hC dX11_measure_275 (by decide) rfl ?_
  refine gw_iload hC dX11_measure_277 1 rfl ?_
  refine gw_iconst (v := (-1)) hC dX11_measure_279 (by decide) ?_
  refine gw_icmp_eq (tgt := 289) hC dX11_measure_280 (by decide) (fun hc => ?_) (fun hc => ?_)
  · have h := gx_t h hc
    refine gw_ldc hC kc_X11_114 dX11_measure_289 ?_
    exact gw_iret hC hr dX11_measure_291 h
  · have h := gx_f h hc
    refine gw_iload hC dX11_measure_283 0 rfl ?_
    refine gw_iconst (v := (-1)) hC dX11_measure_285 (by decide) ?_
    refine gw_icmp_ne (tgt := 292) hC dX11_measure_286 (by decide) (fun hc => ?_) (fun hc => ?_)
    · have h := gx_f h hc
      refine gw_iload hC dX11_measure_292 0 rfl ?_
      refine gw_iload hC dX11_measure_294 1 rfl ?_
      refine gw_isub hC dX11_measure_296 ?_
      refine gw_nm (fun x26 hx26 => ?_)
      have h := h x26 hx26
      refine gw_istore (lv' := [(8, .int x26), (7, .int r24), (6, .int r22), (5, .int t0), (0, .ref (gx_ad w 0)), (1, .int v1), (2, .int v2), (3, .int v3), (4, .int v4)]) hC dX11_measure_297 (by decide) rfl ?_
      refine gw_iload hC dX11_measure_299 0 rfl ?_
      refine gw_iload hC dX11_measure_301 3 rfl ?_
      refine gw_isub hC dX11_measure_303 ?_
      refine gw_iconst (v := 1) hC dX11_measure_304 (by decide) ?_
      refine gw_iadd hC dX11_measure_305 ?_
      refine gw_nm (fun x27 hx27 => ?_)
      have h := h x27 hx27
      refine gw_istore (lv' := [(9, .int x27), (8, .int x26), (7, .int r24), (6, .int r22), (5, .int t0), (0, .ref (gx_ad w 0)), (1, .int v1), (2, .int v2), (3, .int v3), (4, .int v4)]) hC dX11_measure_306 (by decide) rfl ?_
      refine gw_iload hC dX11_measure_308 9 rfl ?_
      refine gw_iconst (v := 2) hC dX11_measure_310 (by decide) ?_
      refine gw_icmp_ne (tgt := 319) hC dX11_measure_311 (by decide) (fun hc => ?_) (fun hc => ?_)
      · have h := gx_f h hc
        refine gw_iload hC dX11_measure_319 9 rfl ?_
        refine gw_iconst (v := 4) hC dX11_measure_321 (by decide) ?_
        refine gw_icmp_ne (tgt := 339) hC dX11_measure_322 (by decide) (fun hc => ?_) (fun hc => ?_)
        · have h := gx_f h hc
          refine gw_iload hC dX11_measure_339 1 rfl ?_
          refine gw_iload hC dX11_measure_341 4 rfl ?_
          refine gw_iadd hC dX11_measure_343 ?_
          refine gw_iconst (v := 1) hC dX11_measure_344 (by decide) ?_
          refine gw_isub hC dX11_measure_345 ?_
          exact gw_iret hC hr dX11_measure_346 h
        · have h := gx_t h hc
          refine gw_iload hC dX11_measure_325 0 rfl ?_
          refine gw_if_ge (tgt := 334) hC dX11_measure_327 (by decide) (fun hc => ?_) (fun hc => ?_)
          · have h := gx_t h hc
            refine gw_iload hC dX11_measure_334 0 rfl ?_
            refine gw_goto (tgt := 346) hC dX11_measure_336 (by decide) ?_
            exact gw_iret hC hr dX11_measure_346 h
          · have h := gx_f h hc
            refine gw_iconst (v := 0) hC dX11_measure_330 (by decide) ?_
            refine gw_goto (tgt := 346) hC dX11_measure_331 (by decide) ?_
            exact gw_iret hC hr dX11_measure_346 h
      · have h := gx_t h hc
        refine gw_iload hC dX11_measure_314 1 rfl ?_
        refine gw_goto (tgt := 346) hC dX11_measure_316 (by decide) ?_
        exact gw_iret hC hr dX11_measure_346 h
    · have h := gx_t h hc
      refine gw_ldc hC kc_X11_114 dX11_measure_289 ?_
      exact gw_iret hC hr dX11_measure_291 h
set_option maxRecDepth 20000 in
theorem J_X11_measure_222 {z : gx_X} {d : gx_D} {w : gx_V} {ca : Nat → ClassId} (hC : gx_C z d w cX11_measure 10 RX11) (hw : gx_isR ca w) (hR : gx_R z = rm_X11_measure) (hr : (gx_me z).sig.returnType = (some .int))  {Q : Int32 → gx_M → Prop} {K182 : gx_M → Int32 → Int32 → Int32 → Int32 → Prop} (hK182 : ∀ (M : gx_M) (v1 : Int32) (v3 : Int32) (v5 : Int32) (v6 : Int32), K182 M v1 v3 v5 v6 → GW z w 10 (gx_Qi w Q (gx_s z).heap.size) M 182 [(0, .ref (gx_ad w 0)), (1, .int v1), (3, .int v3), (5, .int v5), (6, .int v6)] []) (M : gx_M) (t0 : Int32) (t1 : Int32) (v1 : Int32) (v3 : Int32) (v6 : Int32)  (h : T_X11_measure_222 Q K182 M t0 t1 v1 v3 v6) : GW z w 10 (gx_Qi w Q (gx_s z).heap.size) M 222 [(0, .ref (gx_ad w 0)), (1, .int v1), (3, .int v3), (6, .int v6)] [.int t0, .int t1] := by
  unfold T_X11_measure_222 at h
  refine gw_iadd hC dX11_measure_222 ?_
  refine gw_nm (fun x28 hx28 => ?_)
  have h := h x28 hx28
  refine gw_istore (lv' := [(5, .int x28), (0, .ref (gx_ad w 0)), (1, .int v1), (3, .int v3), (6, .int v6)]) hC dX11_measure_223 (by decide) rfl ?_
  obtain ⟨x29, hx29⟩ : ∃ y : Int32, y = v6 + 1 := ⟨_, rfl⟩
  have h := h x29 hx29
  refine gw_iinc (v := x29) (lv' := [(6, .int x29), (5, .int x28), (0, .ref (gx_ad w 0)), (1, .int v1), (3, .int v3)]) hC dX11_measure_225 (k := 4) rfl (by rw [hx29]; rfl) (by decide) rfl ?_
  refine gw_goto (tgt := 182) hC dX11_measure_228 (by decide) ?_
  refine gw_sub (lv' := [(0, .ref (gx_ad w 0)), (1, .int v1), (3, .int v3), (5, .int x28), (6, .int x29)]) [2, 3, 4, 1, 0] rfl ?_
  exact hK182 M v1 v3 x28 x29 h
set_option maxRecDepth 20000 in
theorem J_X11_measure_182 {z : gx_X} {d : gx_D} {w : gx_V} {ca : Nat → ClassId} (hC : gx_C z d w cX11_measure 10 RX11) (hw : gx_isR ca w) (hR : gx_R z = rm_X11_measure) (hr : (gx_me z).sig.returnType = (some .int))  {Q : Int32 → gx_M → Prop}   : ∀ (n : Nat) (M : gx_M) (v1 : Int32) (v3 : Int32) (v5 : Int32) (v6 : Int32) , T_X11_measure_182 Q  n M v1 v3 v5 v6 → GW z w 10 (gx_Qi w Q (gx_s z).heap.size) M 182 [(0, .ref (gx_ad w 0)), (1, .int v1), (3, .int v3), (5, .int v5), (6, .int v6)] [] := by
  intro n
  induction n with
  | zero =>
    intro M v1 v3 v5 v6 h
    exact h.elim
  | succ n ih =>
    intro M v1 v3 v5 v6 h
    rw [T_X11_measure_182] at h
    refine gw_iload hC dX11_measure_182 4 rfl ?_
    refine gw_iload_n hC dX11_measure_184 rfl 2 rfl ?_
    refine gw_icmp_ge (tgt := 231) hC dX11_measure_185 (by decide) (fun hc => ?_) (fun hc => ?_)
    · have h := gx_t h hc
      refine gw_iload hC dX11_measure_231 3 rfl ?_
      exact gw_iret hC hr dX11_measure_233 h
    · have h := gx_f h hc
      refine gw_iload hC dX11_measure_188 3 rfl ?_
      refine gw_iconst (v := 2) hC dX11_measure_190 (by decide) ?_
      refine gw_aload_n hC dX11_measure_191 rfl 0 rfl ?_
      refine gw_get hC cl_X11 fg_X11_42 (hw.lt (by decide)) (gd_0 hw _) (gv_X11_11 _ _ _) dX11_measure_192 ?_
      refine gw_sipush (v := 2000) hC dX11_measure_195 (by decide) ?_
      refine gw_iload_n hC dX11_measure_198 rfl 1 rfl ?_
      refine gw_imul hC dX11_measure_199 ?_
      refine gw_iload hC dX11_measure_200 4 rfl ?_
      refine gw_iadd hC dX11_measure_202 ?_
      obtain ⟨hi, h⟩ := h
      refine gw_iald hC (hw.lt (by decide)) (gd_9 hw _) (gu_0 hw) hi dX11_measure_203 ?_
      refine gw_imul hC dX11_measure_204 ?_
      refine gw_aload_n hC dX11_measure_205 rfl 0 rfl ?_
      refine gw_get hC cl_X11 fg_X11_351 (hw.lt (by decide)) (gd_0 hw _) (gv_X11_39 _ _ _) dX11_measure_206 ?_
      refine gw_aload_n hC dX11_measure_209 rfl 0 rfl ?_
      refine gw_get hC cl_X11 fg_X11_354 (hw.lt (by decide)) (gd_0 hw _) (gv_X11_40 _ _ _) dX11_measure_210 ?_
      refine gw_iadd hC dX11_measure_213 ?_
      refine gw_icmp_lt (tgt := 221) hC dX11_measure_214 (by decide) (fun hc => ?_) (fun hc => ?_)
      · have h := gx_t h hc
        refine gw_iconst (v := 0) hC dX11_measure_221 (by decide) ?_
        refine gw_sub (lv' := [(0, .ref (gx_ad w 0)), (1, .int v1), (3, .int v3), (6, .int v6)]) [0, 1, 2, 4] rfl ?_
        exact J_X11_measure_222 hC hw hR hr ih M 0 v5 v1 v3 v6 h
      · have h := gx_f h hc
        refine gw_iconst (v := 1) hC dX11_measure_217 (by decide) ?_
        refine gw_goto (tgt := 222) hC dX11_measure_218 (by decide) ?_
        refine gw_sub (lv' := [(0, .ref (gx_ad w 0)), (1, .int v1), (3, .int v3), (6, .int v6)]) [0, 1, 2, 4] rfl ?_
        exact J_X11_measure_222 hC hw hR hr ih M 1 v5 v1 v3 v6 h
set_option maxRecDepth 20000 in
theorem J_X11_measure {z : gx_X} {d : gx_D} {w : gx_V} {ca : Nat → ClassId} (hC : gx_C z d w cX11_measure 10 RX11) (hw : gx_isR ca w) (hR : gx_R z = rm_X11_measure) (hr : (gx_me z).sig.returnType = (some .int))   {M : gx_M} {v1 : Int32} {v2 : Int32} {v3 : Int32} {v4 : Int32} {Q : Int32 → gx_M → Prop} (h : T_X11_measure M v1 v2 v3 v4 Q) : GW z w 10 (gx_Qi w Q (gx_s z).heap.size) M 0 [(0, .ref (gx_ad w 0)), (1, .int v1), (2, .int v2), (3, .int v3), (4, .int v4)] [] := by
  unfold T_X11_measure at h
  refine gw_iload_n hC dX11_measure_0 rfl 1 rfl ?_
  refine gw_calli (gx_rS hC (n := 1) (As := [.int v1]) (rest := []) (fun sz => c_X11_isChannel hw  h sz) cs_X11_115_X11_isChannel (by rw [hR]; exact rr_X11_measure_X11_isChannel) rfl rfl (Nat.le_of_ble_eq_true rfl) dX11_measure_1) ?_
  intro r1 m2 ⟨hm2, h⟩
  rw [hm2]
  refine gw_if_eq (tgt := 41) hC dX11_measure_4 (by decide) (fun hc => ?_) (fun hc => ?_)
  · have h := gx_t h hc
    refine gw_ldc hC kc_X11_114 dX11_measure_41 ?_
    exact gw_iret hC hr dX11_measure_43 h
  · have h := gx_f h hc
    refine gw_iload_n hC dX11_measure_7 rfl 2 rfl ?_
    refine gw_iconst (v := 0) hC dX11_measure_8 (by decide) ?_
    refine gw_sipush (v := 1999) hC dX11_measure_9 (by decide) ?_
    refine gw_calli (gx_rS hC (n := 3) (As := [.int v2, .int 0, .int 1999]) (rest := []) (fun sz => c_X11_in hw  h sz) cs_X11_97_X11_in (by rw [hR]; exact rr_X11_measure_X11_in) rfl rfl (Nat.le_of_ble_eq_true rfl) dX11_measure_12) ?_
    intro r3 m4 ⟨hm4, h⟩
    rw [hm4]
    refine gw_if_eq (tgt := 41) hC dX11_measure_15 (by decide) (fun hc => ?_) (fun hc => ?_)
    · have h := gx_t h hc
      refine gw_ldc hC kc_X11_114 dX11_measure_41 ?_
      exact gw_iret hC hr dX11_measure_43 h
    · have h := gx_f h hc
      refine gw_iload_n hC dX11_measure_18 rfl 3 rfl ?_
      refine gw_iload_n hC dX11_measure_19 rfl 2 rfl ?_
      refine gw_iconst (v := 1) hC dX11_measure_20 (by decide) ?_
      refine gw_iadd hC dX11_measure_21 ?_
      refine gw_sipush (v := 2000) hC dX11_measure_22 (by decide) ?_
      refine gw_calli (gx_rS hC (n := 3) (As := [.int v3, .int (v2 + 1), .int 2000]) (rest := []) (fun sz => c_X11_in hw  h sz) cs_X11_97_X11_in (by rw [hR]; exact rr_X11_measure_X11_in) rfl rfl (Nat.le_of_ble_eq_true rfl) dX11_measure_25) ?_
      intro r5 m6 ⟨hm6, h⟩
      rw [hm6]
      refine gw_if_eq (tgt := 41) hC dX11_measure_28 (by decide) (fun hc => ?_) (fun hc => ?_)
      · have h := gx_t h hc
        refine gw_ldc hC kc_X11_114 dX11_measure_41 ?_
        exact gw_iret hC hr dX11_measure_43 h
      · have h := gx_f h hc
        refine gw_iload hC dX11_measure_31 4 rfl ?_
        refine gw_iconst (v := 0) hC dX11_measure_33 (by decide) ?_
        refine gw_iconst (v := 5) hC dX11_measure_34 (by decide) ?_
        refine gw_calli (gx_rS hC (n := 3) (As := [.int v4, .int 0, .int 5]) (rest := []) (fun sz => c_X11_in hw  h sz) cs_X11_97_X11_in (by rw [hR]; exact rr_X11_measure_X11_in) rfl rfl (Nat.le_of_ble_eq_true rfl) dX11_measure_35) ?_
        intro r7 m8 ⟨hm8, h⟩
        rw [hm8]
        refine gw_if_ne (tgt := 44) hC dX11_measure_38 (by decide) (fun hc => ?_) (fun hc => ?_)
        · have h := gx_f h hc
          refine gw_aload_n hC dX11_measure_44 rfl 0 rfl ?_
          refine gw_iload_n hC dX11_measure_45 rfl 1 rfl ?_
          refine gw_callv (gx_rV hC (n := 1) (As := [.int v1]) (rest := []) (fun sz => c_X11_laysOut hw  h sz) cv_X11_118_X11_laysOut (by rw [hR]; exact rr_X11_measure_X11_laysOut) ⟨(hw.lt (by decide)), _, _, _, _, gd_0 hw _, cl_X11.1⟩ rfl rfl (Nat.le_of_ble_eq_true rfl) dX11_measure_46) ?_
          intro M9 h
          refine gw_aload_n hC dX11_measure_49 rfl 0 rfl ?_
          refine gw_aload_n hC dX11_measure_50 rfl 0 rfl ?_
          refine gw_get hC cl_X11 fg_X11_42 (hw.lt (by decide)) (gd_0 hw _) (gv_X11_11 _ _ _) dX11_measure_51 ?_
          refine gw_sipush (v := 2000) hC dX11_measure_54 (by decide) ?_
          refine gw_iload_n hC dX11_measure_57 rfl 1 rfl ?_
          refine gw_imul hC dX11_measure_58 ?_
          refine gw_iload_n hC dX11_measure_59 rfl 2 rfl ?_
          refine gw_iadd hC dX11_measure_60 ?_
          obtain ⟨hi, h⟩ := h
          refine gw_iald hC (hw.lt (by decide)) (gd_9 hw _) (gu_0 hw) hi dX11_measure_61 ?_
          refine gw_put hC cl_X11 fp_X11_351 (hw.lt (by decide)) (gd_0 hw _) ((gd_0 hw _).trans (gs_X11_39 _ _ _ _)) rfl rfl (by simp [fs_X11]) dX11_measure_62 ?_
          refine gw_nmM (fun M10 hM10 => ?_)
          have h := h M10 hM10
          refine gw_aload_n hC dX11_measure_65 rfl 0 rfl ?_
          refine gw_aload_n hC dX11_measure_66 rfl 0 rfl ?_
          refine gw_get hC cl_X11 fg_X11_351 (hw.lt (by decide)) (gd_0 hw _) (gv_X11_39 _ _ _) dX11_measure_67 ?_
          refine gw_put hC cl_X11 fp_X11_354 (hw.lt (by decide)) (gd_0 hw _) ((gd_0 hw _).trans (gs_X11_40 _ _ _ _)) rfl rfl (by simp [fs_X11]) dX11_measure_70 ?_
          refine gw_nmM (fun M11 hM11 => ?_)
          have h := h M11 hM11
          refine gw_iload_n hC dX11_measure_73 rfl 2 rfl ?_
          refine gw_istore (lv' := [(5, .int v2), (0, .ref (gx_ad w 0)), (1, .int v1), (2, .int v2), (3, .int v3), (4, .int v4)]) hC dX11_measure_74 (by decide) rfl ?_
          obtain ⟨k16, h⟩ := h
          refine gw_sub (lv' := [(0, .ref (gx_ad w 0)), (1, .int v1), (2, .int v2), (3, .int v3), (4, .int v4), (5, .int v2)]) [1, 2, 3, 4, 5, 0] rfl ?_
          exact J_X11_measure_76 hC hw hR hr (fun M21 v1_17 v2_18 v3_19 v4_20 h => by
              refine gw_iload hC dX11_measure_147 4 rfl ?_
              refine gw_iconst (v := 2) hC dX11_measure_149 (by decide) ?_
              refine gw_icmp_ge (tgt := 170) hC dX11_measure_150 (by decide) (fun hc => ?_) (fun hc => ?_)
              · have h := gx_t h hc
                refine gw_iload hC dX11_measure_170 4 rfl ?_
                refine gw_iconst (v := 3) hC dX11_measure_172 (by decide) ?_
                refine gw_icmp_ne (tgt := 234) hC dX11_measure_173 (by decide) (fun hc => ?_) (fun hc => ?_)
                · have h := gx_f h hc
                  refine gw_iload hC dX11_measure_234 4 rfl ?_
                  refine gw_iconst (v := 2) hC dX11_measure_236 (by decide) ?_
                  refine gw_icmp_ne (tgt := 244) hC dX11_measure_237 (by decide) (fun hc => ?_) (fun hc => ?_)
                  · have h := gx_f h hc
                    refine gw_aload_n hC dX11_measure_244 rfl 0 rfl ?_
                    refine gw_get hC cl_X11 fg_X11_7 (hw.lt (by decide)) (gd_0 hw _) (gv_X11_0 _ _ _) dX11_measure_245 ?_
                    refine gw_iconst (v := 2) hC dX11_measure_248 (by decide) ?_
                    obtain ⟨hi, h⟩ := h
                    refine gw_iald hC (hw.lt (by decide)) (gd_1 hw _) (gu_0 hw) hi dX11_measure_249 ?_
                    exact J_X11_measure_250 hC hw hR hr  M21 (M21 1 (2 : Int32).toNatClampNeg) v1_17 v2_18 v3_19 v4_20 h
                  · have h := gx_t h hc
                    refine gw_iconst (v := 1) hC dX11_measure_240 (by decide) ?_
                    refine gw_goto (tgt := 250) hC dX11_measure_241 (by decide) ?_
                    exact J_X11_measure_250 hC hw hR hr  M21 1 v1_17 v2_18 v3_19 v4_20 h
                · have h := gx_t h hc
                  refine gw_iconst (v := 0) hC dX11_measure_176 (by decide) ?_
                  refine gw_istore (lv' := [(5, .int 0), (0, .ref (gx_ad w 0)), (1, .int v1_17), (2, .int v2_18), (3, .int v3_19), (4, .int v4_20)]) hC dX11_measure_177 (by decide) rfl ?_
                  refine gw_iload_n hC dX11_measure_179 rfl 3 rfl ?_
                  refine gw_istore (lv' := [(6, .int v2_18), (5, .int 0), (0, .ref (gx_ad w 0)), (1, .int v1_17), (2, .int v2_18), (3, .int v3_19), (4, .int v4_20)]) hC dX11_measure_180 (by decide) rfl ?_
                  obtain ⟨k30, h⟩ := h
                  refine gw_sub (lv' := [(0, .ref (gx_ad w 0)), (1, .int v1_17), (3, .int v3_19), (5, .int 0), (6, .int v2_18)]) [2, 3, 5, 1, 0] rfl ?_
                  exact J_X11_measure_182 hC hw hR hr  k30 M21 v1_17 v3_19 0 v2_18 h
              · have h := gx_f h hc
                refine gw_iload hC dX11_measure_153 4 rfl ?_
                refine gw_if_ne (tgt := 165) hC dX11_measure_155 (by decide) (fun hc => ?_) (fun hc => ?_)
                · have h := gx_f h hc
                  refine gw_aload_n hC dX11_measure_165 rfl 0 rfl ?_
                  refine gw_get hC cl_X11 fg_X11_354 (hw.lt (by decide)) (gd_0 hw _) (gv_X11_40 _ _ _) dX11_measure_166 ?_
                  exact gw_iret hC hr dX11_measure_169 h
                · have h := gx_t h hc
                  refine gw_aload_n hC dX11_measure_158 rfl 0 rfl ?_
                  refine gw_get hC cl_X11 fg_X11_351 (hw.lt (by decide)) (gd_0 hw _) (gv_X11_39 _ _ _) dX11_measure_159 ?_
                  refine gw_goto (tgt := 169) hC dX11_measure_162 (by decide) ?_
                  exact gw_iret hC hr dX11_measure_169 h) k16 M11 v1 v2 v3 v4 v2 h
        · have h := gx_t h hc
          refine gw_ldc hC kc_X11_114 dX11_measure_41 ?_
          exact gw_iret hC hr dX11_measure_43 h
theorem c_X11_measure {l : Launch} {d : gx_D} {w : gx_V} {ca : Nat → ClassId} (hw : gx_isR ca w)   {M : gx_M} {v1 : Int32} {v2 : Int32} {v3 : Int32} {v4 : Int32} {Q : Int32 → gx_M → Prop} (h : T_X11_measure M v1 v2 v3 v4 Q) : gx_Mi l d w yX11_measure cX11_measure 10 .int rm_X11_measure [.ref (gx_ad w 0), .int v1, .int v2, .int v3, .int v4] M Q := fun sz =>
  gx_of (own := RX11) (by decide +kernel) rfl (Nat.le_of_ble_eq_true rfl) (fun z hC hl hR hsz hr => by subst hsz; exact J_X11_measure hC hw hR hr  h) rfl
set_option maxRecDepth 20000 in
theorem J_X11_parting_119 {z : gx_X} {d : gx_D} {w : gx_V} {ca : Nat → ClassId} (hC : gx_C z d w cX11_parting 12 RX11) (hw : gx_isR ca w) (hR : gx_R z = rm_X11_parting) (hr : (gx_me z).sig.returnType = (some .int))  {Q : Int32 → gx_M → Prop} {K90 : gx_M → Int32 → Int32 → Int32 → Int32 → Int32 → Int32 → Int32 → Int32 → Int32 → Int32 → Prop} (hK90 : ∀ (M : gx_M) (v1 : Int32) (v2 : Int32) (v3 : Int32) (v4 : Int32) (v5 : Int32) (v6 : Int32) (v7 : Int32) (v8 : Int32) (v9 : Int32) (v10 : Int32), K90 M v1 v2 v3 v4 v5 v6 v7 v8 v9 v10 → GW z w 12 (gx_Qi w Q (gx_s z).heap.size) M 90 [(0, .ref (gx_ad w 0)), (1, .int v1), (2, .int v2), (3, .int v3), (4, .int v4), (5, .int v5), (6, .int v6), (7, .int v7), (8, .int v8), (9, .int v9), (10, .int v10)] []) (M : gx_M) (t0 : Int32) (t1 : Int32) (v1 : Int32) (v2 : Int32) (v3 : Int32) (v4 : Int32) (v5 : Int32) (v6 : Int32) (v7 : Int32) (v8 : Int32) (v9 : Int32) (v10 : Int32)  (h : T_X11_parting_119 Q K90 M t0 t1 v1 v2 v3 v4 v5 v6 v7 v8 v9 v10) : GW z w 12 (gx_Qi w Q (gx_s z).heap.size) M 119 [(0, .ref (gx_ad w 0)), (1, .int v1), (2, .int v2), (3, .int v3), (4, .int v4), (5, .int v5), (6, .int v6), (7, .int v7), (8, .int v8), (9, .int v9), (10, .int v10)] [.int t0, .int t1, .ref (gx_ad w 23)] := by
  unfold T_X11_parting_119 at h
  obtain ⟨hi, h⟩ := h
  refine gw_zast hC (hw.lt (by decide)) (gd_23 hw) (gu_7 hw) hi dX11_parting_119 ?_
  refine gw_nmM (fun M14 hM14 => ?_)
  have h := h M14 hM14
  obtain ⟨x15, hx15⟩ : ∃ y : Int32, y = v10 + 1 := ⟨_, rfl⟩
  have h := h x15 hx15
  refine gw_iinc (v := x15) (lv' := [(10, .int x15), (0, .ref (gx_ad w 0)), (1, .int v1), (2, .int v2), (3, .int v3), (4, .int v4), (5, .int v5), (6, .int v6), (7, .int v7), (8, .int v8), (9, .int v9)]) hC dX11_parting_120 (k := 10) rfl (by rw [hx15]; rfl) (by decide) rfl ?_
  refine gw_goto (tgt := 90) hC dX11_parting_123 (by decide) ?_
  refine gw_sub (lv' := [(0, .ref (gx_ad w 0)), (1, .int v1), (2, .int v2), (3, .int v3), (4, .int v4), (5, .int v5), (6, .int v6), (7, .int v7), (8, .int v8), (9, .int v9), (10, .int x15)]) [1, 2, 3, 4, 5, 6, 7, 8, 9, 10, 0] rfl ?_
  exact hK90 M14 v1 v2 v3 v4 v5 v6 v7 v8 v9 x15 h
set_option maxRecDepth 20000 in
theorem J_X11_parting_90 {z : gx_X} {d : gx_D} {w : gx_V} {ca : Nat → ClassId} (hC : gx_C z d w cX11_parting 12 RX11) (hw : gx_isR ca w) (hR : gx_R z = rm_X11_parting) (hr : (gx_me z).sig.returnType = (some .int))  {Q : Int32 → gx_M → Prop} {K126 : gx_M → Int32 → Int32 → Int32 → Int32 → Int32 → Int32 → Int32 → Int32 → Int32 → Prop} (hK126 : ∀ (M : gx_M) (v1 : Int32) (v2 : Int32) (v3 : Int32) (v4 : Int32) (v5 : Int32) (v6 : Int32) (v7 : Int32) (v8 : Int32) (v9 : Int32), K126 M v1 v2 v3 v4 v5 v6 v7 v8 v9 → GW z w 12 (gx_Qi w Q (gx_s z).heap.size) M 126 [(0, .ref (gx_ad w 0)), (1, .int v1), (2, .int v2), (3, .int v3), (4, .int v4), (5, .int v5), (6, .int v6), (7, .int v7), (8, .int v8), (9, .int v9)] []) : ∀ (n : Nat) (M : gx_M) (v1 : Int32) (v2 : Int32) (v3 : Int32) (v4 : Int32) (v5 : Int32) (v6 : Int32) (v7 : Int32) (v8 : Int32) (v9 : Int32) (v10 : Int32) , T_X11_parting_90 Q K126 n M v1 v2 v3 v4 v5 v6 v7 v8 v9 v10 → GW z w 12 (gx_Qi w Q (gx_s z).heap.size) M 90 [(0, .ref (gx_ad w 0)), (1, .int v1), (2, .int v2), (3, .int v3), (4, .int v4), (5, .int v5), (6, .int v6), (7, .int v7), (8, .int v8), (9, .int v9), (10, .int v10)] [] := by
  intro n
  induction n with
  | zero =>
    intro M v1 v2 v3 v4 v5 v6 v7 v8 v9 v10 h
    exact h.elim
  | succ n ih =>
    intro M v1 v2 v3 v4 v5 v6 v7 v8 v9 v10 h
    rw [T_X11_parting_90] at h
    refine gw_iload hC dX11_parting_90 10 rfl ?_
    refine gw_sipush (v := 320) hC dX11_parting_92 (by decide) ?_
    refine gw_icmp_ge (tgt := 126) hC dX11_parting_95 (by decide) (fun hc => ?_) (fun hc => ?_)
    · have h := gx_t h hc
      refine gw_sub (lv' := [(0, .ref (gx_ad w 0)), (1, .int v1), (2, .int v2), (3, .int v3), (4, .int v4), (5, .int v5), (6, .int v6), (7, .int v7), (8, .int v8), (9, .int v9)]) [0, 1, 2, 3, 4, 5, 6, 7, 8, 9] rfl ?_
      exact hK126 M v1 v2 v3 v4 v5 v6 v7 v8 v9 h
    · have h := gx_f h hc
      refine gw_aload_n hC dX11_parting_98 rfl 0 rfl ?_
      refine gw_get hC cl_X11 fg_X11_85 (hw.lt (by decide)) (gd_0 hw _) (gv_X11_41 _ _ _) dX11_parting_99 ?_
      refine gw_iload hC dX11_parting_102 10 rfl ?_
      refine gw_aload_n hC dX11_parting_104 rfl 0 rfl ?_
      refine gw_get hC cl_X11 fg_X11_79 (hw.lt (by decide)) (gd_0 hw _) (gv_X11_37 _ _ _) dX11_parting_105 ?_
      refine gw_iload hC dX11_parting_108 10 rfl ?_
      obtain ⟨hi, h⟩ := h
      refine gw_iald hC (hw.lt (by decide)) (gd_21 hw _) (gu_0 hw) hi dX11_parting_110 ?_
      refine gw_if_le (tgt := 118) hC dX11_parting_111 (by decide) (fun hc => ?_) (fun hc => ?_)
      · have h := gx_t h hc
        refine gw_iconst (v := 0) hC dX11_parting_118 (by decide) ?_
        exact J_X11_parting_119 hC hw hR hr ih M 0 v10 v1 v2 v3 v4 v5 v6 v7 v8 v9 v10 h
      · have h := gx_f h hc
        refine gw_iconst (v := 1) hC dX11_parting_114 (by decide) ?_
        refine gw_goto (tgt := 119) hC dX11_parting_115 (by decide) ?_
        exact J_X11_parting_119 hC hw hR hr ih M 1 v10 v1 v2 v3 v4 v5 v6 v7 v8 v9 v10 h
set_option maxRecDepth 20000 in
theorem J_X11_parting_185 {z : gx_X} {d : gx_D} {w : gx_V} {ca : Nat → ClassId} (hC : gx_C z d w cX11_parting 12 RX11) (hw : gx_isR ca w) (hR : gx_R z = rm_X11_parting) (hr : (gx_me z).sig.returnType = (some .int))  {Q : Int32 → gx_M → Prop} {K145 : gx_M → Int32 → Int32 → Int32 → Int32 → Int32 → Int32 → Int32 → Int32 → Int32 → Int32 → Int32 → Prop} (hK145 : ∀ (M : gx_M) (v1 : Int32) (v2 : Int32) (v3 : Int32) (v4 : Int32) (v5 : Int32) (v6 : Int32) (v7 : Int32) (v8 : Int32) (v9 : Int32) (v10 : Int32) (v11 : Int32), K145 M v1 v2 v3 v4 v5 v6 v7 v8 v9 v10 v11 → GW z w 12 (gx_Qi w Q (gx_s z).heap.size) M 145 [(0, .ref (gx_ad w 0)), (1, .int v1), (2, .int v2), (3, .int v3), (4, .int v4), (5, .int v5), (6, .int v6), (7, .int v7), (8, .int v8), (9, .int v9), (10, .int v10), (11, .int v11)] []) (M : gx_M) (t0 : Int32) (t1 : Int32) (v1 : Int32) (v2 : Int32) (v3 : Int32) (v4 : Int32) (v5 : Int32) (v6 : Int32) (v7 : Int32) (v8 : Int32) (v9 : Int32) (v11 : Int32)  (h : T_X11_parting_185 Q K145 M t0 t1 v1 v2 v3 v4 v5 v6 v7 v8 v9 v11) : GW z w 12 (gx_Qi w Q (gx_s z).heap.size) M 185 [(0, .ref (gx_ad w 0)), (1, .int v1), (2, .int v2), (3, .int v3), (4, .int v4), (5, .int v5), (6, .int v6), (7, .int v7), (8, .int v8), (9, .int v9), (11, .int v11)] [.int t0, .int t1] := by
  unfold T_X11_parting_185 at h
  refine gw_iadd hC dX11_parting_185 ?_
  refine gw_nm (fun x29 hx29 => ?_)
  have h := h x29 hx29
  refine gw_istore (lv' := [(10, .int x29), (0, .ref (gx_ad w 0)), (1, .int v1), (2, .int v2), (3, .int v3), (4, .int v4), (5, .int v5), (6, .int v6), (7, .int v7), (8, .int v8), (9, .int v9), (11, .int v11)]) hC dX11_parting_186 (by decide) rfl ?_
  obtain ⟨x30, hx30⟩ : ∃ y : Int32, y = v11 + 1 := ⟨_, rfl⟩
  have h := h x30 hx30
  refine gw_iinc (v := x30) (lv' := [(11, .int x30), (10, .int x29), (0, .ref (gx_ad w 0)), (1, .int v1), (2, .int v2), (3, .int v3), (4, .int v4), (5, .int v5), (6, .int v6), (7, .int v7), (8, .int v8), (9, .int v9)]) hC dX11_parting_188 (k := 11) rfl (by rw [hx30]; rfl) (by decide) rfl ?_
  refine gw_goto (tgt := 145) hC dX11_parting_191 (by decide) ?_
  refine gw_sub (lv' := [(0, .ref (gx_ad w 0)), (1, .int v1), (2, .int v2), (3, .int v3), (4, .int v4), (5, .int v5), (6, .int v6), (7, .int v7), (8, .int v8), (9, .int v9), (10, .int x29), (11, .int x30)]) [2, 3, 4, 5, 6, 7, 8, 9, 10, 11, 1, 0] rfl ?_
  exact hK145 M v1 v2 v3 v4 v5 v6 v7 v8 v9 x29 x30 h
set_option maxRecDepth 20000 in
theorem J_X11_parting_177 {z : gx_X} {d : gx_D} {w : gx_V} {ca : Nat → ClassId} (hC : gx_C z d w cX11_parting 12 RX11) (hw : gx_isR ca w) (hR : gx_R z = rm_X11_parting) (hr : (gx_me z).sig.returnType = (some .int))  {Q : Int32 → gx_M → Prop} {K145 : gx_M → Int32 → Int32 → Int32 → Int32 → Int32 → Int32 → Int32 → Int32 → Int32 → Int32 → Int32 → Prop} (hK145 : ∀ (M : gx_M) (v1 : Int32) (v2 : Int32) (v3 : Int32) (v4 : Int32) (v5 : Int32) (v6 : Int32) (v7 : Int32) (v8 : Int32) (v9 : Int32) (v10 : Int32) (v11 : Int32), K145 M v1 v2 v3 v4 v5 v6 v7 v8 v9 v10 v11 → GW z w 12 (gx_Qi w Q (gx_s z).heap.size) M 145 [(0, .ref (gx_ad w 0)), (1, .int v1), (2, .int v2), (3, .int v3), (4, .int v4), (5, .int v5), (6, .int v6), (7, .int v7), (8, .int v8), (9, .int v9), (10, .int v10), (11, .int v11)] []) (M : gx_M) (t0 : Int32) (t1 : Int32) (t2 : Int32) (v1 : Int32) (v2 : Int32) (v3 : Int32) (v4 : Int32) (v5 : Int32) (v6 : Int32) (v7 : Int32) (v8 : Int32) (v9 : Int32) (v11 : Int32)  (h : T_X11_parting_177 Q K145 M t0 t1 t2 v1 v2 v3 v4 v5 v6 v7 v8 v9 v11) : GW z w 12 (gx_Qi w Q (gx_s z).heap.size) M 177 [(0, .ref (gx_ad w 0)), (1, .int v1), (2, .int v2), (3, .int v3), (4, .int v4), (5, .int v5), (6, .int v6), (7, .int v7), (8, .int v8), (9, .int v9), (11, .int v11)] [.int t0, .int t1, .int t2] := by
  unfold T_X11_parting_177 at h
  refine gw_icmp_eq (tgt := 184) hC dX11_parting_177 (by decide) (fun hc => ?_) (fun hc => ?_)
  · have h := gx_t h hc
    refine gw_iconst (v := 0) hC dX11_parting_184 (by decide) ?_
    exact J_X11_parting_185 hC hw hR hr hK145 M 0 t2 v1 v2 v3 v4 v5 v6 v7 v8 v9 v11 h
  · have h := gx_f h hc
    refine gw_iconst (v := 1) hC dX11_parting_180 (by decide) ?_
    refine gw_goto (tgt := 185) hC dX11_parting_181 (by decide) ?_
    exact J_X11_parting_185 hC hw hR hr hK145 M 1 t2 v1 v2 v3 v4 v5 v6 v7 v8 v9 v11 h
set_option maxRecDepth 20000 in
theorem J_X11_parting_145 {z : gx_X} {d : gx_D} {w : gx_V} {ca : Nat → ClassId} (hC : gx_C z d w cX11_parting 12 RX11) (hw : gx_isR ca w) (hR : gx_R z = rm_X11_parting) (hr : (gx_me z).sig.returnType = (some .int))  {Q : Int32 → gx_M → Prop} {K194 : gx_M → Int32 → Int32 → Int32 → Int32 → Int32 → Int32 → Int32 → Int32 → Int32 → Int32 → Prop} (hK194 : ∀ (M : gx_M) (v1 : Int32) (v2 : Int32) (v3 : Int32) (v4 : Int32) (v5 : Int32) (v6 : Int32) (v7 : Int32) (v8 : Int32) (v9 : Int32) (v10 : Int32), K194 M v1 v2 v3 v4 v5 v6 v7 v8 v9 v10 → GW z w 12 (gx_Qi w Q (gx_s z).heap.size) M 194 [(0, .ref (gx_ad w 0)), (1, .int v1), (2, .int v2), (3, .int v3), (4, .int v4), (5, .int v5), (6, .int v6), (7, .int v7), (8, .int v8), (9, .int v9), (10, .int v10)] []) : ∀ (n : Nat) (M : gx_M) (v1 : Int32) (v2 : Int32) (v3 : Int32) (v4 : Int32) (v5 : Int32) (v6 : Int32) (v7 : Int32) (v8 : Int32) (v9 : Int32) (v10 : Int32) (v11 : Int32) , T_X11_parting_145 Q K194 n M v1 v2 v3 v4 v5 v6 v7 v8 v9 v10 v11 → GW z w 12 (gx_Qi w Q (gx_s z).heap.size) M 145 [(0, .ref (gx_ad w 0)), (1, .int v1), (2, .int v2), (3, .int v3), (4, .int v4), (5, .int v5), (6, .int v6), (7, .int v7), (8, .int v8), (9, .int v9), (10, .int v10), (11, .int v11)] [] := by
  intro n
  induction n with
  | zero =>
    intro M v1 v2 v3 v4 v5 v6 v7 v8 v9 v10 v11 h
    exact h.elim
  | succ n ih =>
    intro M v1 v2 v3 v4 v5 v6 v7 v8 v9 v10 v11 h
    rw [T_X11_parting_145] at h
    refine gw_iload hC dX11_parting_145 11 rfl ?_
    refine gw_sipush (v := 320) hC dX11_parting_147 (by decide) ?_
    refine gw_icmp_ge (tgt := 194) hC dX11_parting_150 (by decide) (fun hc => ?_) (fun hc => ?_)
    · have h := gx_t h hc
      refine gw_sub (lv' := [(0, .ref (gx_ad w 0)), (1, .int v1), (2, .int v2), (3, .int v3), (4, .int v4), (5, .int v5), (6, .int v6), (7, .int v7), (8, .int v8), (9, .int v9), (10, .int v10)]) [0, 1, 2, 3, 4, 5, 6, 7, 8, 9, 10] rfl ?_
      exact hK194 M v1 v2 v3 v4 v5 v6 v7 v8 v9 v10 h
    · have h := gx_f h hc
      refine gw_iload hC dX11_parting_153 10 rfl ?_
      refine gw_aload_n hC dX11_parting_155 rfl 0 rfl ?_
      refine gw_get hC cl_X11 fg_X11_85 (hw.lt (by decide)) (gd_0 hw _) (gv_X11_41 _ _ _) dX11_parting_156 ?_
      refine gw_iload hC dX11_parting_159 11 rfl ?_
      obtain ⟨hi, h⟩ := h
      refine gw_zald hC (hw.lt (by decide)) (gd_23 hw _) (gu_7 hw) hi dX11_parting_161 ?_
      refine gw_aload_n hC dX11_parting_162 rfl 0 rfl ?_
      refine gw_get hC cl_X11 fg_X11_79 (hw.lt (by decide)) (gd_0 hw _) (gv_X11_37 _ _ _) dX11_parting_163 ?_
      refine gw_iload hC dX11_parting_166 11 rfl ?_
      obtain ⟨hi, h⟩ := h
      refine gw_iald hC (hw.lt (by decide)) (gd_21 hw _) (gu_0 hw) hi dX11_parting_168 ?_
      refine gw_if_le (tgt := 176) hC dX11_parting_169 (by decide) (fun hc => ?_) (fun hc => ?_)
      · have h := gx_t h hc
        refine gw_iconst (v := 0) hC dX11_parting_176 (by decide) ?_
        refine gw_sub (lv' := [(0, .ref (gx_ad w 0)), (1, .int v1), (2, .int v2), (3, .int v3), (4, .int v4), (5, .int v5), (6, .int v6), (7, .int v7), (8, .int v8), (9, .int v9), (11, .int v11)]) [0, 1, 2, 3, 4, 5, 6, 7, 8, 9, 11] rfl ?_
        exact J_X11_parting_177 hC hw hR hr ih M 0 (M 23 v11.toNatClampNeg) v10 v1 v2 v3 v4 v5 v6 v7 v8 v9 v11 h
      · have h := gx_f h hc
        refine gw_iconst (v := 1) hC dX11_parting_172 (by decide) ?_
        refine gw_goto (tgt := 177) hC dX11_parting_173 (by decide) ?_
        refine gw_sub (lv' := [(0, .ref (gx_ad w 0)), (1, .int v1), (2, .int v2), (3, .int v3), (4, .int v4), (5, .int v5), (6, .int v6), (7, .int v7), (8, .int v8), (9, .int v9), (11, .int v11)]) [0, 1, 2, 3, 4, 5, 6, 7, 8, 9, 11] rfl ?_
        exact J_X11_parting_177 hC hw hR hr ih M 1 (M 23 v11.toNatClampNeg) v10 v1 v2 v3 v4 v5 v6 v7 v8 v9 v11 h
set_option maxRecDepth 20000 in
theorem J_X11_parting_209 {z : gx_X} {d : gx_D} {w : gx_V} {ca : Nat → ClassId} (hC : gx_C z d w cX11_parting 12 RX11) (hw : gx_isR ca w) (hR : gx_R z = rm_X11_parting) (hr : (gx_me z).sig.returnType = (some .int))  {Q : Int32 → gx_M → Prop} {K59 : gx_M → Int32 → Int32 → Int32 → Int32 → Int32 → Int32 → Int32 → Int32 → Int32 → Prop} (hK59 : ∀ (M : gx_M) (v1 : Int32) (v2 : Int32) (v3 : Int32) (v4 : Int32) (v5 : Int32) (v6 : Int32) (v7 : Int32) (v8 : Int32) (v9 : Int32), K59 M v1 v2 v3 v4 v5 v6 v7 v8 v9 → GW z w 12 (gx_Qi w Q (gx_s z).heap.size) M 59 [(0, .ref (gx_ad w 0)), (1, .int v1), (2, .int v2), (3, .int v3), (4, .int v4), (5, .int v5), (6, .int v6), (7, .int v7), (8, .int v8), (9, .int v9)] []) (M : gx_M) (v1 : Int32) (v2 : Int32) (v3 : Int32) (v4 : Int32) (v5 : Int32) (v6 : Int32) (v7 : Int32) (v8 : Int32) (v9 : Int32)  (h : T_X11_parting_209 Q K59 M v1 v2 v3 v4 v5 v6 v7 v8 v9) : GW z w 12 (gx_Qi w Q (gx_s z).heap.size) M 209 [(0, .ref (gx_ad w 0)), (1, .int v1), (2, .int v2), (3, .int v3), (4, .int v4), (5, .int v5), (6, .int v6), (7, .int v7), (8, .int v8), (9, .int v9)] [] := by
  unfold T_X11_parting_209 at h
  obtain ⟨x43, hx43⟩ : ∃ y : Int32, y = v9 + 1 := ⟨_, rfl⟩
  have h := h x43 hx43
  refine gw_iinc (v := x43) (lv' := [(9, .int x43), (0, .ref (gx_ad w 0)), (1, .int v1), (2, .int v2), (3, .int v3), (4, .int v4), (5, .int v5), (6, .int v6), (7, .int v7), (8, .int v8)]) hC dX11_parting_209 (k := 9) rfl (by rw [hx43]; rfl) (by decide) rfl ?_
  refine gw_goto (tgt := 59) hC dX11_parting_212 (by decide) ?_
  refine gw_sub (lv' := [(0, .ref (gx_ad w 0)), (1, .int v1), (2, .int v2), (3, .int v3), (4, .int v4), (5, .int v5), (6, .int v6), (7, .int v7), (8, .int v8), (9, .int x43)]) [1, 2, 3, 4, 5, 6, 7, 8, 9, 0] rfl ?_
  exact hK59 M v1 v2 v3 v4 v5 v6 v7 v8 x43 h
set_option maxRecDepth 20000 in
theorem J_X11_parting_59 {z : gx_X} {d : gx_D} {w : gx_V} {ca : Nat → ClassId} (hC : gx_C z d w cX11_parting 12 RX11) (hw : gx_isR ca w) (hR : gx_R z = rm_X11_parting) (hr : (gx_me z).sig.returnType = (some .int))  {Q : Int32 → gx_M → Prop} {K215 : gx_M → Int32 → Int32 → Int32 → Int32 → Int32 → Prop} (hK215 : ∀ (M : gx_M) (v4 : Int32) (v5 : Int32) (v6 : Int32) (v7 : Int32) (v8 : Int32), K215 M v4 v5 v6 v7 v8 → GW z w 12 (gx_Qi w Q (gx_s z).heap.size) M 215 [(0, .ref (gx_ad w 0)), (4, .int v4), (5, .int v5), (6, .int v6), (7, .int v7), (8, .int v8)] []) : ∀ (n : Nat) (M : gx_M) (v1 : Int32) (v2 : Int32) (v3 : Int32) (v4 : Int32) (v5 : Int32) (v6 : Int32) (v7 : Int32) (v8 : Int32) (v9 : Int32) , T_X11_parting_59 Q K215 n M v1 v2 v3 v4 v5 v6 v7 v8 v9 → GW z w 12 (gx_Qi w Q (gx_s z).heap.size) M 59 [(0, .ref (gx_ad w 0)), (1, .int v1), (2, .int v2), (3, .int v3), (4, .int v4), (5, .int v5), (6, .int v6), (7, .int v7), (8, .int v8), (9, .int v9)] [] := by
  intro n
  induction n with
  | zero =>
    intro M v1 v2 v3 v4 v5 v6 v7 v8 v9 h
    exact h.elim
  | succ n ih =>
    intro M v1 v2 v3 v4 v5 v6 v7 v8 v9 h
    rw [T_X11_parting_59] at h
    refine gw_iload hC dX11_parting_59 9 rfl ?_
    refine gw_bipush (v := 21) hC dX11_parting_61 (by decide) ?_
    refine gw_icmp_ge (tgt := 215) hC dX11_parting_63 (by decide) (fun hc => ?_) (fun hc => ?_)
    · have h := gx_t h hc
      refine gw_sub (lv' := [(0, .ref (gx_ad w 0)), (4, .int v4), (5, .int v5), (6, .int v6), (7, .int v7), (8, .int v8)]) [0, 4, 5, 6, 7, 8] rfl ?_
      exact hK215 M v4 v5 v6 v7 v8 h
    · have h := gx_f h hc
      refine gw_aload_n hC dX11_parting_66 rfl 0 rfl ?_
      refine gw_get hC cl_X11 fg_X11_7 (hw.lt (by decide)) (gd_0 hw _) (gv_X11_0 _ _ _) dX11_parting_67 ?_
      refine gw_iconst (v := 2) hC dX11_parting_70 (by decide) ?_
      refine gw_iload hC dX11_parting_71 9 rfl ?_
      obtain ⟨hi, h⟩ := h
      refine gw_iast hC (hw.lt (by decide)) (gd_1 hw) (gu_0 hw) hi dX11_parting_73 ?_
      refine gw_nmM (fun M11 hM11 => ?_)
      have h := h M11 hM11
      refine gw_aload_n hC dX11_parting_74 rfl 0 rfl ?_
      refine gw_get hC cl_X11 fg_X11_7 (hw.lt (by decide)) (gd_0 hw _) (gv_X11_0 _ _ _) dX11_parting_75 ?_
      refine gw_bipush (v := 10) hC dX11_parting_78 (by decide) ?_
      refine gw_iload_n hC dX11_parting_80 rfl 1 rfl ?_
      obtain ⟨hi, h⟩ := h
      refine gw_iast hC (hw.lt (by decide)) (gd_1 hw) (gu_0 hw) hi dX11_parting_81 ?_
      refine gw_nmM (fun M12 hM12 => ?_)
      have h := h M12 hM12
      refine gw_aload_n hC dX11_parting_82 rfl 0 rfl ?_
      refine gw_iload_n hC dX11_parting_83 rfl 3 rfl ?_
      refine gw_callv (gx_rV hC (n := 1) (As := [.int v3]) (rest := []) (fun sz => c_X11_shows hw  h sz) cv_X11_325_X11_shows (by rw [hR]; exact rr_X11_parting_X11_shows) ⟨(hw.lt (by decide)), _, _, _, _, gd_0 hw _, cl_X11.1⟩ rfl rfl (Nat.le_of_ble_eq_true rfl) dX11_parting_84) ?_
      intro M13 h
      refine gw_iconst (v := 0) hC dX11_parting_87 (by decide) ?_
      refine gw_istore (lv' := [(10, .int 0), (0, .ref (gx_ad w 0)), (1, .int v1), (2, .int v2), (3, .int v3), (4, .int v4), (5, .int v5), (6, .int v6), (7, .int v7), (8, .int v8), (9, .int v9)]) hC dX11_parting_88 (by decide) rfl ?_
      obtain ⟨k16, h⟩ := h
      refine gw_sub (lv' := [(0, .ref (gx_ad w 0)), (1, .int v1), (2, .int v2), (3, .int v3), (4, .int v4), (5, .int v5), (6, .int v6), (7, .int v7), (8, .int v8), (9, .int v9), (10, .int 0)]) [1, 2, 3, 4, 5, 6, 7, 8, 9, 10, 0] rfl ?_
      exact J_X11_parting_90 hC hw hR hr (fun M26 v1_17 v2_18 v3_19 v4_20 v5_21 v6_22 v7_23 v8_24 v9_25 h => by
          refine gw_aload_n hC dX11_parting_126 rfl 0 rfl ?_
          refine gw_get hC cl_X11 fg_X11_7 (hw.lt (by decide)) (gd_0 hw _) (gv_X11_0 _ _ _) dX11_parting_127 ?_
          refine gw_bipush (v := 10) hC dX11_parting_130 (by decide) ?_
          refine gw_iload_n hC dX11_parting_132 rfl 2 rfl ?_
          obtain ⟨hi, h⟩ := h
          refine gw_iast hC (hw.lt (by decide)) (gd_1 hw) (gu_0 hw) hi dX11_parting_133 ?_
          refine gw_nmM (fun M27 hM27 => ?_)
          have h := h M27 hM27
          refine gw_aload_n hC dX11_parting_134 rfl 0 rfl ?_
          refine gw_iload_n hC dX11_parting_135 rfl 3 rfl ?_
          refine gw_callv (gx_rV hC (n := 1) (As := [.int v3_19]) (rest := []) (fun sz => c_X11_shows hw  h sz) cv_X11_325_X11_shows (by rw [hR]; exact rr_X11_parting_X11_shows) ⟨(hw.lt (by decide)), _, _, _, _, gd_0 hw _, cl_X11.1⟩ rfl rfl (Nat.le_of_ble_eq_true rfl) dX11_parting_136) ?_
          intro M28 h
          refine gw_iconst (v := 0) hC dX11_parting_139 (by decide) ?_
          refine gw_istore (lv' := [(10, .int 0), (0, .ref (gx_ad w 0)), (1, .int v1_17), (2, .int v2_18), (3, .int v3_19), (4, .int v4_20), (5, .int v5_21), (6, .int v6_22), (7, .int v7_23), (8, .int v8_24), (9, .int v9_25)]) hC dX11_parting_140 (by decide) rfl ?_
          refine gw_iconst (v := 0) hC dX11_parting_142 (by decide) ?_
          refine gw_istore (lv' := [(11, .int 0), (10, .int 0), (0, .ref (gx_ad w 0)), (1, .int v1_17), (2, .int v2_18), (3, .int v3_19), (4, .int v4_20), (5, .int v5_21), (6, .int v6_22), (7, .int v7_23), (8, .int v8_24), (9, .int v9_25)]) hC dX11_parting_143 (by decide) rfl ?_
          obtain ⟨k31, h⟩ := h
          refine gw_sub (lv' := [(0, .ref (gx_ad w 0)), (1, .int v1_17), (2, .int v2_18), (3, .int v3_19), (4, .int v4_20), (5, .int v5_21), (6, .int v6_22), (7, .int v7_23), (8, .int v8_24), (9, .int v9_25), (10, .int 0), (11, .int 0)]) [2, 3, 4, 5, 6, 7, 8, 9, 10, 11, 1, 0] rfl ?_
          exact J_X11_parting_145 hC hw hR hr (fun M42 v1_32 v2_33 v3_34 v4_35 v5_36 v6_37 v7_38 v8_39 v9_40 v10_41 h => by
              refine gw_iload hC dX11_parting_194 10 rfl ?_
              refine gw_iload hC dX11_parting_196 8 rfl ?_
              refine gw_icmp_le (tgt := 209) hC dX11_parting_198 (by decide) (fun hc => ?_) (fun hc => ?_)
              · have h := gx_t h hc
                refine gw_sub (lv' := [(0, .ref (gx_ad w 0)), (1, .int v1_32), (2, .int v2_33), (3, .int v3_34), (4, .int v4_35), (5, .int v5_36), (6, .int v6_37), (7, .int v7_38), (8, .int v8_39), (9, .int v9_40)]) [0, 1, 2, 3, 4, 5, 6, 7, 8, 9] rfl ?_
                exact J_X11_parting_209 hC hw hR hr ih M42 v1_32 v2_33 v3_34 v4_35 v5_36 v6_37 v7_38 v8_39 v9_40 h
              · have h := gx_f h hc
                refine gw_iload hC dX11_parting_201 10 rfl ?_
                refine gw_istore (lv' := [(8, .int v10_41), (0, .ref (gx_ad w 0)), (1, .int v1_32), (2, .int v2_33), (3, .int v3_34), (4, .int v4_35), (5, .int v5_36), (6, .int v6_37), (7, .int v7_38), (9, .int v9_40), (10, .int v10_41)]) hC dX11_parting_203 (by decide) rfl ?_
                refine gw_iload hC dX11_parting_205 9 rfl ?_
                refine gw_istore (lv' := [(7, .int v9_40), (8, .int v10_41), (0, .ref (gx_ad w 0)), (1, .int v1_32), (2, .int v2_33), (3, .int v3_34), (4, .int v4_35), (5, .int v5_36), (6, .int v6_37), (9, .int v9_40), (10, .int v10_41)]) hC dX11_parting_207 (by decide) rfl ?_
                refine gw_sub (lv' := [(0, .ref (gx_ad w 0)), (1, .int v1_32), (2, .int v2_33), (3, .int v3_34), (4, .int v4_35), (5, .int v5_36), (6, .int v6_37), (7, .int v9_40), (8, .int v10_41), (9, .int v9_40)]) [2, 3, 4, 5, 6, 7, 8, 0, 1, 9] rfl ?_
                exact J_X11_parting_209 hC hw hR hr ih M42 v1_32 v2_33 v3_34 v4_35 v5_36 v6_37 v9_40 v10_41 v9_40 h) k31 M28 v1_17 v2_18 v3_19 v4_20 v5_21 v6_22 v7_23 v8_24 v9_25 0 0 h) k16 M13 v1 v2 v3 v4 v5 v6 v7 v8 v9 0 h
set_option maxRecDepth 20000 in
theorem J_X11_parting {z : gx_X} {d : gx_D} {w : gx_V} {ca : Nat → ClassId} (hC : gx_C z d w cX11_parting 12 RX11) (hw : gx_isR ca w) (hR : gx_R z = rm_X11_parting) (hr : (gx_me z).sig.returnType = (some .int))   {M : gx_M} {v1 : Int32} {v2 : Int32} {v3 : Int32} {v4 : Int32} {Q : Int32 → gx_M → Prop} (h : T_X11_parting M v1 v2 v3 v4 Q) : GW z w 12 (gx_Qi w Q (gx_s z).heap.size) M 0 [(0, .ref (gx_ad w 0)), (1, .int v1), (2, .int v2), (3, .int v3), (4, .int v4)] [] := by
  unfold T_X11_parting at h
  refine gw_iload_n hC dX11_parting_0 rfl 1 rfl ?_
  refine gw_calli (gx_rS hC (n := 1) (As := [.int v1]) (rest := []) (fun sz => c_X11_isSignal hw  h sz) cs_X11_101_X11_isSignal (by rw [hR]; exact rr_X11_parting_X11_isSignal) rfl rfl (Nat.le_of_ble_eq_true rfl) dX11_parting_1) ?_
  intro r1 m2 ⟨hm2, h⟩
  rw [hm2]
  refine gw_if_eq (tgt := 31) hC dX11_parting_4 (by decide) (fun hc => ?_) (fun hc => ?_)
  · have h := gx_t h hc
    refine gw_iconst (v := (-1)) hC dX11_parting_31 (by decide) ?_
    exact gw_iret hC hr dX11_parting_32 h
  · have h := gx_f h hc
    refine gw_iload_n hC dX11_parting_7 rfl 2 rfl ?_
    refine gw_calli (gx_rS hC (n := 1) (As := [.int v2]) (rest := []) (fun sz => c_X11_isSignal hw  h sz) cs_X11_101_X11_isSignal (by rw [hR]; exact rr_X11_parting_X11_isSignal) rfl rfl (Nat.le_of_ble_eq_true rfl) dX11_parting_8) ?_
    intro r3 m4 ⟨hm4, h⟩
    rw [hm4]
    refine gw_if_eq (tgt := 31) hC dX11_parting_11 (by decide) (fun hc => ?_) (fun hc => ?_)
    · have h := gx_t h hc
      refine gw_iconst (v := (-1)) hC dX11_parting_31 (by decide) ?_
      exact gw_iret hC hr dX11_parting_32 h
    · have h := gx_f h hc
      refine gw_iload_n hC dX11_parting_14 rfl 3 rfl ?_
      refine gw_calli (gx_rS hC (n := 1) (As := [.int v3]) (rest := []) (fun sz => c_X11_isEnd hw  h sz) cs_X11_301_X11_isEnd (by rw [hR]; exact rr_X11_parting_X11_isEnd) rfl rfl (Nat.le_of_ble_eq_true rfl) dX11_parting_15) ?_
      intro r5 m6 ⟨hm6, h⟩
      rw [hm6]
      refine gw_if_eq (tgt := 31) hC dX11_parting_18 (by decide) (fun hc => ?_) (fun hc => ?_)
      · have h := gx_t h hc
        refine gw_iconst (v := (-1)) hC dX11_parting_31 (by decide) ?_
        exact gw_iret hC hr dX11_parting_32 h
      · have h := gx_f h hc
        refine gw_iload hC dX11_parting_21 4 rfl ?_
        refine gw_iconst (v := 0) hC dX11_parting_23 (by decide) ?_
        refine gw_iconst (v := 1) hC dX11_parting_24 (by decide) ?_
        refine gw_calli (gx_rS hC (n := 3) (As := [.int v4, .int 0, .int 1]) (rest := []) (fun sz => c_X11_in hw  h sz) cs_X11_97_X11_in (by rw [hR]; exact rr_X11_parting_X11_in) rfl rfl (Nat.le_of_ble_eq_true rfl) dX11_parting_25) ?_
        intro r7 m8 ⟨hm8, h⟩
        rw [hm8]
        refine gw_if_ne (tgt := 33) hC dX11_parting_28 (by decide) (fun hc => ?_) (fun hc => ?_)
        · have h := gx_f h hc
          refine gw_aload_n hC dX11_parting_33 rfl 0 rfl ?_
          refine gw_get hC cl_X11 fg_X11_7 (hw.lt (by decide)) (gd_0 hw _) (gv_X11_0 _ _ _) dX11_parting_34 ?_
          refine gw_iconst (v := 2) hC dX11_parting_37 (by decide) ?_
          obtain ⟨hi, h⟩ := h
          refine gw_iald hC (hw.lt (by decide)) (gd_1 hw _) (gu_0 hw) hi dX11_parting_38 ?_
          refine gw_nm (fun x9 hx9 => ?_)
          have h := h x9 hx9
          refine gw_istore (lv' := [(5, .int x9), (0, .ref (gx_ad w 0)), (1, .int v1), (2, .int v2), (3, .int v3), (4, .int v4)]) hC dX11_parting_39 (by decide) rfl ?_
          refine gw_aload_n hC dX11_parting_41 rfl 1 rfl ?_
          refine gw_get hC cl_X11 fg_X11_7 (hw.lt (by decide)) (gd_0 hw _) (gv_X11_0 _ _ _) dX11_parting_42 ?_
          refine gw_bipush (v := 10) hC dX11_parting_45 (by decide) ?_
          obtain ⟨hi, h⟩ := h
          refine gw_iald hC (hw.lt (by decide)) (gd_1 hw _) (gu_0 hw) hi dX11_parting_47 ?_
          refine gw_nm (fun x10 hx10 => ?_)
          have h := h x10 hx10
          refine gw_istore (lv' := [(6, .int x10), (5, .int x9), (0, .ref (gx_ad w 0)), (1, .int v1), (2, .int v2), (3, .int v3), (4, .int v4)]) hC dX11_parting_48 (by decide) rfl ?_
          refine gw_iconst (v := (-1)) hC dX11_parting_50 (by decide) ?_
          refine gw_istore (lv' := [(7, .int (-1)), (6, .int x10), (5, .int x9), (0, .ref (gx_ad w 0)), (1, .int v1), (2, .int v2), (3, .int v3), (4, .int v4)]) hC dX11_parting_51 (by decide) rfl ?_
          refine gw_iconst (v := (-1)) hC dX11_parting_53 (by decide) ?_
          refine gw_istore (lv' := [(8, .int (-1)), (7, .int (-1)), (6, .int x10), (5, .int x9), (0, .ref (gx_ad w 0)), (1, .int v1), (2, .int v2), (3, .int v3), (4, .int v4)]) hC dX11_parting_54 (by decide) rfl ?_
          refine gw_iconst (v := 1) hC dX11_parting_56 (by decide) ?_
          refine gw_istore (lv' := [(9, .int 1), (8, .int (-1)), (7, .int (-1)), (6, .int x10), (5, .int x9), (0, .ref (gx_ad w 0)), (1, .int v1), (2, .int v2), (3, .int v3), (4, .int v4)]) hC dX11_parting_57 (by decide) rfl ?_
          obtain ⟨k44, h⟩ := h
          refine gw_sub (lv' := [(0, .ref (gx_ad w 0)), (1, .int v1), (2, .int v2), (3, .int v3), (4, .int v4), (5, .int x9), (6, .int x10), (7, .int (-1)), (8, .int (-1)), (9, .int 1)]) [5, 6, 7, 8, 9, 4, 3, 2, 1, 0] rfl ?_
          exact J_X11_parting_59 hC hw hR hr (fun M50 v4_45 v5_46 v6_47 v7_48 v8_49 h => by
              refine gw_aload_n hC dX11_parting_215 rfl 0 rfl ?_
              refine gw_get hC cl_X11 fg_X11_7 (hw.lt (by decide)) (gd_0 hw _) (gv_X11_0 _ _ _) dX11_parting_216 ?_
              refine gw_iconst (v := 2) hC dX11_parting_219 (by decide) ?_
              refine gw_iload hC dX11_parting_220 2 rfl ?_
              obtain ⟨hi, h⟩ := h
              refine gw_iast hC (hw.lt (by decide)) (gd_1 hw) (gu_0 hw) hi dX11_parting_222 ?_
              refine gw_nmM (fun M51 hM51 => ?_)
              have h := h M51 hM51
              refine gw_aload_n hC dX11_parting_223 rfl 0 rfl ?_
              refine gw_get hC cl_X11 fg_X11_7 (hw.lt (by decide)) (gd_0 hw _) (gv_X11_0 _ _ _) dX11_parting_224 ?_
              refine gw_bipush (v := 10) hC dX11_parting_227 (by decide) ?_
              refine gw_iload hC dX11_parting_229 3 rfl ?_
              obtain ⟨hi, h⟩ := h
              refine gw_iast hC (hw.lt (by decide)) (gd_1 hw) (gu_0 hw) hi dX11_parting_231 ?_
              refine gw_nmM (fun M52 hM52 => ?_)
              have h := h M52 hM52
              refine gw_iload hC dX11_parting_232 1 rfl ?_
              refine gw_if_ne (tgt := 242) hC dX11_parting_234 (by decide) (fun hc => ?_) (fun hc => ?_)
              · have h := gx_f h hc
                refine gw_iload hC dX11_parting_242 5 rfl ?_
                exact gw_iret hC hr dX11_parting_244 h
              · have h := gx_t h hc
                refine gw_iload hC dX11_parting_237 4 rfl ?_
                refine gw_goto (tgt := 244) hC dX11_parting_239 (by decide) ?_
                exact gw_iret hC hr dX11_parting_244 h) k44 M v1 v2 v3 v4 x9 x10 (-1) (-1) 1 h
        · have h := gx_t h hc
          refine gw_iconst (v := (-1)) hC dX11_parting_31 (by decide) ?_
          exact gw_iret hC hr dX11_parting_32 h
theorem c_X11_parting {l : Launch} {d : gx_D} {w : gx_V} {ca : Nat → ClassId} (hw : gx_isR ca w)   {M : gx_M} {v1 : Int32} {v2 : Int32} {v3 : Int32} {v4 : Int32} {Q : Int32 → gx_M → Prop} (h : T_X11_parting M v1 v2 v3 v4 Q) : gx_Mi l d w yX11_parting cX11_parting 12 .int rm_X11_parting [.ref (gx_ad w 0), .int v1, .int v2, .int v3, .int v4] M Q := fun sz =>
  gx_of (own := RX11) (by decide +kernel) rfl (Nat.le_of_ble_eq_true rfl) (fun z hC hl hR hsz hr => by subst hsz; exact J_X11_parting hC hw hR hr  h) rfl
set_option maxRecDepth 20000 in
theorem J_X11_image {z : gx_X} {d : gx_D} {w : gx_V} {ca : Nat → ClassId} (hC : gx_C z d w cX11_image 1 RX11) (hw : gx_isR ca w) (hR : gx_R z = rm_X11_image) (hr : (gx_me z).sig.returnType = (some .int))   {M : gx_M}  {Q : Int32 → gx_M → Prop} (h : T_X11_image M  Q) : GW z w 1 (gx_Qi w Q (gx_s z).heap.size) M 0 [(0, .ref (gx_ad w 0))] [] := by
  unfold T_X11_image at h
  refine gw_aload_n hC dX11_image_0 rfl 0 rfl ?_
  refine gw_iconst (v := 1) hC dX11_image_1 (by decide) ?_
  refine gw_callv (gx_rV hC (n := 1) (As := [.int 1]) (rest := []) (fun sz => c_X11_copies hw  h sz) cv_X11_89_X11_copies (by rw [hR]; exact rr_X11_image_X11_copies) ⟨(hw.lt (by decide)), _, _, _, _, gd_0 hw _, cl_X11.1⟩ rfl rfl (Nat.le_of_ble_eq_true rfl) dX11_image_2) ?_
  intro M1 h
  refine gw_aload_n hC dX11_image_5 rfl 0 rfl ?_
  refine gw_get hC cl_X11 fg_X11_7 (hw.lt (by decide)) (gd_0 hw _) (gv_X11_0 _ _ _) dX11_image_6 ?_
  refine gw_iconst (v := 0) hC dX11_image_9 (by decide) ?_
  obtain ⟨hi, h⟩ := h
  refine gw_iald hC (hw.lt (by decide)) (gd_1 hw _) (gu_0 hw) hi dX11_image_10 ?_
  exact gw_iret hC hr dX11_image_11 h
theorem c_X11_image {l : Launch} {d : gx_D} {w : gx_V} {ca : Nat → ClassId} (hw : gx_isR ca w)   {M : gx_M}  {Q : Int32 → gx_M → Prop} (h : T_X11_image M  Q) : gx_Mi l d w yX11_image cX11_image 1 .int rm_X11_image [.ref (gx_ad w 0)] M Q := fun sz =>
  gx_of (own := RX11) (by decide +kernel) rfl (Nat.le_of_ble_eq_true rfl) (fun z hC hl hR hsz hr => by subst hsz; exact J_X11_image hC hw hR hr  h) rfl
set_option maxRecDepth 20000 in
theorem J_X11_back {z : gx_X} {d : gx_D} {w : gx_V} {ca : Nat → ClassId} (hC : gx_C z d w cX11_back 1 RX11) (hw : gx_isR ca w) (hR : gx_R z = rm_X11_back) (hr : (gx_me z).sig.returnType = (some .int))   {M : gx_M}  {Q : Int32 → gx_M → Prop} (h : T_X11_back M  Q) : GW z w 1 (gx_Qi w Q (gx_s z).heap.size) M 0 [(0, .ref (gx_ad w 0))] [] := by
  unfold T_X11_back at h
  refine gw_aload_n hC dX11_back_0 rfl 0 rfl ?_
  refine gw_iconst (v := 0) hC dX11_back_1 (by decide) ?_
  refine gw_callv (gx_rV hC (n := 1) (As := [.int 0]) (rest := []) (fun sz => c_X11_copies hw  h sz) cv_X11_89_X11_copies (by rw [hR]; exact rr_X11_back_X11_copies) ⟨(hw.lt (by decide)), _, _, _, _, gd_0 hw _, cl_X11.1⟩ rfl rfl (Nat.le_of_ble_eq_true rfl) dX11_back_2) ?_
  intro M1 h
  refine gw_aload_n hC dX11_back_5 rfl 0 rfl ?_
  refine gw_get hC cl_X11 fg_X11_7 (hw.lt (by decide)) (gd_0 hw _) (gv_X11_0 _ _ _) dX11_back_6 ?_
  refine gw_iconst (v := 0) hC dX11_back_9 (by decide) ?_
  obtain ⟨hi, h⟩ := h
  refine gw_iald hC (hw.lt (by decide)) (gd_1 hw _) (gu_0 hw) hi dX11_back_10 ?_
  exact gw_iret hC hr dX11_back_11 h
theorem c_X11_back {l : Launch} {d : gx_D} {w : gx_V} {ca : Nat → ClassId} (hw : gx_isR ca w)   {M : gx_M}  {Q : Int32 → gx_M → Prop} (h : T_X11_back M  Q) : gx_Mi l d w yX11_back cX11_back 1 .int rm_X11_back [.ref (gx_ad w 0)] M Q := fun sz =>
  gx_of (own := RX11) (by decide +kernel) rfl (Nat.le_of_ble_eq_true rfl) (fun z hC hl hR hsz hr => by subst hsz; exact J_X11_back hC hw hR hr  h) rfl
set_option maxRecDepth 20000 in
theorem J_X11_about {z : gx_X} {d : gx_D} {w : gx_V} {ca : Nat → ClassId} (hC : gx_C z d w cX11_about 2 RX11) (hw : gx_isR ca w) (hR : gx_R z = rm_X11_about) (hr : (gx_me z).sig.returnType = (some .int))   {M : gx_M} {v1 : Int32} {Q : Int32 → Prop} (h : T_X11_about M v1 Q) : GW z w 2 (gx_Qi w (fun r M1 => M1 = M ∧ Q r) (gx_s z).heap.size) M 0 [(0, .ref (gx_ad w 0)), (1, .int v1)] [] := by
  unfold T_X11_about at h
  refine gw_iload_n hC dX11_about_0 rfl 1 rfl ?_
  refine gw_iconst (v := 0) hC dX11_about_1 (by decide) ?_
  refine gw_bipush (v := 6) hC dX11_about_2 (by decide) ?_
  refine gw_calli (gx_rS hC (n := 3) (As := [.int v1, .int 0, .int 6]) (rest := []) (fun sz => c_X11_in hw  h sz) cs_X11_97_X11_in (by rw [hR]; exact rr_X11_about_X11_in) rfl rfl (Nat.le_of_ble_eq_true rfl) dX11_about_4) ?_
  intro r1 m2 ⟨hm2, h⟩
  rw [hm2]
  refine gw_if_eq (tgt := 17) hC dX11_about_7 (by decide) (fun hc => ?_) (fun hc => ?_)
  · have h := gx_t h hc
    refine gw_iload_n hC dX11_about_17 rfl 1 rfl ?_
    refine gw_bipush (v := 7) hC dX11_about_18 (by decide) ?_
    refine gw_icmp_ne (tgt := 30) hC dX11_about_20 (by decide) (fun hc => ?_) (fun hc => ?_)
    · have h := gx_f h hc
      refine gw_iload_n hC dX11_about_30 rfl 1 rfl ?_
      refine gw_bipush (v := 10) hC dX11_about_31 (by decide) ?_
      refine gw_bipush (v := 15) hC dX11_about_33 (by decide) ?_
      refine gw_calli (gx_rS hC (n := 3) (As := [.int v1, .int 10, .int 15]) (rest := []) (fun sz => c_X11_in hw  h sz) cs_X11_97_X11_in (by rw [hR]; exact rr_X11_about_X11_in) rfl rfl (Nat.le_of_ble_eq_true rfl) dX11_about_35) ?_
      intro r3 m4 ⟨hm4, h⟩
      rw [hm4]
      refine gw_if_eq (tgt := 50) hC dX11_about_38 (by decide) (fun hc => ?_) (fun hc => ?_)
      · have h := gx_t h hc
        refine gw_iload_n hC dX11_about_50 rfl 1 rfl ?_
        refine gw_bipush (v := 20) hC dX11_about_51 (by decide) ?_
        refine gw_bipush (v := 23) hC dX11_about_53 (by decide) ?_
        refine gw_calli (gx_rS hC (n := 3) (As := [.int v1, .int 20, .int 23]) (rest := []) (fun sz => c_X11_in hw  h sz) cs_X11_97_X11_in (by rw [hR]; exact rr_X11_about_X11_in) rfl rfl (Nat.le_of_ble_eq_true rfl) dX11_about_55) ?_
        intro r5 m6 ⟨hm6, h⟩
        rw [hm6]
        refine gw_if_eq (tgt := 76) hC dX11_about_58 (by decide) (fun hc => ?_) (fun hc => ?_)
        · have h := gx_t h hc
          refine gw_iconst (v := (-1)) hC dX11_about_76 (by decide) ?_
          exact gw_iret hC hr dX11_about_77 ⟨rfl, h⟩
        · have h := gx_f h hc
          refine gw_aload_n hC dX11_about_61 rfl 0 rfl ?_
          refine gw_get hC cl_X11 fg_X11_7 (hw.lt (by decide)) (gd_0 hw _) (gv_X11_0 _ _ _) dX11_about_62 ?_
          refine gw_bipush (v := 24) hC dX11_about_65 (by decide) ?_
          refine gw_iload_n hC dX11_about_67 rfl 1 rfl ?_
          refine gw_iadd hC dX11_about_68 ?_
          refine gw_bipush (v := 20) hC dX11_about_69 (by decide) ?_
          refine gw_isub hC dX11_about_71 ?_
          obtain ⟨hi, h⟩ := h
          refine gw_iald hC (hw.lt (by decide)) (gd_1 hw _) (gu_0 hw) hi dX11_about_72 ?_
          refine gw_goto (tgt := 77) hC dX11_about_73 (by decide) ?_
          exact gw_iret hC hr dX11_about_77 ⟨rfl, h⟩
      · have h := gx_f h hc
        refine gw_aload_n hC dX11_about_41 rfl 0 rfl ?_
        refine gw_get hC cl_X11 fg_X11_7 (hw.lt (by decide)) (gd_0 hw _) (gv_X11_0 _ _ _) dX11_about_42 ?_
        refine gw_iload_n hC dX11_about_45 rfl 1 rfl ?_
        obtain ⟨hi, h⟩ := h
        refine gw_iald hC (hw.lt (by decide)) (gd_1 hw _) (gu_0 hw) hi dX11_about_46 ?_
        refine gw_goto (tgt := 77) hC dX11_about_47 (by decide) ?_
        exact gw_iret hC hr dX11_about_77 ⟨rfl, h⟩
    · have h := gx_t h hc
      refine gw_aload_n hC dX11_about_23 rfl 0 rfl ?_
      refine gw_get hC cl_X11 fg_X11_122 (hw.lt (by decide)) (gd_0 hw _) (gv_X11_3 _ _ _) dX11_about_24 ?_
      refine gw_goto (tgt := 77) hC dX11_about_27 (by decide) ?_
      exact gw_iret hC hr dX11_about_77 ⟨rfl, h⟩
  · have h := gx_f h hc
    refine gw_aload_n hC dX11_about_10 rfl 0 rfl ?_
    refine gw_get hC cl_X11 fg_X11_7 (hw.lt (by decide)) (gd_0 hw _) (gv_X11_0 _ _ _) dX11_about_11 ?_
    refine gw_iload_n hC dX11_about_14 rfl 1 rfl ?_
    obtain ⟨hi, h⟩ := h
    refine gw_iald hC (hw.lt (by decide)) (gd_1 hw _) (gu_0 hw) hi dX11_about_15 ?_
    exact gw_iret hC hr dX11_about_16 ⟨rfl, h⟩
theorem c_X11_about {l : Launch} {d : gx_D} {w : gx_V} {ca : Nat → ClassId} (hw : gx_isR ca w)   {M : gx_M} {v1 : Int32} {Q : Int32 → Prop} (h : T_X11_about M v1 Q) : gx_Mi l d w yX11_about cX11_about 2 .int rm_X11_about [.ref (gx_ad w 0), .int v1] M (fun r M1 => M1 = M ∧ Q r) := fun sz =>
  gx_of (own := RX11) (by decide +kernel) rfl (Nat.le_of_ble_eq_true rfl) (fun z hC hl hR hsz hr => by subst hsz; exact J_X11_about hC hw hR hr  h) rfl
