set_option maxRecDepth 20000 in
theorem J_X11_keepsText {z : gx_X} {d : gx_D} {w : gx_V} {ca : Nat → ClassId} (hC : gx_C z d w cX11_keepsText 3 RX11) (hw : gx_isR ca w) (hR : gx_R z = rm_X11_keepsText) (hr : (gx_me z).sig.returnType = none)   {M : gx_M} {v1 : Int32} {Q : gx_M → Prop} (h : T_X11_keepsText M v1 Q) : GW z w 3 (gx_Qv w Q (gx_s z).heap.size) M 0 [(0, .ref (gx_ad w 0)), (1, .int v1)] [] := by
  unfold T_X11_keepsText at h
  refine gw_aload_n hC dX11_keepsText_0 rfl 0 rfl ?_
  refine gw_get hC cl_X11 fg_X11_27 (hw.lt (by decide)) (gd_0 hw _) (gv_X11_6 _ _ _) dX11_keepsText_1 ?_
  refine gw_iload_n hC dX11_keepsText_4 rfl 1 rfl ?_
  refine gw_aload_n hC dX11_keepsText_5 rfl 0 rfl ?_
  refine gw_get hC cl_X11 fg_X11_246 (hw.lt (by decide)) (gd_0 hw _) (gv_X11_27 _ _ _) dX11_keepsText_6 ?_
  obtain ⟨hi, h⟩ := h
  refine gw_iast hC (hw.lt (by decide)) (gd_4 hw) (gu_0 hw) hi dX11_keepsText_9 ?_
  refine gw_nmM (fun M1 hM1 => ?_)
  have h := h M1 hM1
  refine gw_iconst (v := 0) hC dX11_keepsText_10 (by decide) ?_
  refine gw_istore_n (lv' := [(2, .int 0), (0, .ref (gx_ad w 0)), (1, .int v1)]) hC dX11_keepsText_11 rfl (by decide) rfl ?_
  obtain ⟨k5, h⟩ := h
  refine gw_sub (lv' := [(0, .ref (gx_ad w 0)), (1, .int v1), (2, .int 0)]) [1, 2, 0] rfl ?_
  exact J_X11_keepsText_12 hC hw hR hr (fun M7 v1_6 h => by
      refine gw_iconst (v := 0) hC dX11_keepsText_66 (by decide) ?_
      refine gw_istore_n (lv' := [(2, .int 0), (0, .ref (gx_ad w 0)), (1, .int v1_6)]) hC dX11_keepsText_67 rfl (by decide) rfl ?_
      obtain ⟨k11, h⟩ := h
      refine gw_sub (lv' := [(0, .ref (gx_ad w 0)), (1, .int v1_6), (2, .int 0)]) [1, 2, 0] rfl ?_
      exact J_X11_keepsText_68 hC hw hR hr  k11 M7 v1_6 0 h) k5 M1 v1 0 h
theorem c_X11_keepsText {l : Launch} {d : gx_D} {w : gx_V} {ca : Nat → ClassId} (hw : gx_isR ca w)   {M : gx_M} {v1 : Int32} {Q : gx_M → Prop} (h : T_X11_keepsText M v1 Q) : gx_Mv l d w yX11_keepsText cX11_keepsText 3 rm_X11_keepsText [.ref (gx_ad w 0), .int v1] M Q := fun sz =>
  gx_of (own := RX11) (by decide +kernel) rfl (Nat.le_of_ble_eq_true rfl) (fun z hC hl hR hsz hr => by subst hsz; exact J_X11_keepsText hC hw hR hr  h) rfl
set_option maxRecDepth 20000 in
theorem J_X11_text_96 {z : gx_X} {d : gx_D} {w : gx_V} {ca : Nat → ClassId} (hC : gx_C z d w cX11_text 1 RX11) (hw : gx_isR ca w) (hR : gx_R z = rm_X11_text) (hr : (gx_me z).sig.returnType = (some .int))  {Q : Int32 → gx_M → Prop} {K74 : gx_M → Prop} (hK74 : ∀ (M : gx_M), K74 M → GW z w 1 (gx_Qi w Q (gx_s z).heap.size) M 74 [(0, .ref (gx_ad w 0))] []) (M : gx_M)  (h : T_X11_text_96 Q K74 M) : GW z w 1 (gx_Qi w Q (gx_s z).heap.size) M 96 [(0, .ref (gx_ad w 0))] [] := by
  unfold T_X11_text_96 at h
  refine gw_aload_n hC dX11_text_96 rfl 0 rfl ?_
  refine gw_get hC cl_X11 fg_X11_221 (hw.lt (by decide)) (gd_0 hw _) (gv_X11_26 _ _ _) dX11_text_97 ?_
  by_cases hs14 : (M 0 26) = 0
  · have h := gx_t h hs14
    refine gw_tabIn (tgt := 132) (off := 32) (v := 0) hC dX11_text_100 hs14 (by decide) (by decide) (by decide) (by decide) ?_
    refine gw_aload_n hC dX11_text_132 rfl 0 rfl ?_
    refine gw_callv (gx_rV hC (n := 0) (As := []) (rest := []) (fun sz => c_X11_asks hw  h sz) cv_X11_253_X11_asks (by rw [hR]; exact rr_X11_text_X11_asks) ⟨(hw.lt (by decide)), _, _, _, _, gd_0 hw _, cl_X11.1⟩ rfl rfl (Nat.le_of_ble_eq_true rfl) dX11_text_133) ?_
    intro M13 h
    refine gw_goto (tgt := 74) hC dX11_text_136 (by decide) ?_
    exact hK74 M13 h
  have h := gx_f h hs14
  by_cases hs16 : (M 0 26) = 1
  · have h := gx_t h hs16
    refine gw_tabIn (tgt := 139) (off := 39) (v := 1) hC dX11_text_100 hs16 (by decide) (by decide) (by decide) (by decide) ?_
    refine gw_aload_n hC dX11_text_139 rfl 0 rfl ?_
    refine gw_callv (gx_rV hC (n := 0) (As := []) (rest := []) (fun sz => c_X11_begins hw  h sz) cv_X11_256_X11_begins (by rw [hR]; exact rr_X11_text_X11_begins) ⟨(hw.lt (by decide)), _, _, _, _, gd_0 hw _, cl_X11.1⟩ rfl rfl (Nat.le_of_ble_eq_true rfl) dX11_text_140) ?_
    intro M15 h
    refine gw_goto (tgt := 74) hC dX11_text_143 (by decide) ?_
    exact hK74 M15 h
  have h := gx_f h hs16
  by_cases hs18 : (M 0 26) = 2
  · have h := gx_t h hs18
    refine gw_tabIn (tgt := 146) (off := 46) (v := 2) hC dX11_text_100 hs18 (by decide) (by decide) (by decide) (by decide) ?_
    refine gw_aload_n hC dX11_text_146 rfl 0 rfl ?_
    refine gw_callv (gx_rV hC (n := 0) (As := []) (rest := []) (fun sz => c_X11_goesOn hw  h sz) cv_X11_259_X11_goesOn (by rw [hR]; exact rr_X11_text_X11_goesOn) ⟨(hw.lt (by decide)), _, _, _, _, gd_0 hw _, cl_X11.1⟩ rfl rfl (Nat.le_of_ble_eq_true rfl) dX11_text_147) ?_
    intro M17 h
    refine gw_goto (tgt := 74) hC dX11_text_150 (by decide) ?_
    exact hK74 M17 h
  have h := gx_f h hs18
  by_cases hs20 : (M 0 26) = 3
  · have h := gx_t h hs20
    refine gw_tabIn (tgt := 153) (off := 53) (v := 3) hC dX11_text_100 hs20 (by decide) (by decide) (by decide) (by decide) ?_
    refine gw_aload_n hC dX11_text_153 rfl 0 rfl ?_
    refine gw_callv (gx_rV hC (n := 0) (As := []) (rest := []) (fun sz => c_X11_asksOn hw  h sz) cv_X11_262_X11_asksOn (by rw [hR]; exact rr_X11_text_X11_asksOn) ⟨(hw.lt (by decide)), _, _, _, _, gd_0 hw _, cl_X11.1⟩ rfl rfl (Nat.le_of_ble_eq_true rfl) dX11_text_154) ?_
    intro M19 h
    refine gw_goto (tgt := 74) hC dX11_text_157 (by decide) ?_
    exact hK74 M19 h
  have h := gx_f h hs20
  refine gw_tabOut (tgt := 160) 4 hC dX11_text_100 (by decide) (fun j hj => match j, hj with | 0, _ => fun e => hs14 (e.trans (by decide)) | 1, _ => fun e => hs16 (e.trans (by decide)) | 2, _ => fun e => hs18 (e.trans (by decide)) | 3, _ => fun e => hs20 (e.trans (by decide)) | n + 4, hj => absurd hj (by omega)) (by decide) ?_
  refine gw_aload_n hC dX11_text_160 rfl 0 rfl ?_
  refine gw_callv (gx_rV hC (n := 0) (As := []) (rest := []) (fun sz => c_X11_clause hw  h sz) cv_X11_265_X11_clause (by rw [hR]; exact rr_X11_text_X11_clause) ⟨(hw.lt (by decide)), _, _, _, _, gd_0 hw _, cl_X11.1⟩ rfl rfl (Nat.le_of_ble_eq_true rfl) dX11_text_161) ?_
  intro M21 h
  refine gw_goto (tgt := 74) hC dX11_text_164 (by decide) ?_
  exact hK74 M21 h
set_option maxRecDepth 20000 in
theorem J_X11_text_74 {z : gx_X} {d : gx_D} {w : gx_V} {ca : Nat → ClassId} (hC : gx_C z d w cX11_text 1 RX11) (hw : gx_isR ca w) (hR : gx_R z = rm_X11_text) (hr : (gx_me z).sig.returnType = (some .int))  {Q : Int32 → gx_M → Prop} {K167 : gx_M → Prop} (hK167 : ∀ (M : gx_M), K167 M → GW z w 1 (gx_Qi w Q (gx_s z).heap.size) M 167 [(0, .ref (gx_ad w 0))] []) : ∀ (n : Nat) (M : gx_M) , T_X11_text_74 Q K167 n M → GW z w 1 (gx_Qi w Q (gx_s z).heap.size) M 74 [(0, .ref (gx_ad w 0))] [] := by
  intro n
  induction n with
  | zero =>
    intro M h
    exact h.elim
  | succ n ih =>
    intro M h
    rw [T_X11_text_74] at h
    refine gw_aload_n hC dX11_text_74 rfl 0 rfl ?_
    refine gw_get hC cl_X11 fg_X11_177 (hw.lt (by decide)) (gd_0 hw _) (gv_X11_17 _ _ _) dX11_text_75 ?_
    refine gw_if_ne (tgt := 167) hC dX11_text_78 (by decide) (fun hc => ?_) (fun hc => ?_)
    · have h := gx_f h hc
      exact hK167 M h
    · have h := gx_t h hc
      refine gw_aload_n hC dX11_text_81 rfl 0 rfl ?_
      refine gw_get hC cl_X11 fg_X11_221 (hw.lt (by decide)) (gd_0 hw _) (gv_X11_26 _ _ _) dX11_text_82 ?_
      refine gw_iconst (v := 4) hC dX11_text_85 (by decide) ?_
      refine gw_icmp_ne (tgt := 96) hC dX11_text_86 (by decide) (fun hc => ?_) (fun hc => ?_)
      · have h := gx_f h hc
        exact J_X11_text_96 hC hw hR hr ih M h
      · have h := gx_t h hc
        refine gw_aload_n hC dX11_text_89 rfl 0 rfl ?_
        refine gw_get hC cl_X11 fg_X11_161 (hw.lt (by decide)) (gd_0 hw _) (gv_X11_15 _ _ _) dX11_text_90 ?_
        refine gw_if_eq (tgt := 167) hC dX11_text_93 (by decide) (fun hc => ?_) (fun hc => ?_)
        · have h := gx_t h hc
          exact hK167 M h
        · have h := gx_f h hc
          exact J_X11_text_96 hC hw hR hr ih M h
set_option maxRecDepth 20000 in
theorem J_X11_text_167 {z : gx_X} {d : gx_D} {w : gx_V} {ca : Nat → ClassId} (hC : gx_C z d w cX11_text 1 RX11) (hw : gx_isR ca w) (hR : gx_R z = rm_X11_text) (hr : (gx_me z).sig.returnType = (some .int))  {Q : Int32 → gx_M → Prop}   (M : gx_M)  (h : T_X11_text_167 Q  M) : GW z w 1 (gx_Qi w Q (gx_s z).heap.size) M 167 [(0, .ref (gx_ad w 0))] [] := by
  unfold T_X11_text_167 at h
  refine gw_aload_n hC dX11_text_167 rfl 0 rfl ?_
  refine gw_aload_n hC dX11_text_168 rfl 0 rfl ?_
  refine gw_get hC cl_X11 fg_X11_177 (hw.lt (by decide)) (gd_0 hw _) (gv_X11_17 _ _ _) dX11_text_169 ?_
  refine gw_put hC cl_X11 fp_X11_20 (hw.lt (by decide)) (gd_0 hw _) ((gd_0 hw _).trans (gs_X11_4 _ _ _ _)) rfl rfl (by simp [fs_X11]) dX11_text_172 ?_
  refine gw_nmM (fun M24 hM24 => ?_)
  have h := h M24 hM24
  refine gw_aload_n hC dX11_text_175 rfl 0 rfl ?_
  refine gw_aload_n hC dX11_text_176 rfl 0 rfl ?_
  refine gw_get hC cl_X11 fg_X11_180 (hw.lt (by decide)) (gd_0 hw _) (gv_X11_18 _ _ _) dX11_text_177 ?_
  refine gw_put hC cl_X11 fp_X11_24 (hw.lt (by decide)) (gd_0 hw _) ((gd_0 hw _).trans (gs_X11_5 _ _ _ _)) rfl rfl (by simp [fs_X11]) dX11_text_180 ?_
  refine gw_nmM (fun M25 hM25 => ?_)
  have h := h M25 hM25
  refine gw_aload_n hC dX11_text_183 rfl 0 rfl ?_
  refine gw_get hC cl_X11 fg_X11_177 (hw.lt (by decide)) (gd_0 hw _) (gv_X11_17 _ _ _) dX11_text_184 ?_
  refine gw_if_le (tgt := 192) hC dX11_text_187 (by decide) (fun hc => ?_) (fun hc => ?_)
  · have h := gx_t h hc
    refine gw_aload_n hC dX11_text_192 rfl 0 rfl ?_
    refine gw_aload_n hC dX11_text_193 rfl 0 rfl ?_
    refine gw_get hC cl_X11 fg_X11_7 (hw.lt (by decide)) (gd_0 hw _) (gv_X11_0 _ _ _) dX11_text_194 ?_
    refine gw_iconst (v := 0) hC dX11_text_197 (by decide) ?_
    obtain ⟨hi, h⟩ := h
    refine gw_iald hC (hw.lt (by decide)) (gd_1 hw _) (gu_0 hw) hi dX11_text_198 ?_
    refine gw_callv (gx_rV hC (n := 1) (As := [.int (M25 1 (0 : Int32).toNatClampNeg)]) (rest := []) (fun sz => c_X11_keepsText hw  h sz) cv_X11_268_X11_keepsText (by rw [hR]; exact rr_X11_text_X11_keepsText) ⟨(hw.lt (by decide)), _, _, _, _, gd_0 hw _, cl_X11.1⟩ rfl rfl (Nat.le_of_ble_eq_true rfl) dX11_text_199) ?_
    intro M26 h
    refine gw_aload_n hC dX11_text_202 rfl 0 rfl ?_
    refine gw_get hC cl_X11 fg_X11_7 (hw.lt (by decide)) (gd_0 hw _) (gv_X11_0 _ _ _) dX11_text_203 ?_
    refine gw_iconst (v := 0) hC dX11_text_206 (by decide) ?_
    refine gw_dup2_11 hC dX11_text_207 rfl rfl ?_
    obtain ⟨hi, h⟩ := h
    refine gw_iald hC (hw.lt (by decide)) (gd_1 hw _) (gu_0 hw) hi dX11_text_208 ?_
    refine gw_iconst (v := 1) hC dX11_text_209 (by decide) ?_
    refine gw_iadd hC dX11_text_210 ?_
    obtain ⟨hi, h⟩ := h
    refine gw_iast hC (hw.lt (by decide)) (gd_1 hw) (gu_0 hw) hi dX11_text_211 ?_
    refine gw_nmM (fun M27 hM27 => ?_)
    have h := h M27 hM27
    refine gw_aload_n hC dX11_text_212 rfl 0 rfl ?_
    refine gw_get hC cl_X11 fg_X11_7 (hw.lt (by decide)) (gd_0 hw _) (gv_X11_0 _ _ _) dX11_text_213 ?_
    refine gw_iconst (v := 0) hC dX11_text_216 (by decide) ?_
    obtain ⟨hi, h⟩ := h
    refine gw_iald hC (hw.lt (by decide)) (gd_1 hw _) (gu_0 hw) hi dX11_text_217 ?_
    refine gw_iconst (v := 1) hC dX11_text_218 (by decide) ?_
    refine gw_isub hC dX11_text_219 ?_
    exact gw_iret hC hr dX11_text_220 h
  · have h := gx_f h hc
    refine gw_iconst (v := (-1)) hC dX11_text_190 (by decide) ?_
    exact gw_iret hC hr dX11_text_191 h
set_option maxRecDepth 20000 in
theorem J_X11_text {z : gx_X} {d : gx_D} {w : gx_V} {ca : Nat → ClassId} (hC : gx_C z d w cX11_text 1 RX11) (hw : gx_isR ca w) (hR : gx_R z = rm_X11_text) (hr : (gx_me z).sig.returnType = (some .int))   {M : gx_M}  {Q : Int32 → gx_M → Prop} (h : T_X11_text M  Q) : GW z w 1 (gx_Qi w Q (gx_s z).heap.size) M 0 [(0, .ref (gx_ad w 0))] [] := by
  unfold T_X11_text at h
  refine gw_aload_n hC dX11_text_0 rfl 0 rfl ?_
  refine gw_get hC cl_X11 fg_X11_7 (hw.lt (by decide)) (gd_0 hw _) (gv_X11_0 _ _ _) dX11_text_1 ?_
  refine gw_iconst (v := 0) hC dX11_text_4 (by decide) ?_
  obtain ⟨hi, h⟩ := h
  refine gw_iald hC (hw.lt (by decide)) (gd_1 hw _) (gu_0 hw) hi dX11_text_5 ?_
  refine gw_iconst (v := 4) hC dX11_text_6 (by decide) ?_
  refine gw_icmp_ne (tgt := 12) hC dX11_text_7 (by decide) (fun hc => ?_) (fun hc => ?_)
  · have h := gx_f h hc
    refine gw_aload_n hC dX11_text_12 rfl 0 rfl ?_
    refine gw_aload_n hC dX11_text_13 rfl 0 rfl ?_
    refine gw_get hC cl_X11 fg_X11_122 (hw.lt (by decide)) (gd_0 hw _) (gv_X11_3 _ _ _) dX11_text_14 ?_
    refine gw_put hC cl_X11 fp_X11_155 (hw.lt (by decide)) (gd_0 hw _) ((gd_0 hw _).trans (gs_X11_12 _ _ _ _)) rfl rfl (by simp [fs_X11]) dX11_text_17 ?_
    refine gw_nmM (fun M1 hM1 => ?_)
    have h := h M1 hM1
    refine gw_aload_n hC dX11_text_20 rfl 0 rfl ?_
    refine gw_iconst (v := 0) hC dX11_text_21 (by decide) ?_
    refine gw_put hC cl_X11 fp_X11_122 (hw.lt (by decide)) (gd_0 hw _) ((gd_0 hw _).trans (gs_X11_3 _ _ _ _)) rfl rfl (by simp [fs_X11]) dX11_text_22 ?_
    refine gw_nmM (fun M2 hM2 => ?_)
    have h := h M2 hM2
    refine gw_aload_n hC dX11_text_25 rfl 0 rfl ?_
    refine gw_iconst (v := 0) hC dX11_text_26 (by decide) ?_
    refine gw_put hC cl_X11 fp_X11_152 (hw.lt (by decide)) (gd_0 hw _) ((gd_0 hw _).trans (gs_X11_13 _ _ _ _)) rfl rfl (by simp [fs_X11]) dX11_text_27 ?_
    refine gw_nmM (fun M3 hM3 => ?_)
    have h := h M3 hM3
    refine gw_aload_n hC dX11_text_30 rfl 0 rfl ?_
    refine gw_iconst (v := 0) hC dX11_text_31 (by decide) ?_
    refine gw_put hC cl_X11 fp_X11_177 (hw.lt (by decide)) (gd_0 hw _) ((gd_0 hw _).trans (gs_X11_17 _ _ _ _)) rfl rfl (by simp [fs_X11]) dX11_text_32 ?_
    refine gw_nmM (fun M4 hM4 => ?_)
    have h := h M4 hM4
    refine gw_aload_n hC dX11_text_35 rfl 0 rfl ?_
    refine gw_iconst (v := (-1)) hC dX11_text_36 (by decide) ?_
    refine gw_put hC cl_X11 fp_X11_180 (hw.lt (by decide)) (gd_0 hw _) ((gd_0 hw _).trans (gs_X11_18 _ _ _ _)) rfl rfl (by simp [fs_X11]) dX11_text_37 ?_
    refine gw_nmM (fun M5 hM5 => ?_)
    have h := h M5 hM5
    refine gw_aload_n hC dX11_text_40 rfl 0 rfl ?_
    refine gw_iconst (v := 0) hC dX11_text_41 (by decide) ?_
    refine gw_put hC cl_X11 fp_X11_189 (hw.lt (by decide)) (gd_0 hw _) ((gd_0 hw _).trans (gs_X11_19 _ _ _ _)) rfl rfl (by simp [fs_X11]) dX11_text_42 ?_
    refine gw_nmM (fun M6 hM6 => ?_)
    have h := h M6 hM6
    refine gw_aload_n hC dX11_text_45 rfl 0 rfl ?_
    refine gw_iconst (v := 0) hC dX11_text_46 (by decide) ?_
    refine gw_put hC cl_X11 fp_X11_186 (hw.lt (by decide)) (gd_0 hw _) ((gd_0 hw _).trans (gs_X11_20 _ _ _ _)) rfl rfl (by simp [fs_X11]) dX11_text_47 ?_
    refine gw_nmM (fun M7 hM7 => ?_)
    have h := h M7 hM7
    refine gw_aload_n hC dX11_text_50 rfl 0 rfl ?_
    refine gw_iconst (v := 0) hC dX11_text_51 (by decide) ?_
    refine gw_put hC cl_X11 fp_X11_201 (hw.lt (by decide)) (gd_0 hw _) ((gd_0 hw _).trans (gs_X11_23 _ _ _ _)) rfl rfl (by simp [fs_X11]) dX11_text_52 ?_
    refine gw_nmM (fun M8 hM8 => ?_)
    have h := h M8 hM8
    refine gw_aload_n hC dX11_text_55 rfl 0 rfl ?_
    refine gw_iconst (v := 4) hC dX11_text_56 (by decide) ?_
    refine gw_put hC cl_X11 fp_X11_221 (hw.lt (by decide)) (gd_0 hw _) ((gd_0 hw _).trans (gs_X11_26 _ _ _ _)) rfl rfl (by simp [fs_X11]) dX11_text_57 ?_
    refine gw_nmM (fun M9 hM9 => ?_)
    have h := h M9 hM9
    refine gw_aload_n hC dX11_text_60 rfl 0 rfl ?_
    refine gw_iconst (v := 0) hC dX11_text_61 (by decide) ?_
    refine gw_put hC cl_X11 fp_X11_246 (hw.lt (by decide)) (gd_0 hw _) ((gd_0 hw _).trans (gs_X11_27 _ _ _ _)) rfl rfl (by simp [fs_X11]) dX11_text_62 ?_
    refine gw_nmM (fun M10 hM10 => ?_)
    have h := h M10 hM10
    refine gw_aload_n hC dX11_text_65 rfl 0 rfl ?_
    refine gw_iconst (v := 0) hC dX11_text_66 (by decide) ?_
    refine gw_put hC cl_X11 fp_X11_183 (hw.lt (by decide)) (gd_0 hw _) ((gd_0 hw _).trans (gs_X11_30 _ _ _ _)) rfl rfl (by simp [fs_X11]) dX11_text_67 ?_
    refine gw_nmM (fun M11 hM11 => ?_)
    have h := h M11 hM11
    refine gw_aload_n hC dX11_text_70 rfl 0 rfl ?_
    refine gw_callv (gx_rV hC (n := 0) (As := []) (rest := []) (fun sz => c_X11_next hw  h sz) cv_X11_198_X11_next (by rw [hR]; exact rr_X11_text_X11_next) ⟨(hw.lt (by decide)), _, _, _, _, gd_0 hw _, cl_X11.1⟩ rfl rfl (Nat.le_of_ble_eq_true rfl) dX11_text_71) ?_
    intro M12 h
    obtain ⟨k22, h⟩ := h
    exact J_X11_text_74 hC hw hR hr (fun M23 h => by
        exact J_X11_text_167 hC hw hR hr  M23 h) k22 M12 h
  · have h := gx_t h hc
    refine gw_iconst (v := (-1)) hC dX11_text_10 (by decide) ?_
    exact gw_iret hC hr dX11_text_11 h
theorem c_X11_text {l : Launch} {d : gx_D} {w : gx_V} {ca : Nat → ClassId} (hw : gx_isR ca w)   {M : gx_M}  {Q : Int32 → gx_M → Prop} (h : T_X11_text M  Q) : gx_Mi l d w yX11_text cX11_text 1 .int rm_X11_text [.ref (gx_ad w 0)] M Q := fun sz =>
  gx_of (own := RX11) (by decide +kernel) rfl (Nat.le_of_ble_eq_true rfl) (fun z hC hl hR hsz hr => by subst hsz; exact J_X11_text hC hw hR hr  h) rfl
set_option maxRecDepth 20000 in
theorem J_X11_fault {z : gx_X} {d : gx_D} {w : gx_V} {ca : Nat → ClassId} (hC : gx_C z d w cX11_fault 2 RX11) (hw : gx_isR ca w) (hR : gx_R z = rm_X11_fault) (hr : (gx_me z).sig.returnType = (some .int))   {M : gx_M} {v1 : Int32} {Q : Int32 → Prop} (h : T_X11_fault M v1 Q) : GW z w 2 (gx_Qi w (fun r M1 => M1 = M ∧ Q r) (gx_s z).heap.size) M 0 [(0, .ref (gx_ad w 0)), (1, .int v1)] [] := by
  unfold T_X11_fault at h
  refine gw_iload_n hC dX11_fault_0 rfl 1 rfl ?_
  refine gw_if_ne (tgt := 11) hC dX11_fault_1 (by decide) (fun hc => ?_) (fun hc => ?_)
  · have h := gx_f h hc
    refine gw_iload_n hC dX11_fault_11 rfl 1 rfl ?_
    refine gw_iconst (v := 1) hC dX11_fault_12 (by decide) ?_
    refine gw_icmp_ne (tgt := 23) hC dX11_fault_13 (by decide) (fun hc => ?_) (fun hc => ?_)
    · have h := gx_f h hc
      refine gw_iconst (v := (-1)) hC dX11_fault_23 (by decide) ?_
      exact gw_iret hC hr dX11_fault_24 ⟨rfl, h⟩
    · have h := gx_t h hc
      refine gw_aload_n hC dX11_fault_16 rfl 0 rfl ?_
      refine gw_get hC cl_X11 fg_X11_24 (hw.lt (by decide)) (gd_0 hw _) (gv_X11_5 _ _ _) dX11_fault_17 ?_
      refine gw_goto (tgt := 24) hC dX11_fault_20 (by decide) ?_
      exact gw_iret hC hr dX11_fault_24 ⟨rfl, h⟩
  · have h := gx_t h hc
    refine gw_aload_n hC dX11_fault_4 rfl 0 rfl ?_
    refine gw_get hC cl_X11 fg_X11_20 (hw.lt (by decide)) (gd_0 hw _) (gv_X11_4 _ _ _) dX11_fault_5 ?_
    refine gw_goto (tgt := 24) hC dX11_fault_8 (by decide) ?_
    exact gw_iret hC hr dX11_fault_24 ⟨rfl, h⟩
theorem c_X11_fault {l : Launch} {d : gx_D} {w : gx_V} {ca : Nat → ClassId} (hw : gx_isR ca w)   {M : gx_M} {v1 : Int32} {Q : Int32 → Prop} (h : T_X11_fault M v1 Q) : gx_Mi l d w yX11_fault cX11_fault 2 .int rm_X11_fault [.ref (gx_ad w 0), .int v1] M (fun r M1 => M1 = M ∧ Q r) := fun sz =>
  gx_of (own := RX11) (by decide +kernel) rfl (Nat.le_of_ble_eq_true rfl) (fun z hC hl hR hsz hr => by subst hsz; exact J_X11_fault hC hw hR hr  h) rfl
set_option maxRecDepth 20000 in
theorem J_X11_bound {z : gx_X} {d : gx_D} {w : gx_V} {ca : Nat → ClassId} (hC : gx_C z d w cX11_bound 2 RX11) (hw : gx_isR ca w) (hR : gx_R z = rm_X11_bound) (hr : (gx_me z).sig.returnType = (some .long))   {M : gx_M} {x0 : Int64} {Q : Int64 → Prop} (h : T_X11_bound M x0 Q) : GW z w 2 (gx_Ql w (fun r M1 => M1 = M ∧ Q r) (gx_s z).heap.size) M 0 [(0, .long x0)] [] := by
  unfold T_X11_bound at h
  refine gw_lload_n hC dX11_bound_0 rfl 0 rfl ?_
  refine gw_ldc2 hC kl_X11_271 dX11_bound_1 ?_
  refine gw_lcmp hC dX11_bound_4 ?_
  refine gw_if_le (tgt := 14) hC dX11_bound_5 (by decide) (fun hc => ?_) (fun hc => ?_)
  · have h := gx_t h ((lg_cmp_le _ _).mp hc)
    refine gw_lload_n hC dX11_bound_14 rfl 0 rfl ?_
    refine gw_ldc2 hC kl_X11_273 dX11_bound_15 ?_
    refine gw_lcmp hC dX11_bound_18 ?_
    refine gw_if_ge (tgt := 28) hC dX11_bound_19 (by decide) (fun hc => ?_) (fun hc => ?_)
    · have h := gx_t h ((lg_cmp_ge _ _).mp hc)
      refine gw_lload_n hC dX11_bound_28 rfl 0 rfl ?_
      exact gw_lret hC hr dX11_bound_29 ⟨rfl, h⟩
    · have h := gx_f h (fun q => hc ((lg_cmp_ge _ _).mpr q))
      refine gw_ldc2 hC kl_X11_273 dX11_bound_22 ?_
      refine gw_goto (tgt := 29) hC dX11_bound_25 (by decide) ?_
      exact gw_lret hC hr dX11_bound_29 ⟨rfl, h⟩
  · have h := gx_f h (fun q => hc ((lg_cmp_le _ _).mpr q))
    refine gw_ldc2 hC kl_X11_271 dX11_bound_8 ?_
    refine gw_goto (tgt := 29) hC dX11_bound_11 (by decide) ?_
    exact gw_lret hC hr dX11_bound_29 ⟨rfl, h⟩
theorem c_X11_bound {l : Launch} {d : gx_D} {w : gx_V} {ca : Nat → ClassId} (hw : gx_isR ca w)   {M : gx_M} {x0 : Int64} {Q : Int64 → Prop} (h : T_X11_bound M x0 Q) : gx_Ml l d w yX11_bound cX11_bound 2 .long rm_X11_bound [.long x0] M (fun r M1 => M1 = M ∧ Q r) := fun sz =>
  gx_of (own := RX11) (by decide +kernel) rfl (Nat.le_of_ble_eq_true rfl) (fun z hC hl hR hsz hr => by subst hsz; exact J_X11_bound hC hw hR hr  h) rfl
set_option maxRecDepth 20000 in
theorem J_X11_worked {z : gx_X} {d : gx_D} {w : gx_V} {ca : Nat → ClassId} (hC : gx_C z d w cX11_worked 5 RX11) (hw : gx_isR ca w) (hR : gx_R z = rm_X11_worked) (hr : (gx_me z).sig.returnType = (some .long))   {M : gx_M} {v0 : Int32} {x1 : Int64} {x3 : Int64} {Q : Int64 → Prop} (h : T_X11_worked M v0 x1 x3 Q) : GW z w 5 (gx_Ql w (fun r M1 => M1 = M ∧ Q r) (gx_s z).heap.size) M 0 [(0, .int v0), (1, .long x1), (3, .long x3)] [] := by
  unfold T_X11_worked at h
  refine gw_iload_n hC dX11_worked_0 rfl 0 rfl ?_
  by_cases hs1 : v0 = 35
  · have h := gx_t h hs1
    refine gw_lookIn (tgt := 171) (off := 170) (v := 35) hC dX11_worked_1 hs1 (by decide) (by decide) (by decide) ?_
    refine gw_lload_n hC dX11_worked_171 rfl 1 rfl ?_
    refine gw_lload_n hC dX11_worked_172 rfl 2 rfl ?_
    refine gw_lcmp hC dX11_worked_173 ?_
    refine gw_if_eq (tgt := 181) hC dX11_worked_174 (by decide) (fun hc => ?_) (fun hc => ?_)
    · have h := gx_t h ((lg_cmp_eq _ _).mp hc)
      refine gw_lconst (v := 0) hC dX11_worked_181 (by decide) ?_
      exact gw_lret hC hr dX11_worked_182 ⟨rfl, h⟩
    · have h := gx_f h (fun q => hc ((lg_cmp_eq _ _).mpr q))
      refine gw_lconst (v := 1) hC dX11_worked_177 (by decide) ?_
      refine gw_goto (tgt := 182) hC dX11_worked_178 (by decide) ?_
      exact gw_lret hC hr dX11_worked_182 ⟨rfl, h⟩
  have h := gx_f h hs1
  by_cases hs4 : v0 = 42
  · have h := gx_t h hs4
    refine gw_lookIn (tgt := 114) (off := 113) (v := 42) hC dX11_worked_1 hs4 (by decide) (by decide) (by decide) ?_
    refine gw_lload_n hC dX11_worked_114 rfl 1 rfl ?_
    refine gw_lload_n hC dX11_worked_115 rfl 2 rfl ?_
    refine gw_lmul hC dX11_worked_116 ?_
    refine gw_calll (gx_rS hC (n := 1) (As := [.long (x1 * x3)]) (rest := []) (fun sz => c_X11_bound hw  h sz) cs_X11_275_X11_bound (by rw [hR]; exact rr_X11_worked_X11_bound) rfl rfl (Nat.le_of_ble_eq_true rfl) dX11_worked_117) ?_
    intro r2 m3 ⟨hm3, h⟩
    rw [hm3]
    exact gw_lret hC hr dX11_worked_120 ⟨rfl, h⟩
  have h := gx_f h hs4
  by_cases hs7 : v0 = 43
  · have h := gx_t h hs7
    refine gw_lookIn (tgt := 100) (off := 99) (v := 43) hC dX11_worked_1 hs7 (by decide) (by decide) (by decide) ?_
    refine gw_lload_n hC dX11_worked_100 rfl 1 rfl ?_
    refine gw_lload_n hC dX11_worked_101 rfl 2 rfl ?_
    refine gw_ladd hC dX11_worked_102 ?_
    refine gw_calll (gx_rS hC (n := 1) (As := [.long (x1 + x3)]) (rest := []) (fun sz => c_X11_bound hw  h sz) cs_X11_275_X11_bound (by rw [hR]; exact rr_X11_worked_X11_bound) rfl rfl (Nat.le_of_ble_eq_true rfl) dX11_worked_103) ?_
    intro r5 m6 ⟨hm6, h⟩
    rw [hm6]
    exact gw_lret hC hr dX11_worked_106 ⟨rfl, h⟩
  have h := gx_f h hs7
  by_cases hs10 : v0 = 45
  · have h := gx_t h hs10
    refine gw_lookIn (tgt := 107) (off := 106) (v := 45) hC dX11_worked_1 hs10 (by decide) (by decide) (by decide) ?_
    refine gw_lload_n hC dX11_worked_107 rfl 1 rfl ?_
    refine gw_lload_n hC dX11_worked_108 rfl 2 rfl ?_
    refine gw_lsub hC dX11_worked_109 ?_
    refine gw_calll (gx_rS hC (n := 1) (As := [.long (x1 - x3)]) (rest := []) (fun sz => c_X11_bound hw  h sz) cs_X11_275_X11_bound (by rw [hR]; exact rr_X11_worked_X11_bound) rfl rfl (Nat.le_of_ble_eq_true rfl) dX11_worked_110) ?_
    intro r8 m9 ⟨hm9, h⟩
    rw [hm9]
    exact gw_lret hC hr dX11_worked_113 ⟨rfl, h⟩
  have h := gx_f h hs10
  by_cases hs11 : v0 = 47
  · have h := gx_t h hs11
    refine gw_lookIn (tgt := 121) (off := 120) (v := 47) hC dX11_worked_1 hs11 (by decide) (by decide) (by decide) ?_
    refine gw_lload_n hC dX11_worked_121 rfl 2 rfl ?_
    refine gw_lconst (v := 0) hC dX11_worked_122 (by decide) ?_
    refine gw_lcmp hC dX11_worked_123 ?_
    refine gw_if_ne (tgt := 131) hC dX11_worked_124 (by decide) (fun hc => ?_) (fun hc => ?_)
    · have h := gx_f h (fun q => hc ((lg_cmp_eq _ _).mpr q))
      refine gw_lload_n hC dX11_worked_131 rfl 1 rfl ?_
      refine gw_lload_n hC dX11_worked_132 rfl 2 rfl ?_
      obtain ⟨hz, h⟩ := h
      refine gw_ldiv hC dX11_worked_133 hz ?_
      exact gw_lret hC hr dX11_worked_134 ⟨rfl, h⟩
    · have h := gx_t h ((lg_cmp_eq _ _).mp hc)
      refine gw_lconst (v := 0) hC dX11_worked_127 (by decide) ?_
      refine gw_goto (tgt := 134) hC dX11_worked_128 (by decide) ?_
      exact gw_lret hC hr dX11_worked_134 ⟨rfl, h⟩
  have h := gx_f h hs11
  by_cases hs12 : v0 = 60
  · have h := gx_t h hs12
    refine gw_lookIn (tgt := 135) (off := 134) (v := 60) hC dX11_worked_1 hs12 (by decide) (by decide) (by decide) ?_
    refine gw_lload_n hC dX11_worked_135 rfl 1 rfl ?_
    refine gw_lload_n hC dX11_worked_136 rfl 2 rfl ?_
    refine gw_lcmp hC dX11_worked_137 ?_
    refine gw_if_ge (tgt := 145) hC dX11_worked_138 (by decide) (fun hc => ?_) (fun hc => ?_)
    · have h := gx_t h ((lg_cmp_ge _ _).mp hc)
      refine gw_lconst (v := 0) hC dX11_worked_145 (by decide) ?_
      exact gw_lret hC hr dX11_worked_146 ⟨rfl, h⟩
    · have h := gx_f h (fun q => hc ((lg_cmp_ge _ _).mpr q))
      refine gw_lconst (v := 1) hC dX11_worked_141 (by decide) ?_
      refine gw_goto (tgt := 146) hC dX11_worked_142 (by decide) ?_
      exact gw_lret hC hr dX11_worked_146 ⟨rfl, h⟩
  have h := gx_f h hs12
  by_cases hs13 : v0 = 61
  · have h := gx_t h hs13
    refine gw_lookIn (tgt := 159) (off := 158) (v := 61) hC dX11_worked_1 hs13 (by decide) (by decide) (by decide) ?_
    refine gw_lload_n hC dX11_worked_159 rfl 1 rfl ?_
    refine gw_lload_n hC dX11_worked_160 rfl 2 rfl ?_
    refine gw_lcmp hC dX11_worked_161 ?_
    refine gw_if_ne (tgt := 169) hC dX11_worked_162 (by decide) (fun hc => ?_) (fun hc => ?_)
    · have h := gx_f h (fun q => hc ((lg_cmp_eq _ _).mpr q))
      refine gw_lconst (v := 0) hC dX11_worked_169 (by decide) ?_
      exact gw_lret hC hr dX11_worked_170 ⟨rfl, h⟩
    · have h := gx_t h ((lg_cmp_eq _ _).mp hc)
      refine gw_lconst (v := 1) hC dX11_worked_165 (by decide) ?_
      refine gw_goto (tgt := 170) hC dX11_worked_166 (by decide) ?_
      exact gw_lret hC hr dX11_worked_170 ⟨rfl, h⟩
  have h := gx_f h hs13
  by_cases hs14 : v0 = 62
  · have h := gx_t h hs14
    refine gw_lookIn (tgt := 147) (off := 146) (v := 62) hC dX11_worked_1 hs14 (by decide) (by decide) (by decide) ?_
    refine gw_lload_n hC dX11_worked_147 rfl 1 rfl ?_
    refine gw_lload_n hC dX11_worked_148 rfl 2 rfl ?_
    refine gw_lcmp hC dX11_worked_149 ?_
    refine gw_if_le (tgt := 157) hC dX11_worked_150 (by decide) (fun hc => ?_) (fun hc => ?_)
    · have h := gx_t h ((lg_cmp_le _ _).mp hc)
      refine gw_lconst (v := 0) hC dX11_worked_157 (by decide) ?_
      exact gw_lret hC hr dX11_worked_158 ⟨rfl, h⟩
    · have h := gx_f h (fun q => hc ((lg_cmp_le _ _).mpr q))
      refine gw_lconst (v := 1) hC dX11_worked_153 (by decide) ?_
      refine gw_goto (tgt := 158) hC dX11_worked_154 (by decide) ?_
      exact gw_lret hC hr dX11_worked_158 ⟨rfl, h⟩
  have h := gx_f h hs14
  by_cases hs15 : v0 = 300
  · have h := gx_t h hs15
    refine gw_lookIn (tgt := 183) (off := 182) (v := 300) hC dX11_worked_1 hs15 (by decide) (by decide) (by decide) ?_
    refine gw_lload_n hC dX11_worked_183 rfl 1 rfl ?_
    refine gw_lload_n hC dX11_worked_184 rfl 2 rfl ?_
    refine gw_lcmp hC dX11_worked_185 ?_
    refine gw_if_gt (tgt := 193) hC dX11_worked_186 (by decide) (fun hc => ?_) (fun hc => ?_)
    · have h := gx_t h ((lg_cmp_gt _ _).mp hc)
      refine gw_lconst (v := 0) hC dX11_worked_193 (by decide) ?_
      exact gw_lret hC hr dX11_worked_194 ⟨rfl, h⟩
    · have h := gx_f h (fun q => hc ((lg_cmp_gt _ _).mpr q))
      refine gw_lconst (v := 1) hC dX11_worked_189 (by decide) ?_
      refine gw_goto (tgt := 194) hC dX11_worked_190 (by decide) ?_
      exact gw_lret hC hr dX11_worked_194 ⟨rfl, h⟩
  have h := gx_f h hs15
  by_cases hs16 : v0 = 301
  · have h := gx_t h hs16
    refine gw_lookIn (tgt := 195) (off := 194) (v := 301) hC dX11_worked_1 hs16 (by decide) (by decide) (by decide) ?_
    refine gw_lload_n hC dX11_worked_195 rfl 1 rfl ?_
    refine gw_lload_n hC dX11_worked_196 rfl 2 rfl ?_
    refine gw_lcmp hC dX11_worked_197 ?_
    refine gw_if_lt (tgt := 205) hC dX11_worked_198 (by decide) (fun hc => ?_) (fun hc => ?_)
    · have h := gx_t h ((lg_cmp_lt _ _).mp hc)
      refine gw_lconst (v := 0) hC dX11_worked_205 (by decide) ?_
      exact gw_lret hC hr dX11_worked_206 ⟨rfl, h⟩
    · have h := gx_f h (fun q => hc ((lg_cmp_lt _ _).mpr q))
      refine gw_lconst (v := 1) hC dX11_worked_201 (by decide) ?_
      refine gw_goto (tgt := 206) hC dX11_worked_202 (by decide) ?_
      exact gw_lret hC hr dX11_worked_206 ⟨rfl, h⟩
  have h := gx_f h hs16
  by_cases hs17 : v0 = 406
  · have h := gx_t h hs17
    refine gw_lookIn (tgt := 207) (off := 206) (v := 406) hC dX11_worked_1 hs17 (by decide) (by decide) (by decide) ?_
    refine gw_lload_n hC dX11_worked_207 rfl 1 rfl ?_
    refine gw_lload_n hC dX11_worked_208 rfl 2 rfl ?_
    refine gw_lmul hC dX11_worked_209 ?_
    exact gw_lret hC hr dX11_worked_210 ⟨rfl, h⟩
  have h := gx_f h hs17
  refine gw_lookOut (tgt := 211) hC dX11_worked_1 (by decide) (List.forall_mem_cons.mpr ⟨fun e => hs1 (e.trans (by decide)), List.forall_mem_cons.mpr ⟨fun e => hs4 (e.trans (by decide)), List.forall_mem_cons.mpr ⟨fun e => hs7 (e.trans (by decide)), List.forall_mem_cons.mpr ⟨fun e => hs10 (e.trans (by decide)), List.forall_mem_cons.mpr ⟨fun e => hs11 (e.trans (by decide)), List.forall_mem_cons.mpr ⟨fun e => hs12 (e.trans (by decide)), List.forall_mem_cons.mpr ⟨fun e => hs13 (e.trans (by decide)), List.forall_mem_cons.mpr ⟨fun e => hs14 (e.trans (by decide)), List.forall_mem_cons.mpr ⟨fun e => hs15 (e.trans (by decide)), List.forall_mem_cons.mpr ⟨fun e => hs16 (e.trans (by decide)), List.forall_mem_cons.mpr ⟨fun e => hs17 (e.trans (by decide)), fun _ h => absurd h List.not_mem_nil⟩⟩⟩⟩⟩⟩⟩⟩⟩⟩⟩) (by decide) ?_
  refine gw_lload_n hC dX11_worked_211 rfl 1 rfl ?_
  refine gw_lload_n hC dX11_worked_212 rfl 2 rfl ?_
  refine gw_ladd hC dX11_worked_213 ?_
  refine gw_lconst (v := 0) hC dX11_worked_214 (by decide) ?_
  refine gw_lcmp hC dX11_worked_215 ?_
  refine gw_if_le (tgt := 223) hC dX11_worked_216 (by decide) (fun hc => ?_) (fun hc => ?_)
  · have h := gx_t h ((lg_cmp_le _ _).mp hc)
    refine gw_lconst (v := 0) hC dX11_worked_223 (by decide) ?_
    exact gw_lret hC hr dX11_worked_224 ⟨rfl, h⟩
  · have h := gx_f h (fun q => hc ((lg_cmp_le _ _).mpr q))
    refine gw_lconst (v := 1) hC dX11_worked_219 (by decide) ?_
    refine gw_goto (tgt := 224) hC dX11_worked_220 (by decide) ?_
    exact gw_lret hC hr dX11_worked_224 ⟨rfl, h⟩
theorem c_X11_worked {l : Launch} {d : gx_D} {w : gx_V} {ca : Nat → ClassId} (hw : gx_isR ca w)   {M : gx_M} {v0 : Int32} {x1 : Int64} {x3 : Int64} {Q : Int64 → Prop} (h : T_X11_worked M v0 x1 x3 Q) : gx_Ml l d w yX11_worked cX11_worked 5 .long rm_X11_worked [.int v0, .long x1, .long x3] M (fun r M1 => M1 = M ∧ Q r) := fun sz =>
  gx_of (own := RX11) (by decide +kernel) rfl (Nat.le_of_ble_eq_true rfl) (fun z hC hl hR hsz hr => by subst hsz; exact J_X11_worked hC hw hR hr  h) rfl
set_option maxRecDepth 20000 in
theorem J_X11_tells_169 {z : gx_X} {d : gx_D} {w : gx_V} {ca : Nat → ClassId} (hC : gx_C z d w cX11_tells 5 RX11) (hw : gx_isR ca w) (hR : gx_R z = rm_X11_tells) (hr : (gx_me z).sig.returnType = (some .long))  {Q : Int64 → gx_M → Prop} {K4 : gx_M → Int32 → Int32 → Prop} (hK4 : ∀ (M : gx_M) (v2 : Int32) (v3 : Int32), K4 M v2 v3 → GW z w 5 (gx_Ql w Q (gx_s z).heap.size) M 4 [(0, .ref (gx_ad w 0)), (2, .int v2), (3, .int v3)] []) (M : gx_M) (v2 : Int32) (v3 : Int32)  (h : T_X11_tells_169 Q K4 M v2 v3) : GW z w 5 (gx_Ql w Q (gx_s z).heap.size) M 169 [(0, .ref (gx_ad w 0)), (2, .int v2), (3, .int v3)] [] := by
  unfold T_X11_tells_169 at h
  obtain ⟨x4, hx4⟩ : ∃ y : Int32, y = v3 + 1 := ⟨_, rfl⟩
  have h := h x4 hx4
  refine gw_iinc (v := x4) (lv' := [(3, .int x4), (0, .ref (gx_ad w 0)), (2, .int v2)]) hC dX11_tells_169 (k := 2) rfl (by rw [hx4]; rfl) (by decide) rfl ?_
  refine gw_goto (tgt := 4) hC dX11_tells_172 (by decide) ?_
  refine gw_sub (lv' := [(0, .ref (gx_ad w 0)), (2, .int v2), (3, .int x4)]) [1, 2, 0] rfl ?_
  exact hK4 M v2 x4 h
set_option maxRecDepth 20000 in
theorem J_X11_tells_75 {z : gx_X} {d : gx_D} {w : gx_V} {ca : Nat → ClassId} (hC : gx_C z d w cX11_tells 5 RX11) (hw : gx_isR ca w) (hR : gx_R z = rm_X11_tells) (hr : (gx_me z).sig.returnType = (some .long))  {Q : Int64 → gx_M → Prop} {K4 : gx_M → Int32 → Int32 → Prop} (hK4 : ∀ (M : gx_M) (v2 : Int32) (v3 : Int32), K4 M v2 v3 → GW z w 5 (gx_Ql w Q (gx_s z).heap.size) M 4 [(0, .ref (gx_ad w 0)), (2, .int v2), (3, .int v3)] []) (M : gx_M) (u0 : Int64) (t1 : Int32) (v2 : Int32) (v3 : Int32)  (h : T_X11_tells_75 Q K4 M u0 t1 v2 v3) : GW z w 5 (gx_Ql w Q (gx_s z).heap.size) M 75 [(0, .ref (gx_ad w 0)), (2, .int v2), (3, .int v3)] [.long u0, .int t1, .ref (gx_ad w 19)] := by
  unfold T_X11_tells_75 at h
  obtain ⟨hi, h⟩ := h
  refine gw_last hC (hw.lt (by decide)) (gd_19 hw) (gu_8 hw) hi dX11_tells_75 ?_
  refine gw_nmM (fun M2 hM2 => ?_)
  have h := h M2 hM2
  obtain ⟨x3, hx3⟩ : ∃ y : Int32, y = v2 + 1 := ⟨_, rfl⟩
  have h := h x3 hx3
  refine gw_iinc (v := x3) (lv' := [(2, .int x3), (0, .ref (gx_ad w 0)), (3, .int v3)]) hC dX11_tells_76 (k := 1) rfl (by rw [hx3]; rfl) (by decide) rfl ?_
  refine gw_goto (tgt := 169) hC dX11_tells_79 (by decide) ?_
  refine gw_sub (lv' := [(0, .ref (gx_ad w 0)), (2, .int x3), (3, .int v3)]) [1, 0, 2] rfl ?_
  exact J_X11_tells_169 hC hw hR hr hK4 M2 x3 v3 h
set_option maxRecDepth 20000 in
theorem J_X11_tells_40 {z : gx_X} {d : gx_D} {w : gx_V} {ca : Nat → ClassId} (hC : gx_C z d w cX11_tells 5 RX11) (hw : gx_isR ca w) (hR : gx_R z = rm_X11_tells) (hr : (gx_me z).sig.returnType = (some .long))  {Q : Int64 → gx_M → Prop} {K4 : gx_M → Int32 → Int32 → Prop} (hK4 : ∀ (M : gx_M) (v2 : Int32) (v3 : Int32), K4 M v2 v3 → GW z w 5 (gx_Ql w Q (gx_s z).heap.size) M 4 [(0, .ref (gx_ad w 0)), (2, .int v2), (3, .int v3)] []) (M : gx_M) (v2 : Int32) (v3 : Int32) (v4 : Int32)  (h : T_X11_tells_40 Q K4 M v2 v3 v4) : GW z w 5 (gx_Ql w Q (gx_s z).heap.size) M 40 [(0, .ref (gx_ad w 0)), (2, .int v2), (3, .int v3), (4, .int v4)] [] := by
  unfold T_X11_tells_40 at h
  refine gw_aload_n hC dX11_tells_40 rfl 0 rfl ?_
  refine gw_get hC cl_X11 fg_X11_72 (hw.lt (by decide)) (gd_0 hw _) (gv_X11_34 _ _ _) dX11_tells_41 ?_
  refine gw_iload_n hC dX11_tells_44 rfl 1 rfl ?_
  refine gw_iload hC dX11_tells_45 3 rfl ?_
  refine gw_sipush (v := 400) hC dX11_tells_47 (by decide) ?_
  refine gw_icmp_ne (tgt := 63) hC dX11_tells_50 (by decide) (fun hc => ?_) (fun hc => ?_)
  · have h := gx_f h hc
    refine gw_aload_n hC dX11_tells_63 rfl 0 rfl ?_
    refine gw_get hC cl_X11 fg_X11_69 (hw.lt (by decide)) (gd_0 hw _) (gv_X11_33 _ _ _) dX11_tells_64 ?_
    refine gw_aload_n hC dX11_tells_67 rfl 0 rfl ?_
    refine gw_get hC cl_X11 fg_X11_39 (hw.lt (by decide)) (gd_0 hw _) (gv_X11_10 _ _ _) dX11_tells_68 ?_
    refine gw_iload_n hC dX11_tells_71 rfl 2 rfl ?_
    obtain ⟨hi, h⟩ := h
    refine gw_iald hC (hw.lt (by decide)) (gd_8 hw _) (gu_0 hw) hi dX11_tells_72 ?_
    obtain ⟨hi, h⟩ := h
    refine gw_iald hC (hw.lt (by decide)) (gd_18 hw _) (gu_0 hw) hi dX11_tells_73 ?_
    refine gw_i2l hC dX11_tells_74 rfl ?_
    refine gw_sub (lv' := [(0, .ref (gx_ad w 0)), (2, .int v2), (3, .int v3)]) [0, 1, 2] rfl ?_
    exact J_X11_tells_75 hC hw hR hr hK4 M ((M 18 (M 8 v3.toNatClampNeg).toNatClampNeg).toInt64) v2 v2 v3 h
  · have h := gx_t h hc
    refine gw_aload_n hC dX11_tells_53 rfl 0 rfl ?_
    refine gw_get hC cl_X11 fg_X11_39 (hw.lt (by decide)) (gd_0 hw _) (gv_X11_10 _ _ _) dX11_tells_54 ?_
    refine gw_iload_n hC dX11_tells_57 rfl 2 rfl ?_
    obtain ⟨hi, h⟩ := h
    refine gw_iald hC (hw.lt (by decide)) (gd_8 hw _) (gu_0 hw) hi dX11_tells_58 ?_
    refine gw_i2l hC dX11_tells_59 rfl ?_
    refine gw_goto (tgt := 75) hC dX11_tells_60 (by decide) ?_
    refine gw_sub (lv' := [(0, .ref (gx_ad w 0)), (2, .int v2), (3, .int v3)]) [0, 1, 2] rfl ?_
    exact J_X11_tells_75 hC hw hR hr hK4 M ((M 8 v3.toNatClampNeg).toInt64) v2 v2 v3 h
set_option maxRecDepth 20000 in
theorem J_X11_tells_4 {z : gx_X} {d : gx_D} {w : gx_V} {ca : Nat → ClassId} (hC : gx_C z d w cX11_tells 5 RX11) (hw : gx_isR ca w) (hR : gx_R z = rm_X11_tells) (hr : (gx_me z).sig.returnType = (some .long))  {Q : Int64 → gx_M → Prop}   : ∀ (n : Nat) (M : gx_M) (v2 : Int32) (v3 : Int32) , T_X11_tells_4 Q  n M v2 v3 → GW z w 5 (gx_Ql w Q (gx_s z).heap.size) M 4 [(0, .ref (gx_ad w 0)), (2, .int v2), (3, .int v3)] [] := by
  intro n
  induction n with
  | zero =>
    intro M v2 v3 h
    exact h.elim
  | succ n ih =>
    intro M v2 v3 h
    rw [T_X11_tells_4] at h
    refine gw_aload_n hC dX11_tells_4 rfl 0 rfl ?_
    refine gw_get hC cl_X11 fg_X11_36 (hw.lt (by decide)) (gd_0 hw _) (gv_X11_9 _ _ _) dX11_tells_5 ?_
    refine gw_iload_n hC dX11_tells_8 rfl 2 rfl ?_
    obtain ⟨hi, h⟩ := h
    refine gw_iald hC (hw.lt (by decide)) (gd_7 hw _) (gu_0 hw) hi dX11_tells_9 ?_
    refine gw_sipush (v := 408) hC dX11_tells_10 (by decide) ?_
    refine gw_icmp_eq (tgt := 175) hC dX11_tells_13 (by decide) (fun hc => ?_) (fun hc => ?_)
    · have h := gx_t h hc
      refine gw_aload_n hC dX11_tells_175 rfl 0 rfl ?_
      refine gw_get hC cl_X11 fg_X11_72 (hw.lt (by decide)) (gd_0 hw _) (gv_X11_34 _ _ _) dX11_tells_176 ?_
      refine gw_iconst (v := 0) hC dX11_tells_179 (by decide) ?_
      obtain ⟨hi, h⟩ := h
      refine gw_lald hC (hw.lt (by decide)) (gd_19 hw _) (gu_8 hw) hi dX11_tells_180 ?_
      exact gw_lret hC hr dX11_tells_181 h
    · have h := gx_f h hc
      refine gw_aload_n hC dX11_tells_16 rfl 0 rfl ?_
      refine gw_get hC cl_X11 fg_X11_36 (hw.lt (by decide)) (gd_0 hw _) (gv_X11_9 _ _ _) dX11_tells_17 ?_
      refine gw_iload_n hC dX11_tells_20 rfl 2 rfl ?_
      obtain ⟨hi, h⟩ := h
      refine gw_iald hC (hw.lt (by decide)) (gd_7 hw _) (gu_0 hw) hi dX11_tells_21 ?_
      refine gw_nm (fun x1 hx1 => ?_)
      have h := h x1 hx1
      refine gw_istore (lv' := [(4, .int x1), (0, .ref (gx_ad w 0)), (2, .int v2), (3, .int v3)]) hC dX11_tells_22 (by decide) rfl ?_
      refine gw_iload hC dX11_tells_24 0 rfl ?_
      refine gw_sipush (v := 400) hC dX11_tells_26 (by decide) ?_
      refine gw_icmp_eq (tgt := 40) hC dX11_tells_29 (by decide) (fun hc => ?_) (fun hc => ?_)
      · have h := gx_t h hc
        refine gw_sub (lv' := [(0, .ref (gx_ad w 0)), (2, .int v2), (3, .int v3), (4, .int x1)]) [1, 2, 3, 0] rfl ?_
        exact J_X11_tells_40 hC hw hR hr ih M v2 v3 x1 h
      · have h := gx_f h hc
        refine gw_iload hC dX11_tells_32 0 rfl ?_
        refine gw_sipush (v := 401) hC dX11_tells_34 (by decide) ?_
        refine gw_icmp_ne (tgt := 82) hC dX11_tells_37 (by decide) (fun hc => ?_) (fun hc => ?_)
        · have h := gx_f h hc
          refine gw_iload hC dX11_tells_82 0 rfl ?_
          refine gw_sipush (v := 402) hC dX11_tells_84 (by decide) ?_
          refine gw_icmp_ne (tgt := 110) hC dX11_tells_87 (by decide) (fun hc => ?_) (fun hc => ?_)
          · have h := gx_f h hc
            refine gw_iload hC dX11_tells_110 0 rfl ?_
            refine gw_sipush (v := 405) hC dX11_tells_112 (by decide) ?_
            refine gw_icmp_ne (tgt := 139) hC dX11_tells_115 (by decide) (fun hc => ?_) (fun hc => ?_)
            · have h := gx_f h hc
              obtain ⟨x5, hx5⟩ : ∃ y : Int32, y = v2 + (-1) := ⟨_, rfl⟩
              have h := h x5 hx5
              refine gw_iinc (v := x5) (lv' := [(2, .int x5), (4, .int x1), (0, .ref (gx_ad w 0)), (3, .int v3)]) hC dX11_tells_139 (k := 2) rfl (by rw [hx5]; rfl) (by decide) rfl ?_
              refine gw_aload_n hC dX11_tells_142 rfl 2 rfl ?_
              refine gw_get hC cl_X11 fg_X11_72 (hw.lt (by decide)) (gd_0 hw _) (gv_X11_34 _ _ _) dX11_tells_143 ?_
              refine gw_iload_n hC dX11_tells_146 rfl 0 rfl ?_
              refine gw_iconst (v := 1) hC dX11_tells_147 (by decide) ?_
              refine gw_isub hC dX11_tells_148 ?_
              refine gw_iload hC dX11_tells_149 1 rfl ?_
              refine gw_aload_n hC dX11_tells_151 rfl 2 rfl ?_
              refine gw_get hC cl_X11 fg_X11_72 (hw.lt (by decide)) (gd_0 hw _) (gv_X11_34 _ _ _) dX11_tells_152 ?_
              refine gw_iload_n hC dX11_tells_155 rfl 0 rfl ?_
              refine gw_iconst (v := 1) hC dX11_tells_156 (by decide) ?_
              refine gw_isub hC dX11_tells_157 ?_
              obtain ⟨hi, h⟩ := h
              refine gw_lald hC (hw.lt (by decide)) (gd_19 hw _) (gu_8 hw) hi dX11_tells_158 ?_
              refine gw_aload_n hC dX11_tells_159 rfl 2 rfl ?_
              refine gw_get hC cl_X11 fg_X11_72 (hw.lt (by decide)) (gd_0 hw _) (gv_X11_34 _ _ _) dX11_tells_160 ?_
              refine gw_iload_n hC dX11_tells_163 rfl 0 rfl ?_
              obtain ⟨hi, h⟩ := h
              refine gw_lald hC (hw.lt (by decide)) (gd_19 hw _) (gu_8 hw) hi dX11_tells_164 ?_
              refine gw_calll (gx_rS hC (n := 3) (As := [.int x1, .long (gx_rl (M 19) (x5 - 1).toNatClampNeg), .long (gx_rl (M 19) x5.toNatClampNeg)]) (rest := [.int (x5 - 1), .ref (gx_ad w 19)]) (fun sz => c_X11_worked hw  h sz) cs_X11_279_X11_worked (by rw [hR]; exact rr_X11_tells_X11_worked) rfl rfl (Nat.le_of_ble_eq_true rfl) dX11_tells_165) ?_
              intro r6 m7 ⟨hm7, h⟩
              rw [hm7]
              obtain ⟨hi, h⟩ := h
              refine gw_last hC (hw.lt (by decide)) (gd_19 hw) (gu_8 hw) hi dX11_tells_168 ?_
              refine gw_nmM (fun M8 hM8 => ?_)
              have h := h M8 hM8
              refine gw_sub (lv' := [(0, .ref (gx_ad w 0)), (2, .int x5), (3, .int v3)]) [2, 0, 3] rfl ?_
              exact J_X11_tells_169 hC hw hR hr ih M8 x5 v3 h
            · have h := gx_t h hc
              refine gw_aload_n hC dX11_tells_118 rfl 1 rfl ?_
              refine gw_get hC cl_X11 fg_X11_72 (hw.lt (by decide)) (gd_0 hw _) (gv_X11_34 _ _ _) dX11_tells_119 ?_
              refine gw_iload_n hC dX11_tells_122 rfl 2 rfl ?_
              refine gw_iconst (v := 1) hC dX11_tells_123 (by decide) ?_
              refine gw_isub hC dX11_tells_124 ?_
              refine gw_lconst (v := 1) hC dX11_tells_125 (by decide) ?_
              refine gw_aload_n hC dX11_tells_126 rfl 1 rfl ?_
              refine gw_get hC cl_X11 fg_X11_72 (hw.lt (by decide)) (gd_0 hw _) (gv_X11_34 _ _ _) dX11_tells_127 ?_
              refine gw_iload_n hC dX11_tells_130 rfl 2 rfl ?_
              refine gw_iconst (v := 1) hC dX11_tells_131 (by decide) ?_
              refine gw_isub hC dX11_tells_132 ?_
              obtain ⟨hi, h⟩ := h
              refine gw_lald hC (hw.lt (by decide)) (gd_19 hw _) (gu_8 hw) hi dX11_tells_133 ?_
              refine gw_lsub hC dX11_tells_134 ?_
              obtain ⟨hi, h⟩ := h
              refine gw_last hC (hw.lt (by decide)) (gd_19 hw) (gu_8 hw) hi dX11_tells_135 ?_
              refine gw_nmM (fun M9 hM9 => ?_)
              have h := h M9 hM9
              refine gw_goto (tgt := 169) hC dX11_tells_136 (by decide) ?_
              refine gw_sub (lv' := [(0, .ref (gx_ad w 0)), (2, .int v2), (3, .int v3)]) [1, 2, 3] rfl ?_
              exact J_X11_tells_169 hC hw hR hr ih M9 v2 v3 h
          · have h := gx_t h hc
            refine gw_aload_n hC dX11_tells_90 rfl 1 rfl ?_
            refine gw_get hC cl_X11 fg_X11_72 (hw.lt (by decide)) (gd_0 hw _) (gv_X11_34 _ _ _) dX11_tells_91 ?_
            refine gw_iload_n hC dX11_tells_94 rfl 2 rfl ?_
            refine gw_iconst (v := 1) hC dX11_tells_95 (by decide) ?_
            refine gw_isub hC dX11_tells_96 ?_
            refine gw_aload_n hC dX11_tells_97 rfl 1 rfl ?_
            refine gw_get hC cl_X11 fg_X11_72 (hw.lt (by decide)) (gd_0 hw _) (gv_X11_34 _ _ _) dX11_tells_98 ?_
            refine gw_iload_n hC dX11_tells_101 rfl 2 rfl ?_
            refine gw_iconst (v := 1) hC dX11_tells_102 (by decide) ?_
            refine gw_isub hC dX11_tells_103 ?_
            obtain ⟨hi, h⟩ := h
            refine gw_lald hC (hw.lt (by decide)) (gd_19 hw _) (gu_8 hw) hi dX11_tells_104 ?_
            refine gw_lneg hC dX11_tells_105 ?_
            obtain ⟨hi, h⟩ := h
            refine gw_last hC (hw.lt (by decide)) (gd_19 hw) (gu_8 hw) hi dX11_tells_106 ?_
            refine gw_nmM (fun M10 hM10 => ?_)
            have h := h M10 hM10
            refine gw_goto (tgt := 169) hC dX11_tells_107 (by decide) ?_
            refine gw_sub (lv' := [(0, .ref (gx_ad w 0)), (2, .int v2), (3, .int v3)]) [1, 2, 3] rfl ?_
            exact J_X11_tells_169 hC hw hR hr ih M10 v2 v3 h
        · have h := gx_t h hc
          refine gw_sub (lv' := [(0, .ref (gx_ad w 0)), (2, .int v2), (3, .int v3), (4, .int x1)]) [1, 2, 3, 0] rfl ?_
          exact J_X11_tells_40 hC hw hR hr ih M v2 v3 x1 h
set_option maxRecDepth 20000 in
theorem J_X11_tells {z : gx_X} {d : gx_D} {w : gx_V} {ca : Nat → ClassId} (hC : gx_C z d w cX11_tells 5 RX11) (hw : gx_isR ca w) (hR : gx_R z = rm_X11_tells) (hr : (gx_me z).sig.returnType = (some .long))   {M : gx_M} {v1 : Int32} {Q : Int64 → gx_M → Prop} (h : T_X11_tells M v1 Q) : GW z w 5 (gx_Ql w Q (gx_s z).heap.size) M 0 [(0, .ref (gx_ad w 0)), (1, .int v1)] [] := by
  unfold T_X11_tells at h
  refine gw_iconst (v := 0) hC dX11_tells_0 (by decide) ?_
  refine gw_istore_n (lv' := [(2, .int 0), (0, .ref (gx_ad w 0)), (1, .int v1)]) hC dX11_tells_1 rfl (by decide) rfl ?_
  refine gw_iload_n hC dX11_tells_2 rfl 2 rfl ?_
  refine gw_istore_n (lv' := [(3, .int v1), (2, .int 0), (0, .ref (gx_ad w 0)), (1, .int v1)]) hC dX11_tells_3 rfl (by decide) rfl ?_
  obtain ⟨k11, h⟩ := h
  refine gw_sub (lv' := [(0, .ref (gx_ad w 0)), (2, .int 0), (3, .int v1)]) [2, 1, 0] rfl ?_
  exact J_X11_tells_4 hC hw hR hr  k11 M 0 v1 h
theorem c_X11_tells {l : Launch} {d : gx_D} {w : gx_V} {ca : Nat → ClassId} (hw : gx_isR ca w)   {M : gx_M} {v1 : Int32} {Q : Int64 → gx_M → Prop} (h : T_X11_tells M v1 Q) : gx_Ml l d w yX11_tells cX11_tells 5 .long rm_X11_tells [.ref (gx_ad w 0), .int v1] M Q := fun sz =>
  gx_of (own := RX11) (by decide +kernel) rfl (Nat.le_of_ble_eq_true rfl) (fun z hC hl hR hsz hr => by subst hsz; exact J_X11_tells hC hw hR hr  h) rfl
set_option maxRecDepth 20000 in
theorem J_X11_by {z : gx_X} {d : gx_D} {w : gx_V} {ca : Nat → ClassId} (hC : gx_C z d w cX11_by 2 RX11) (hw : gx_isR ca w) (hR : gx_R z = rm_X11_by) (hr : (gx_me z).sig.returnType = (some .boolean))   {M : gx_M} {v1 : Int32} {Q : Int32 → gx_M → Prop} (h : T_X11_by M v1 Q) : GW z w 2 (gx_Qi w Q (gx_s z).heap.size) M 0 [(0, .ref (gx_ad w 0)), (1, .int v1)] [] := by
  unfold T_X11_by at h
  refine gw_iload_n hC dX11_by_0 rfl 1 rfl ?_
  refine gw_iconst (v := (-1)) hC dX11_by_1 (by decide) ?_
  refine gw_icmp_eq (tgt := 23) hC dX11_by_2 (by decide) (fun hc => ?_) (fun hc => ?_)
  · have h := gx_t h hc
    refine gw_aload_n hC dX11_by_23 rfl 0 rfl ?_
    refine gw_get hC cl_X11 fg_X11_7 (hw.lt (by decide)) (gd_0 hw _) (gv_X11_0 _ _ _) dX11_by_24 ?_
    refine gw_iconst (v := 1) hC dX11_by_27 (by decide) ?_
    refine gw_iload_n hC dX11_by_28 rfl 1 rfl ?_
    obtain ⟨hi, h⟩ := h
    refine gw_iast hC (hw.lt (by decide)) (gd_1 hw) (gu_0 hw) hi dX11_by_29 ?_
    refine gw_nmM (fun M1 hM1 => ?_)
    have h := h M1 hM1
    refine gw_iconst (v := 1) hC dX11_by_30 (by decide) ?_
    exact gw_zret hC hr rfl dX11_by_31 h
  · have h := gx_f h hc
    refine gw_iload_n hC dX11_by_5 rfl 1 rfl ?_
    refine gw_iconst (v := 0) hC dX11_by_6 (by decide) ?_
    refine gw_aload_n hC dX11_by_7 rfl 0 rfl ?_
    refine gw_get hC cl_X11 fg_X11_7 (hw.lt (by decide)) (gd_0 hw _) (gv_X11_0 _ _ _) dX11_by_8 ?_
    refine gw_iconst (v := 0) hC dX11_by_11 (by decide) ?_
    obtain ⟨hi, h⟩ := h
    refine gw_iald hC (hw.lt (by decide)) (gd_1 hw _) (gu_0 hw) hi dX11_by_12 ?_
    refine gw_iconst (v := 1) hC dX11_by_13 (by decide) ?_
    refine gw_isub hC dX11_by_14 ?_
    refine gw_calli (gx_rS hC (n := 3) (As := [.int v1, .int 0, .int ((M 1 (0 : Int32).toNatClampNeg) - 1)]) (rest := []) (fun sz => c_X11_in hw  h sz) cs_X11_97_X11_in (by rw [hR]; exact rr_X11_by_X11_in) rfl rfl (Nat.le_of_ble_eq_true rfl) dX11_by_15) ?_
    intro r2 m3 ⟨hm3, h⟩
    rw [hm3]
    refine gw_if_ne (tgt := 23) hC dX11_by_18 (by decide) (fun hc => ?_) (fun hc => ?_)
    · have h := gx_f h hc
      refine gw_aload_n hC dX11_by_23 rfl 0 rfl ?_
      refine gw_get hC cl_X11 fg_X11_7 (hw.lt (by decide)) (gd_0 hw _) (gv_X11_0 _ _ _) dX11_by_24 ?_
      refine gw_iconst (v := 1) hC dX11_by_27 (by decide) ?_
      refine gw_iload_n hC dX11_by_28 rfl 1 rfl ?_
      obtain ⟨hi, h⟩ := h
      refine gw_iast hC (hw.lt (by decide)) (gd_1 hw) (gu_0 hw) hi dX11_by_29 ?_
      refine gw_nmM (fun M4 hM4 => ?_)
      have h := h M4 hM4
      refine gw_iconst (v := 1) hC dX11_by_30 (by decide) ?_
      exact gw_zret hC hr rfl dX11_by_31 h
    · have h := gx_t h hc
      refine gw_iconst (v := 0) hC dX11_by_21 (by decide) ?_
      exact gw_zret hC hr rfl dX11_by_22 h
theorem c_X11_by {l : Launch} {d : gx_D} {w : gx_V} {ca : Nat → ClassId} (hw : gx_isR ca w)   {M : gx_M} {v1 : Int32} {Q : Int32 → gx_M → Prop} (h : T_X11_by M v1 Q) : gx_Mi l d w yX11_by cX11_by 2 .boolean rm_X11_by [.ref (gx_ad w 0), .int v1] M Q := fun sz =>
  gx_of (own := RX11) (by decide +kernel) rfl (Nat.le_of_ble_eq_true rfl) (fun z hC hl hR hsz hr => by subst hsz; exact J_X11_by hC hw hR hr  h) rfl
set_option maxRecDepth 20000 in
theorem J_X11_words_33 {z : gx_X} {d : gx_D} {w : gx_V} {ca : Nat → ClassId} (hC : gx_C z d w cX11_words 3 RX11) (hw : gx_isR ca w) (hR : gx_R z = rm_X11_words) (hr : (gx_me z).sig.returnType = none)  {Q : gx_M → Prop}   (M : gx_M) (t0 : Int32) (t1 : Int32) (v1 : Int32) (v2 : Int32)  (h : T_X11_words_33 Q  M t0 t1 v1 v2) : GW z w 3 (gx_Qv w Q (gx_s z).heap.size) M 33 [(0, .ref (gx_ad w 0)), (1, .int v1), (2, .int v2)] [.int t0, .int t1, .ref (gx_ad w 18)] := by
  unfold T_X11_words_33 at h
  obtain ⟨hi, h⟩ := h
  refine gw_iast hC (hw.lt (by decide)) (gd_18 hw) (gu_0 hw) hi dX11_words_33 ?_
  refine gw_nmM (fun M2 hM2 => ?_)
  have h := h M2 hM2
  refine gw_aload_n hC dX11_words_34 rfl 0 rfl ?_
  refine gw_get hC cl_X11 fg_X11_69 (hw.lt (by decide)) (gd_0 hw _) (gv_X11_33 _ _ _) dX11_words_35 ?_
  refine gw_iconst (v := 2) hC dX11_words_38 (by decide) ?_
  refine gw_aload_n hC dX11_words_39 rfl 0 rfl ?_
  refine gw_get hC cl_X11 fg_X11_42 (hw.lt (by decide)) (gd_0 hw _) (gv_X11_11 _ _ _) dX11_words_40 ?_
  refine gw_sipush (v := 2000) hC dX11_words_43 (by decide) ?_
  refine gw_iload_n hC dX11_words_46 rfl 1 rfl ?_
  refine gw_iadd hC dX11_words_47 ?_
  obtain ⟨hi, h⟩ := h
  refine gw_iald hC (hw.lt (by decide)) (gd_9 hw _) (gu_0 hw) hi dX11_words_48 ?_
  obtain ⟨hi, h⟩ := h
  refine gw_iast hC (hw.lt (by decide)) (gd_18 hw) (gu_0 hw) hi dX11_words_49 ?_
  refine gw_nmM (fun M3 hM3 => ?_)
  have h := h M3 hM3
  refine gw_aload_n hC dX11_words_50 rfl 0 rfl ?_
  refine gw_get hC cl_X11 fg_X11_69 (hw.lt (by decide)) (gd_0 hw _) (gv_X11_33 _ _ _) dX11_words_51 ?_
  refine gw_iconst (v := 3) hC dX11_words_54 (by decide) ?_
  refine gw_iload_n hC dX11_words_55 rfl 1 rfl ?_
  obtain ⟨hi, h⟩ := h
  refine gw_iast hC (hw.lt (by decide)) (gd_18 hw) (gu_0 hw) hi dX11_words_56 ?_
  refine gw_nmM (fun M4 hM4 => ?_)
  have h := h M4 hM4
  refine gw_aload_n hC dX11_words_57 rfl 0 rfl ?_
  refine gw_get hC cl_X11 fg_X11_69 (hw.lt (by decide)) (gd_0 hw _) (gv_X11_33 _ _ _) dX11_words_58 ?_
  refine gw_iconst (v := 4) hC dX11_words_61 (by decide) ?_
  refine gw_iload_n hC dX11_words_62 rfl 1 rfl ?_
  refine gw_bipush (v := 40) hC dX11_words_63 (by decide) ?_
  refine gw_irem hC dX11_words_65 (by decide) ?_
  obtain ⟨hi, h⟩ := h
  refine gw_iast hC (hw.lt (by decide)) (gd_18 hw) (gu_0 hw) hi dX11_words_66 ?_
  refine gw_nmM (fun M5 hM5 => ?_)
  have h := h M5 hM5
  refine gw_aload_n hC dX11_words_67 rfl 0 rfl ?_
  refine gw_get hC cl_X11 fg_X11_69 (hw.lt (by decide)) (gd_0 hw _) (gv_X11_33 _ _ _) dX11_words_68 ?_
  refine gw_iconst (v := 5) hC dX11_words_71 (by decide) ?_
  refine gw_aload_n hC dX11_words_72 rfl 0 rfl ?_
  refine gw_get hC cl_X11 fg_X11_283 (hw.lt (by decide)) (gd_0 hw _) (gv_X11_35 _ _ _) dX11_words_73 ?_
  obtain ⟨hi, h⟩ := h
  refine gw_iast hC (hw.lt (by decide)) (gd_18 hw) (gu_0 hw) hi dX11_words_76 ?_
  refine gw_nmM (fun M6 hM6 => ?_)
  have h := h M6 hM6
  refine gw_aload_n hC dX11_words_77 rfl 0 rfl ?_
  refine gw_get hC cl_X11 fg_X11_69 (hw.lt (by decide)) (gd_0 hw _) (gv_X11_33 _ _ _) dX11_words_78 ?_
  refine gw_bipush (v := 6) hC dX11_words_81 (by decide) ?_
  refine gw_iload_n hC dX11_words_83 rfl 1 rfl ?_
  refine gw_iload_n hC dX11_words_84 rfl 2 rfl ?_
  refine gw_isub hC dX11_words_85 ?_
  obtain ⟨hi, h⟩ := h
  refine gw_iast hC (hw.lt (by decide)) (gd_18 hw) (gu_0 hw) hi dX11_words_86 ?_
  refine gw_nmM (fun M7 hM7 => ?_)
  have h := h M7 hM7
  exact gw_vret hC hr dX11_words_87 h
set_option maxRecDepth 20000 in
theorem J_X11_words {z : gx_X} {d : gx_D} {w : gx_V} {ca : Nat → ClassId} (hC : gx_C z d w cX11_words 3 RX11) (hw : gx_isR ca w) (hR : gx_R z = rm_X11_words) (hr : (gx_me z).sig.returnType = none)   {M : gx_M} {v1 : Int32} {v2 : Int32} {Q : gx_M → Prop} (h : T_X11_words M v1 v2 Q) : GW z w 3 (gx_Qv w Q (gx_s z).heap.size) M 0 [(0, .ref (gx_ad w 0)), (1, .int v1), (2, .int v2)] [] := by
  unfold T_X11_words at h
  refine gw_aload_n hC dX11_words_0 rfl 0 rfl ?_
  refine gw_get hC cl_X11 fg_X11_69 (hw.lt (by decide)) (gd_0 hw _) (gv_X11_33 _ _ _) dX11_words_1 ?_
  refine gw_iconst (v := 0) hC dX11_words_4 (by decide) ?_
  refine gw_aload_n hC dX11_words_5 rfl 0 rfl ?_
  refine gw_get hC cl_X11 fg_X11_42 (hw.lt (by decide)) (gd_0 hw _) (gv_X11_11 _ _ _) dX11_words_6 ?_
  refine gw_iload_n hC dX11_words_9 rfl 1 rfl ?_
  obtain ⟨hi, h⟩ := h
  refine gw_iald hC (hw.lt (by decide)) (gd_9 hw _) (gu_0 hw) hi dX11_words_10 ?_
  obtain ⟨hi, h⟩ := h
  refine gw_iast hC (hw.lt (by decide)) (gd_18 hw) (gu_0 hw) hi dX11_words_11 ?_
  refine gw_nmM (fun M1 hM1 => ?_)
  have h := h M1 hM1
  refine gw_aload_n hC dX11_words_12 rfl 0 rfl ?_
  refine gw_get hC cl_X11 fg_X11_69 (hw.lt (by decide)) (gd_0 hw _) (gv_X11_33 _ _ _) dX11_words_13 ?_
  refine gw_iconst (v := 1) hC dX11_words_16 (by decide) ?_
  refine gw_iload_n hC dX11_words_17 rfl 1 rfl ?_
  refine gw_if_ne (tgt := 25) hC dX11_words_18 (by decide) (fun hc => ?_) (fun hc => ?_)
  · have h := gx_f h hc
    refine gw_aload_n hC dX11_words_25 rfl 0 rfl ?_
    refine gw_get hC cl_X11 fg_X11_42 (hw.lt (by decide)) (gd_0 hw _) (gv_X11_11 _ _ _) dX11_words_26 ?_
    refine gw_iload_n hC dX11_words_29 rfl 1 rfl ?_
    refine gw_iconst (v := 1) hC dX11_words_30 (by decide) ?_
    refine gw_isub hC dX11_words_31 ?_
    obtain ⟨hi, h⟩ := h
    refine gw_iald hC (hw.lt (by decide)) (gd_9 hw _) (gu_0 hw) hi dX11_words_32 ?_
    exact J_X11_words_33 hC hw hR hr  M1 (M1 9 (v1 - 1).toNatClampNeg) 1 v1 v2 h
  · have h := gx_t h hc
    refine gw_iconst (v := 0) hC dX11_words_21 (by decide) ?_
    refine gw_goto (tgt := 33) hC dX11_words_22 (by decide) ?_
    exact J_X11_words_33 hC hw hR hr  M1 0 1 v1 v2 h
theorem c_X11_words {l : Launch} {d : gx_D} {w : gx_V} {ca : Nat → ClassId} (hw : gx_isR ca w)   {M : gx_M} {v1 : Int32} {v2 : Int32} {Q : gx_M → Prop} (h : T_X11_words M v1 v2 Q) : gx_Mv l d w yX11_words cX11_words 3 rm_X11_words [.ref (gx_ad w 0), .int v1, .int v2] M Q := fun sz =>
  gx_of (own := RX11) (by decide +kernel) rfl (Nat.le_of_ble_eq_true rfl) (fun z hC hl hR hsz hr => by subst hsz; exact J_X11_words hC hw hR hr  h) rfl
set_option maxRecDepth 20000 in
theorem J_X11_triggers_79 {z : gx_X} {d : gx_D} {w : gx_V} {ca : Nat → ClassId} (hC : gx_C z d w cX11_triggers 5 RX11) (hw : gx_isR ca w) (hR : gx_R z = rm_X11_triggers) (hr : (gx_me z).sig.returnType = (some .boolean))  {Q : Int32 → gx_M → Prop} {K14 : gx_M → Int32 → Int32 → Int32 → Int32 → Prop} (hK14 : ∀ (M : gx_M) (v1 : Int32) (v2 : Int32) (v3 : Int32) (v4 : Int32), K14 M v1 v2 v3 v4 → GW z w 5 (gx_Qi w Q (gx_s z).heap.size) M 14 [(0, .ref (gx_ad w 0)), (1, .int v1), (2, .int v2), (3, .int v3), (4, .int v4)] []) (M : gx_M) (v1 : Int32) (v2 : Int32) (v3 : Int32) (v4 : Int32)  (h : T_X11_triggers_79 Q K14 M v1 v2 v3 v4) : GW z w 5 (gx_Qi w Q (gx_s z).heap.size) M 79 [(0, .ref (gx_ad w 0)), (1, .int v1), (2, .int v2), (3, .int v3), (4, .int v4)] [] := by
  unfold T_X11_triggers_79 at h
  obtain ⟨x2, hx2⟩ : ∃ y : Int32, y = v4 + 1 := ⟨_, rfl⟩
  have h := h x2 hx2
  refine gw_iinc (v := x2) (lv' := [(4, .int x2), (0, .ref (gx_ad w 0)), (1, .int v1), (2, .int v2), (3, .int v3)]) hC dX11_triggers_79 (k := 4) rfl (by rw [hx2]; rfl) (by decide) rfl ?_
  refine gw_goto (tgt := 14) hC dX11_triggers_82 (by decide) ?_
  refine gw_sub (lv' := [(0, .ref (gx_ad w 0)), (1, .int v1), (2, .int v2), (3, .int v3), (4, .int x2)]) [1, 2, 3, 4, 0] rfl ?_
  exact hK14 M v1 v2 v3 x2 h
set_option maxRecDepth 20000 in
theorem J_X11_triggers_78 {z : gx_X} {d : gx_D} {w : gx_V} {ca : Nat → ClassId} (hC : gx_C z d w cX11_triggers 5 RX11) (hw : gx_isR ca w) (hR : gx_R z = rm_X11_triggers) (hr : (gx_me z).sig.returnType = (some .boolean))  {Q : Int32 → gx_M → Prop} {K14 : gx_M → Int32 → Int32 → Int32 → Int32 → Prop} (hK14 : ∀ (M : gx_M) (v1 : Int32) (v2 : Int32) (v3 : Int32) (v4 : Int32), K14 M v1 v2 v3 v4 → GW z w 5 (gx_Qi w Q (gx_s z).heap.size) M 14 [(0, .ref (gx_ad w 0)), (1, .int v1), (2, .int v2), (3, .int v3), (4, .int v4)] []) (M : gx_M) (t0 : Int32) (v1 : Int32) (v3 : Int32) (v4 : Int32)  (h : T_X11_triggers_78 Q K14 M t0 v1 v3 v4) : GW z w 5 (gx_Qi w Q (gx_s z).heap.size) M 78 [(0, .ref (gx_ad w 0)), (1, .int v1), (3, .int v3), (4, .int v4)] [.int t0] := by
  unfold T_X11_triggers_78 at h
  refine gw_istore_n (lv' := [(2, .int t0), (0, .ref (gx_ad w 0)), (1, .int v1), (3, .int v3), (4, .int v4)]) hC dX11_triggers_78 rfl (by decide) rfl ?_
  refine gw_sub (lv' := [(0, .ref (gx_ad w 0)), (1, .int v1), (2, .int t0), (3, .int v3), (4, .int v4)]) [1, 2, 0, 3, 4] rfl ?_
  exact J_X11_triggers_79 hC hw hR hr hK14 M v1 t0 v3 v4 h
set_option maxRecDepth 20000 in
theorem J_X11_triggers_73 {z : gx_X} {d : gx_D} {w : gx_V} {ca : Nat → ClassId} (hC : gx_C z d w cX11_triggers 5 RX11) (hw : gx_isR ca w) (hR : gx_R z = rm_X11_triggers) (hr : (gx_me z).sig.returnType = (some .boolean))  {Q : Int32 → gx_M → Prop} {K14 : gx_M → Int32 → Int32 → Int32 → Int32 → Prop} (hK14 : ∀ (M : gx_M) (v1 : Int32) (v2 : Int32) (v3 : Int32) (v4 : Int32), K14 M v1 v2 v3 v4 → GW z w 5 (gx_Qi w Q (gx_s z).heap.size) M 14 [(0, .ref (gx_ad w 0)), (1, .int v1), (2, .int v2), (3, .int v3), (4, .int v4)] []) (M : gx_M) (v1 : Int32) (v3 : Int32) (v4 : Int32)  (h : T_X11_triggers_73 Q K14 M v1 v3 v4) : GW z w 5 (gx_Qi w Q (gx_s z).heap.size) M 73 [(0, .ref (gx_ad w 0)), (1, .int v1), (3, .int v3), (4, .int v4)] [] := by
  unfold T_X11_triggers_73 at h
  refine gw_iconst (v := 1) hC dX11_triggers_73 (by decide) ?_
  refine gw_goto (tgt := 78) hC dX11_triggers_74 (by decide) ?_
  exact J_X11_triggers_78 hC hw hR hr hK14 M 1 v1 v3 v4 h
set_option maxRecDepth 20000 in
theorem J_X11_triggers_14 {z : gx_X} {d : gx_D} {w : gx_V} {ca : Nat → ClassId} (hC : gx_C z d w cX11_triggers 5 RX11) (hw : gx_isR ca w) (hR : gx_R z = rm_X11_triggers) (hr : (gx_me z).sig.returnType = (some .boolean))  {Q : Int32 → gx_M → Prop} {K85 : gx_M → Int32 → Int32 → Prop} (hK85 : ∀ (M : gx_M) (v2 : Int32) (v3 : Int32), K85 M v2 v3 → GW z w 5 (gx_Qi w Q (gx_s z).heap.size) M 85 [(2, .int v2), (3, .int v3)] []) : ∀ (n : Nat) (M : gx_M) (v1 : Int32) (v2 : Int32) (v3 : Int32) (v4 : Int32) , T_X11_triggers_14 Q K85 n M v1 v2 v3 v4 → GW z w 5 (gx_Qi w Q (gx_s z).heap.size) M 14 [(0, .ref (gx_ad w 0)), (1, .int v1), (2, .int v2), (3, .int v3), (4, .int v4)] [] := by
  intro n
  induction n with
  | zero =>
    intro M v1 v2 v3 v4 h
    exact h.elim
  | succ n ih =>
    intro M v1 v2 v3 v4 h
    rw [T_X11_triggers_14] at h
    refine gw_iload_n hC dX11_triggers_14 rfl 1 rfl ?_
    refine gw_iconst (v := (-1)) hC dX11_triggers_15 (by decide) ?_
    refine gw_icmp_eq (tgt := 85) hC dX11_triggers_16 (by decide) (fun hc => ?_) (fun hc => ?_)
    · have h := gx_t h hc
      refine gw_sub (lv' := [(2, .int v2), (3, .int v3)]) [2, 3] rfl ?_
      exact hK85 M v2 v3 h
    · have h := gx_f h hc
      refine gw_iload hC dX11_triggers_19 4 rfl ?_
      refine gw_aload_n hC dX11_triggers_21 rfl 0 rfl ?_
      refine gw_get hC cl_X11 fg_X11_27 (hw.lt (by decide)) (gd_0 hw _) (gv_X11_6 _ _ _) dX11_triggers_22 ?_
      refine gw_iload_n hC dX11_triggers_25 rfl 1 rfl ?_
      obtain ⟨hi, h⟩ := h
      refine gw_iald hC (hw.lt (by decide)) (gd_4 hw _) (gu_0 hw) hi dX11_triggers_26 ?_
      refine gw_icmp_ge (tgt := 85) hC dX11_triggers_27 (by decide) (fun hc => ?_) (fun hc => ?_)
      · have h := gx_t h hc
        refine gw_sub (lv' := [(2, .int v2), (3, .int v3)]) [2, 3] rfl ?_
        exact hK85 M v2 v3 h
      · have h := gx_f h hc
        refine gw_aload_n hC dX11_triggers_30 rfl 0 rfl ?_
        refine gw_get hC cl_X11 fg_X11_30 (hw.lt (by decide)) (gd_0 hw _) (gv_X11_7 _ _ _) dX11_triggers_31 ?_
        refine gw_bipush (v := 10) hC dX11_triggers_34 (by decide) ?_
        refine gw_iload_n hC dX11_triggers_36 rfl 1 rfl ?_
        refine gw_imul hC dX11_triggers_37 ?_
        refine gw_iload hC dX11_triggers_38 4 rfl ?_
        refine gw_iadd hC dX11_triggers_40 ?_
        obtain ⟨hi, h⟩ := h
        refine gw_iald hC (hw.lt (by decide)) (gd_5 hw _) (gu_0 hw) hi dX11_triggers_41 ?_
        refine gw_iconst (v := 1) hC dX11_triggers_42 (by decide) ?_
        refine gw_icmp_ne (tgt := 79) hC dX11_triggers_43 (by decide) (fun hc => ?_) (fun hc => ?_)
        · have h := gx_f h hc
          exact J_X11_triggers_79 hC hw hR hr ih M v1 v2 v3 v4 h
        · have h := gx_t h hc
          refine gw_iconst (v := 1) hC dX11_triggers_46 (by decide) ?_
          refine gw_istore_n (lv' := [(3, .int 1), (0, .ref (gx_ad w 0)), (1, .int v1), (2, .int v2), (4, .int v4)]) hC dX11_triggers_47 rfl (by decide) rfl ?_
          refine gw_iload_n hC dX11_triggers_48 rfl 3 rfl ?_
          refine gw_if_ne (tgt := 73) hC dX11_triggers_49 (by decide) (fun hc => ?_) (fun hc => ?_)
          · have h := gx_f h hc
            refine gw_sub (lv' := [(0, .ref (gx_ad w 0)), (1, .int v1), (3, .int 1), (4, .int v4)]) [1, 2, 0, 4] rfl ?_
            exact J_X11_triggers_73 hC hw hR hr ih M v1 1 v4 h
          · have h := gx_t h hc
            refine gw_aload_n hC dX11_triggers_52 rfl 1 rfl ?_
            refine gw_aload_n hC dX11_triggers_53 rfl 1 rfl ?_
            refine gw_get hC cl_X11 fg_X11_33 (hw.lt (by decide)) (gd_0 hw _) (gv_X11_8 _ _ _) dX11_triggers_54 ?_
            refine gw_bipush (v := 10) hC dX11_triggers_57 (by decide) ?_
            refine gw_iload_n hC dX11_triggers_59 rfl 2 rfl ?_
            refine gw_imul hC dX11_triggers_60 ?_
            refine gw_iload hC dX11_triggers_61 4 rfl ?_
            refine gw_iadd hC dX11_triggers_63 ?_
            obtain ⟨hi, h⟩ := h
            refine gw_iald hC (hw.lt (by decide)) (gd_6 hw _) (gu_0 hw) hi dX11_triggers_64 ?_
            refine gw_calll (gx_rV hC (n := 1) (As := [.int (M 6 ((10 * v1) + v4).toNatClampNeg)]) (rest := []) (fun sz => c_X11_tells hw  h sz) cv_X11_286_X11_tells (by rw [hR]; exact rr_X11_triggers_X11_tells) ⟨(hw.lt (by decide)), _, _, _, _, gd_0 hw _, cl_X11.1⟩ rfl rfl (Nat.le_of_ble_eq_true rfl) dX11_triggers_65) ?_
            intro r4 M3 h
            refine gw_lconst (v := 0) hC dX11_triggers_68 (by decide) ?_
            refine gw_lcmp hC dX11_triggers_69 ?_
            refine gw_if_le (tgt := 77) hC dX11_triggers_70 (by decide) (fun hc => ?_) (fun hc => ?_)
            · have h := gx_t h ((lg_cmp_le _ _).mp hc)
              refine gw_iconst (v := 0) hC dX11_triggers_77 (by decide) ?_
              refine gw_sub (lv' := [(0, .ref (gx_ad w 0)), (1, .int v1), (3, .int 1), (4, .int v4)]) [1, 2, 0, 4] rfl ?_
              exact J_X11_triggers_78 hC hw hR hr ih M3 0 v1 1 v4 h
            · have h := gx_f h (fun q => hc ((lg_cmp_le _ _).mpr q))
              refine gw_sub (lv' := [(0, .ref (gx_ad w 0)), (1, .int v1), (3, .int 1), (4, .int v4)]) [1, 2, 0, 4] rfl ?_
              exact J_X11_triggers_73 hC hw hR hr ih M3 v1 1 v4 h
set_option maxRecDepth 20000 in
theorem J_X11_triggers_93 {z : gx_X} {d : gx_D} {w : gx_V} {ca : Nat → ClassId} (hC : gx_C z d w cX11_triggers 5 RX11) (hw : gx_isR ca w) (hR : gx_R z = rm_X11_triggers) (hr : (gx_me z).sig.returnType = (some .boolean))  {Q : Int32 → gx_M → Prop}   (M : gx_M)  (h : T_X11_triggers_93 Q  M) : GW z w 5 (gx_Qi w Q (gx_s z).heap.size) M 93 [] [] := by
  unfold T_X11_triggers_93 at h
  refine gw_iconst (v := 1) hC dX11_triggers_93 (by decide) ?_
  refine gw_goto (tgt := 98) hC dX11_triggers_94 (by decide) ?_
  exact gw_zret hC hr rfl dX11_triggers_98 h
set_option maxRecDepth 20000 in
theorem J_X11_triggers_85 {z : gx_X} {d : gx_D} {w : gx_V} {ca : Nat → ClassId} (hC : gx_C z d w cX11_triggers 5 RX11) (hw : gx_isR ca w) (hR : gx_R z = rm_X11_triggers) (hr : (gx_me z).sig.returnType = (some .boolean))  {Q : Int32 → gx_M → Prop}   (M : gx_M) (v2 : Int32) (v3 : Int32)  (h : T_X11_triggers_85 Q  M v2 v3) : GW z w 5 (gx_Qi w Q (gx_s z).heap.size) M 85 [(2, .int v2), (3, .int v3)] [] := by
  unfold T_X11_triggers_85 at h
  refine gw_iload_n hC dX11_triggers_85 rfl 0 rfl ?_
  refine gw_if_ne (tgt := 93) hC dX11_triggers_86 (by decide) (fun hc => ?_) (fun hc => ?_)
  · have h := gx_f h hc
    refine gw_sub (lv' := []) [] rfl ?_
    exact J_X11_triggers_93 hC hw hR hr  M h
  · have h := gx_t h hc
    refine gw_iload_n hC dX11_triggers_89 rfl 1 rfl ?_
    refine gw_if_ne (tgt := 97) hC dX11_triggers_90 (by decide) (fun hc => ?_) (fun hc => ?_)
    · have h := gx_f h hc
      refine gw_iconst (v := 0) hC dX11_triggers_97 (by decide) ?_
      exact gw_zret hC hr rfl dX11_triggers_98 h
    · have h := gx_t h hc
      refine gw_sub (lv' := []) [] rfl ?_
      exact J_X11_triggers_93 hC hw hR hr  M h
set_option maxRecDepth 20000 in
theorem J_X11_triggers {z : gx_X} {d : gx_D} {w : gx_V} {ca : Nat → ClassId} (hC : gx_C z d w cX11_triggers 5 RX11) (hw : gx_isR ca w) (hR : gx_R z = rm_X11_triggers) (hr : (gx_me z).sig.returnType = (some .boolean))   {M : gx_M}  {Q : Int32 → gx_M → Prop} (h : T_X11_triggers M  Q) : GW z w 5 (gx_Qi w Q (gx_s z).heap.size) M 0 [(0, .ref (gx_ad w 0))] [] := by
  unfold T_X11_triggers at h
  refine gw_aload_n hC dX11_triggers_0 rfl 0 rfl ?_
  refine gw_get hC cl_X11 fg_X11_7 (hw.lt (by decide)) (gd_0 hw _) (gv_X11_0 _ _ _) dX11_triggers_1 ?_
  refine gw_iconst (v := 1) hC dX11_triggers_4 (by decide) ?_
  obtain ⟨hi, h⟩ := h
  refine gw_iald hC (hw.lt (by decide)) (gd_1 hw _) (gu_0 hw) hi dX11_triggers_5 ?_
  refine gw_nm (fun x1 hx1 => ?_)
  have h := h x1 hx1
  refine gw_istore_n (lv' := [(1, .int x1), (0, .ref (gx_ad w 0))]) hC dX11_triggers_6 rfl (by decide) rfl ?_
  refine gw_iconst (v := 0) hC dX11_triggers_7 (by decide) ?_
  refine gw_istore_n (lv' := [(2, .int 0), (1, .int x1), (0, .ref (gx_ad w 0))]) hC dX11_triggers_8 rfl (by decide) rfl ?_
  refine gw_iconst (v := 0) hC dX11_triggers_9 (by decide) ?_
  refine gw_istore_n (lv' := [(3, .int 0), (2, .int 0), (1, .int x1), (0, .ref (gx_ad w 0))]) hC dX11_triggers_10 rfl (by decide) rfl ?_
  refine gw_iconst (v := 0) hC dX11_triggers_11 (by decide) ?_
  refine gw_istore (lv' := [(4, .int 0), (3, .int 0), (2, .int 0), (1, .int x1), (0, .ref (gx_ad w 0))]) hC dX11_triggers_12 (by decide) rfl ?_
  obtain ⟨k5, h⟩ := h
  refine gw_sub (lv' := [(0, .ref (gx_ad w 0)), (1, .int x1), (2, .int 0), (3, .int 0), (4, .int 0)]) [4, 3, 2, 1, 0] rfl ?_
  exact J_X11_triggers_14 hC hw hR hr (fun M8 v2_6 v3_7 h => by
      exact J_X11_triggers_85 hC hw hR hr  M8 v2_6 v3_7 h) k5 M x1 0 0 0 h
theorem c_X11_triggers {l : Launch} {d : gx_D} {w : gx_V} {ca : Nat → ClassId} (hw : gx_isR ca w)   {M : gx_M}  {Q : Int32 → gx_M → Prop} (h : T_X11_triggers M  Q) : gx_Mi l d w yX11_triggers cX11_triggers 5 .boolean rm_X11_triggers [.ref (gx_ad w 0)] M Q := fun sz =>
  gx_of (own := RX11) (by decide +kernel) rfl (Nat.le_of_ble_eq_true rfl) (fun z hC hl hR hsz hr => by subst hsz; exact J_X11_triggers hC hw hR hr  h) rfl
set_option maxRecDepth 20000 in
theorem J_X11_hold_63 {z : gx_X} {d : gx_D} {w : gx_V} {ca : Nat → ClassId} (hC : gx_C z d w cX11_hold 5 RX11) (hw : gx_isR ca w) (hR : gx_R z = rm_X11_hold) (hr : (gx_me z).sig.returnType = (some .int))  {Q : Int32 → gx_M → Prop} {K12 : gx_M → Int32 → Int64 → Int32 → Prop} (hK12 : ∀ (M : gx_M) (v1 : Int32) (x2 : Int64) (v4 : Int32), K12 M v1 x2 v4 → GW z w 5 (gx_Qi w Q (gx_s z).heap.size) M 12 [(0, .ref (gx_ad w 0)), (1, .int v1), (2, .long x2), (4, .int v4)] []) (M : gx_M) (u0 : Int64) (v1 : Int32) (v4 : Int32)  (h : T_X11_hold_63 Q K12 M u0 v1 v4) : GW z w 5 (gx_Qi w Q (gx_s z).heap.size) M 63 [(0, .ref (gx_ad w 0)), (1, .int v1), (4, .int v4)] [.long u0] := by
  unfold T_X11_hold_63 at h
  refine gw_lstore_n (lv' := [(2, .long u0), (0, .ref (gx_ad w 0)), (1, .int v1), (4, .int v4)]) hC dX11_hold_63 rfl (by decide) rfl ?_
  obtain ⟨x2, hx2⟩ : ∃ y : Int32, y = v4 + 1 := ⟨_, rfl⟩
  have h := h x2 hx2
  refine gw_iinc (v := x2) (lv' := [(4, .int x2), (2, .long u0), (0, .ref (gx_ad w 0)), (1, .int v1)]) hC dX11_hold_64 (k := 3) rfl (by rw [hx2]; rfl) (by decide) rfl ?_
  refine gw_goto (tgt := 12) hC dX11_hold_67 (by decide) ?_
  refine gw_sub (lv' := [(0, .ref (gx_ad w 0)), (1, .int v1), (2, .long u0), (4, .int x2)]) [2, 3, 1, 0] rfl ?_
  exact hK12 M v1 u0 x2 h
set_option maxRecDepth 20000 in
theorem J_X11_hold_12 {z : gx_X} {d : gx_D} {w : gx_V} {ca : Nat → ClassId} (hC : gx_C z d w cX11_hold 5 RX11) (hw : gx_isR ca w) (hR : gx_R z = rm_X11_hold) (hr : (gx_me z).sig.returnType = (some .int))  {Q : Int32 → gx_M → Prop} {K70 : gx_M → Int64 → Prop} (hK70 : ∀ (M : gx_M) (x2 : Int64), K70 M x2 → GW z w 5 (gx_Qi w Q (gx_s z).heap.size) M 70 [(2, .long x2)] []) : ∀ (n : Nat) (M : gx_M) (v1 : Int32) (x2 : Int64) (v4 : Int32) , T_X11_hold_12 Q K70 n M v1 x2 v4 → GW z w 5 (gx_Qi w Q (gx_s z).heap.size) M 12 [(0, .ref (gx_ad w 0)), (1, .int v1), (2, .long x2), (4, .int v4)] [] := by
  intro n
  induction n with
  | zero =>
    intro M v1 x2 v4 h
    exact h.elim
  | succ n ih =>
    intro M v1 x2 v4 h
    rw [T_X11_hold_12] at h
    refine gw_iload_n hC dX11_hold_12 rfl 1 rfl ?_
    refine gw_iconst (v := (-1)) hC dX11_hold_13 (by decide) ?_
    refine gw_icmp_eq (tgt := 70) hC dX11_hold_14 (by decide) (fun hc => ?_) (fun hc => ?_)
    · have h := gx_t h hc
      refine gw_sub (lv' := [(2, .long x2)]) [2] rfl ?_
      exact hK70 M x2 h
    · have h := gx_f h hc
      refine gw_iload hC dX11_hold_17 3 rfl ?_
      refine gw_aload_n hC dX11_hold_19 rfl 0 rfl ?_
      refine gw_get hC cl_X11 fg_X11_27 (hw.lt (by decide)) (gd_0 hw _) (gv_X11_6 _ _ _) dX11_hold_20 ?_
      refine gw_iload_n hC dX11_hold_23 rfl 1 rfl ?_
      obtain ⟨hi, h⟩ := h
      refine gw_iald hC (hw.lt (by decide)) (gd_4 hw _) (gu_0 hw) hi dX11_hold_24 ?_
      refine gw_icmp_ge (tgt := 70) hC dX11_hold_25 (by decide) (fun hc => ?_) (fun hc => ?_)
      · have h := gx_t h hc
        refine gw_sub (lv' := [(2, .long x2)]) [2] rfl ?_
        exact hK70 M x2 h
      · have h := gx_f h hc
        refine gw_aload_n hC dX11_hold_28 rfl 0 rfl ?_
        refine gw_get hC cl_X11 fg_X11_30 (hw.lt (by decide)) (gd_0 hw _) (gv_X11_7 _ _ _) dX11_hold_29 ?_
        refine gw_bipush (v := 10) hC dX11_hold_32 (by decide) ?_
        refine gw_iload_n hC dX11_hold_34 rfl 1 rfl ?_
        refine gw_imul hC dX11_hold_35 ?_
        refine gw_iload hC dX11_hold_36 3 rfl ?_
        refine gw_iadd hC dX11_hold_38 ?_
        obtain ⟨hi, h⟩ := h
        refine gw_iald hC (hw.lt (by decide)) (gd_5 hw _) (gu_0 hw) hi dX11_hold_39 ?_
        refine gw_if_ne (tgt := 62) hC dX11_hold_40 (by decide) (fun hc => ?_) (fun hc => ?_)
        · have h := gx_f h hc
          refine gw_lload_n hC dX11_hold_62 rfl 2 rfl ?_
          refine gw_sub (lv' := [(0, .ref (gx_ad w 0)), (1, .int v1), (4, .int v4)]) [0, 1, 3] rfl ?_
          exact J_X11_hold_63 hC hw hR hr ih M x2 v1 v4 h
        · have h := gx_t h hc
          refine gw_aload_n hC dX11_hold_43 rfl 0 rfl ?_
          refine gw_aload_n hC dX11_hold_44 rfl 0 rfl ?_
          refine gw_get hC cl_X11 fg_X11_33 (hw.lt (by decide)) (gd_0 hw _) (gv_X11_8 _ _ _) dX11_hold_45 ?_
          refine gw_bipush (v := 10) hC dX11_hold_48 (by decide) ?_
          refine gw_iload_n hC dX11_hold_50 rfl 1 rfl ?_
          refine gw_imul hC dX11_hold_51 ?_
          refine gw_iload hC dX11_hold_52 3 rfl ?_
          refine gw_iadd hC dX11_hold_54 ?_
          obtain ⟨hi, h⟩ := h
          refine gw_iald hC (hw.lt (by decide)) (gd_6 hw _) (gu_0 hw) hi dX11_hold_55 ?_
          refine gw_calll (gx_rV hC (n := 1) (As := [.int (M 6 ((10 * v1) + v4).toNatClampNeg)]) (rest := []) (fun sz => c_X11_tells hw  h sz) cv_X11_286_X11_tells (by rw [hR]; exact rr_X11_hold_X11_tells) ⟨(hw.lt (by decide)), _, _, _, _, gd_0 hw _, cl_X11.1⟩ rfl rfl (Nat.le_of_ble_eq_true rfl) dX11_hold_56) ?_
          intro r4 M3 h
          refine gw_goto (tgt := 63) hC dX11_hold_59 (by decide) ?_
          refine gw_sub (lv' := [(0, .ref (gx_ad w 0)), (1, .int v1), (4, .int v4)]) [0, 1, 3] rfl ?_
          exact J_X11_hold_63 hC hw hR hr ih M3 r4 v1 v4 h
set_option maxRecDepth 20000 in
theorem J_X11_hold_70 {z : gx_X} {d : gx_D} {w : gx_V} {ca : Nat → ClassId} (hC : gx_C z d w cX11_hold 5 RX11) (hw : gx_isR ca w) (hR : gx_R z = rm_X11_hold) (hr : (gx_me z).sig.returnType = (some .int))  {Q : Int32 → gx_M → Prop}   (M : gx_M) (x2 : Int64)  (h : T_X11_hold_70 Q  M x2) : GW z w 5 (gx_Qi w Q (gx_s z).heap.size) M 70 [(2, .long x2)] [] := by
  unfold T_X11_hold_70 at h
  refine gw_lload_n hC dX11_hold_70 rfl 0 rfl ?_
  refine gw_lconst (v := 0) hC dX11_hold_71 (by decide) ?_
  refine gw_lcmp hC dX11_hold_72 ?_
  refine gw_if_ge (tgt := 80) hC dX11_hold_73 (by decide) (fun hc => ?_) (fun hc => ?_)
  · have h := gx_t h ((lg_cmp_ge _ _).mp hc)
    refine gw_lload_n hC dX11_hold_80 rfl 0 rfl ?_
    refine gw_ldc2 hC kl_X11_290 dX11_hold_81 ?_
    refine gw_lcmp hC dX11_hold_84 ?_
    refine gw_if_le (tgt := 94) hC dX11_hold_85 (by decide) (fun hc => ?_) (fun hc => ?_)
    · have h := gx_t h ((lg_cmp_le _ _).mp hc)
      refine gw_lload_n hC dX11_hold_94 rfl 0 rfl ?_
      refine gw_l2i hC dX11_hold_95 rfl ?_
      exact gw_iret hC hr dX11_hold_96 h
    · have h := gx_f h (fun q => hc ((lg_cmp_le _ _).mpr q))
      refine gw_sipush (v := 9999) hC dX11_hold_88 (by decide) ?_
      refine gw_goto (tgt := 96) hC dX11_hold_91 (by decide) ?_
      exact gw_iret hC hr dX11_hold_96 h
  · have h := gx_f h (fun q => hc ((lg_cmp_ge _ _).mpr q))
    refine gw_iconst (v := 0) hC dX11_hold_76 (by decide) ?_
    refine gw_goto (tgt := 96) hC dX11_hold_77 (by decide) ?_
    exact gw_iret hC hr dX11_hold_96 h
set_option maxRecDepth 20000 in
theorem J_X11_hold {z : gx_X} {d : gx_D} {w : gx_V} {ca : Nat → ClassId} (hC : gx_C z d w cX11_hold 5 RX11) (hw : gx_isR ca w) (hR : gx_R z = rm_X11_hold) (hr : (gx_me z).sig.returnType = (some .int))   {M : gx_M}  {Q : Int32 → gx_M → Prop} (h : T_X11_hold M  Q) : GW z w 5 (gx_Qi w Q (gx_s z).heap.size) M 0 [(0, .ref (gx_ad w 0))] [] := by
  unfold T_X11_hold at h
  refine gw_aload_n hC dX11_hold_0 rfl 0 rfl ?_
  refine gw_get hC cl_X11 fg_X11_7 (hw.lt (by decide)) (gd_0 hw _) (gv_X11_0 _ _ _) dX11_hold_1 ?_
  refine gw_iconst (v := 1) hC dX11_hold_4 (by decide) ?_
  obtain ⟨hi, h⟩ := h
  refine gw_iald hC (hw.lt (by decide)) (gd_1 hw _) (gu_0 hw) hi dX11_hold_5 ?_
  refine gw_nm (fun x1 hx1 => ?_)
  have h := h x1 hx1
  refine gw_istore_n (lv' := [(1, .int x1), (0, .ref (gx_ad w 0))]) hC dX11_hold_6 rfl (by decide) rfl ?_
  refine gw_lconst (v := 0) hC dX11_hold_7 (by decide) ?_
  refine gw_lstore_n (lv' := [(2, .long 0), (1, .int x1), (0, .ref (gx_ad w 0))]) hC dX11_hold_8 rfl (by decide) rfl ?_
  refine gw_iconst (v := 0) hC dX11_hold_9 (by decide) ?_
  refine gw_istore (lv' := [(4, .int 0), (2, .long 0), (1, .int x1), (0, .ref (gx_ad w 0))]) hC dX11_hold_10 (by decide) rfl ?_
  obtain ⟨k5, h⟩ := h
  refine gw_sub (lv' := [(0, .ref (gx_ad w 0)), (1, .int x1), (2, .long 0), (4, .int 0)]) [3, 2, 1, 0] rfl ?_
  exact J_X11_hold_12 hC hw hR hr (fun M7 x2_6 h => by
      exact J_X11_hold_70 hC hw hR hr  M7 x2_6 h) k5 M x1 0 0 h
theorem c_X11_hold {l : Launch} {d : gx_D} {w : gx_V} {ca : Nat → ClassId} (hw : gx_isR ca w)   {M : gx_M}  {Q : Int32 → gx_M → Prop} (h : T_X11_hold M  Q) : gx_Mi l d w yX11_hold cX11_hold 5 .int rm_X11_hold [.ref (gx_ad w 0)] M Q := fun sz =>
  gx_of (own := RX11) (by decide +kernel) rfl (Nat.le_of_ble_eq_true rfl) (fun z hC hl hR hsz hr => by subst hsz; exact J_X11_hold hC hw hR hr  h) rfl
set_option maxRecDepth 20000 in
theorem J_X11_sweeps_83 {z : gx_X} {d : gx_D} {w : gx_V} {ca : Nat → ClassId} (hC : gx_C z d w cX11_sweeps 4 RX11) (hw : gx_isR ca w) (hR : gx_R z = rm_X11_sweeps) (hr : (gx_me z).sig.returnType = none)  {Q : gx_M → Prop} {K9 : gx_M → Int32 → Int32 → Int32 → Prop} (hK9 : ∀ (M : gx_M) (v1 : Int32) (v2 : Int32) (v3 : Int32), K9 M v1 v2 v3 → GW z w 4 (gx_Qv w Q (gx_s z).heap.size) M 9 [(0, .ref (gx_ad w 0)), (1, .int v1), (2, .int v2), (3, .int v3)] []) (M : gx_M) (v1 : Int32) (v2 : Int32) (v3 : Int32)  (h : T_X11_sweeps_83 Q K9 M v1 v2 v3) : GW z w 4 (gx_Qv w Q (gx_s z).heap.size) M 83 [(0, .ref (gx_ad w 0)), (1, .int v1), (2, .int v2), (3, .int v3)] [] := by
  unfold T_X11_sweeps_83 at h
  obtain ⟨x2, hx2⟩ : ∃ y : Int32, y = v3 + 1 := ⟨_, rfl⟩
  have h := h x2 hx2
  refine gw_iinc (v := x2) (lv' := [(3, .int x2), (0, .ref (gx_ad w 0)), (1, .int v1), (2, .int v2)]) hC dX11_sweeps_83 (k := 3) rfl (by rw [hx2]; rfl) (by decide) rfl ?_
  refine gw_goto (tgt := 9) hC dX11_sweeps_86 (by decide) ?_
  refine gw_sub (lv' := [(0, .ref (gx_ad w 0)), (1, .int v1), (2, .int v2), (3, .int x2)]) [1, 2, 3, 0] rfl ?_
  exact hK9 M v1 v2 x2 h
set_option maxRecDepth 20000 in
theorem J_X11_sweeps_9 {z : gx_X} {d : gx_D} {w : gx_V} {ca : Nat → ClassId} (hC : gx_C z d w cX11_sweeps 4 RX11) (hw : gx_isR ca w) (hR : gx_R z = rm_X11_sweeps) (hr : (gx_me z).sig.returnType = none)  {Q : gx_M → Prop}   : ∀ (n : Nat) (M : gx_M) (v1 : Int32) (v2 : Int32) (v3 : Int32) , T_X11_sweeps_9 Q  n M v1 v2 v3 → GW z w 4 (gx_Qv w Q (gx_s z).heap.size) M 9 [(0, .ref (gx_ad w 0)), (1, .int v1), (2, .int v2), (3, .int v3)] [] := by
  intro n
  induction n with
  | zero =>
    intro M v1 v2 v3 h
    exact h.elim
  | succ n ih =>
    intro M v1 v2 v3 h
    rw [T_X11_sweeps_9] at h
    refine gw_iload_n hC dX11_sweeps_9 rfl 3 rfl ?_
    refine gw_iload_n hC dX11_sweeps_10 rfl 1 rfl ?_
    refine gw_icmp_ge (tgt := 89) hC dX11_sweeps_11 (by decide) (fun hc => ?_) (fun hc => ?_)
    · have h := gx_t h hc
      exact gw_vret hC hr dX11_sweeps_89 h
    · have h := gx_f h hc
      refine gw_iload_n hC dX11_sweeps_14 rfl 3 rfl ?_
      refine gw_iload_n hC dX11_sweeps_15 rfl 2 rfl ?_
      refine gw_icmp_lt (tgt := 83) hC dX11_sweeps_16 (by decide) (fun hc => ?_) (fun hc => ?_)
      · have h := gx_t h hc
        exact J_X11_sweeps_83 hC hw hR hr ih M v1 v2 v3 h
      · have h := gx_f h hc
        refine gw_aload_n hC dX11_sweeps_19 rfl 0 rfl ?_
        refine gw_iload_n hC dX11_sweeps_20 rfl 3 rfl ?_
        refine gw_iload_n hC dX11_sweeps_21 rfl 2 rfl ?_
        refine gw_callv (gx_rV hC (n := 2) (As := [.int v3, .int v2]) (rest := []) (fun sz => c_X11_words hw  h sz) cv_X11_292_X11_words (by rw [hR]; exact rr_X11_sweeps_X11_words) ⟨(hw.lt (by decide)), _, _, _, _, gd_0 hw _, cl_X11.1⟩ rfl rfl (Nat.le_of_ble_eq_true rfl) dX11_sweeps_22) ?_
        intro M3 h
        refine gw_aload_n hC dX11_sweeps_25 rfl 0 rfl ?_
        refine gw_calli (gx_rV hC (n := 0) (As := []) (rest := []) (fun sz => c_X11_triggers hw  h sz) cv_X11_295_X11_triggers (by rw [hR]; exact rr_X11_sweeps_X11_triggers) ⟨(hw.lt (by decide)), _, _, _, _, gd_0 hw _, cl_X11.1⟩ rfl rfl (Nat.le_of_ble_eq_true rfl) dX11_sweeps_26) ?_
        intro r5 M4 h
        refine gw_if_eq (tgt := 83) hC dX11_sweeps_29 (by decide) (fun hc => ?_) (fun hc => ?_)
        · have h := gx_t h hc
          exact J_X11_sweeps_83 hC hw hR hr ih M4 v1 v2 v3 h
        · have h := gx_f h hc
          refine gw_iload_n hC dX11_sweeps_32 rfl 3 rfl ?_
          refine gw_aload_n hC dX11_sweeps_33 rfl 0 rfl ?_
          refine gw_get hC cl_X11 fg_X11_7 (hw.lt (by decide)) (gd_0 hw _) (gv_X11_0 _ _ _) dX11_sweeps_34 ?_
          refine gw_iconst (v := 3) hC dX11_sweeps_37 (by decide) ?_
          obtain ⟨hi, h⟩ := h
          refine gw_iald hC (hw.lt (by decide)) (gd_1 hw _) (gu_0 hw) hi dX11_sweeps_38 ?_
          refine gw_iadd hC dX11_sweeps_39 ?_
          refine gw_bipush (v := 20) hC dX11_sweeps_40 (by decide) ?_
          refine gw_aload_n hC dX11_sweeps_42 rfl 0 rfl ?_
          refine gw_get hC cl_X11 fg_X11_7 (hw.lt (by decide)) (gd_0 hw _) (gv_X11_0 _ _ _) dX11_sweeps_43 ?_
          refine gw_iconst (v := 2) hC dX11_sweeps_46 (by decide) ?_
          obtain ⟨hi, h⟩ := h
          refine gw_iald hC (hw.lt (by decide)) (gd_1 hw _) (gu_0 hw) hi dX11_sweeps_47 ?_
          refine gw_imul hC dX11_sweeps_48 ?_
          refine gw_iadd hC dX11_sweeps_49 ?_
          refine gw_aload_n hC dX11_sweeps_50 rfl 0 rfl ?_
          refine gw_calli (gx_rV hC (n := 0) (As := []) (rest := [.int ((v3 + (M4 1 (3 : Int32).toNatClampNeg)) + (20 * (M4 1 (2 : Int32).toNatClampNeg)))]) (fun sz => c_X11_hold hw  h sz) cv_X11_298_X11_hold (by rw [hR]; exact rr_X11_sweeps_X11_hold) ⟨(hw.lt (by decide)), _, _, _, _, gd_0 hw _, cl_X11.1⟩ rfl rfl (Nat.le_of_ble_eq_true rfl) dX11_sweeps_51) ?_
          intro r7 M6 h
          refine gw_iadd hC dX11_sweeps_54 ?_
          refine gw_nm (fun x8 hx8 => ?_)
          have h := h x8 hx8
          refine gw_istore_n (lv' := [(2, .int x8), (0, .ref (gx_ad w 0)), (1, .int v1), (3, .int v3)]) hC dX11_sweeps_55 rfl (by decide) rfl ?_
          refine gw_aload_n hC dX11_sweeps_56 rfl 1 rfl ?_
          refine gw_get hC cl_X11 fg_X11_76 (hw.lt (by decide)) (gd_0 hw _) (gv_X11_36 _ _ _) dX11_sweeps_57 ?_
          refine gw_aload_n hC dX11_sweeps_60 rfl 1 rfl ?_
          refine gw_get hC cl_X11 fg_X11_283 (hw.lt (by decide)) (gd_0 hw _) (gv_X11_35 _ _ _) dX11_sweeps_61 ?_
          refine gw_iload_n hC dX11_sweeps_64 rfl 3 rfl ?_
          refine gw_aload_n hC dX11_sweeps_65 rfl 1 rfl ?_
          refine gw_get hC cl_X11 fg_X11_7 (hw.lt (by decide)) (gd_0 hw _) (gv_X11_0 _ _ _) dX11_sweeps_66 ?_
          refine gw_iconst (v := 3) hC dX11_sweeps_69 (by decide) ?_
          obtain ⟨hi, h⟩ := h
          refine gw_iald hC (hw.lt (by decide)) (gd_1 hw _) (gu_0 hw) hi dX11_sweeps_70 ?_
          refine gw_iadd hC dX11_sweeps_71 ?_
          obtain ⟨hi, h⟩ := h
          refine gw_iast hC (hw.lt (by decide)) (gd_20 hw) (gu_0 hw) hi dX11_sweeps_72 ?_
          refine gw_nmM (fun M9 hM9 => ?_)
          have h := h M9 hM9
          refine gw_aload_n hC dX11_sweeps_73 rfl 1 rfl ?_
          refine gw_dup hC dX11_sweeps_74 rfl ?_
          refine gw_get hC cl_X11 fg_X11_283 (hw.lt (by decide)) (gd_0 hw _) (gv_X11_35 _ _ _) dX11_sweeps_75 ?_
          refine gw_iconst (v := 1) hC dX11_sweeps_78 (by decide) ?_
          refine gw_iadd hC dX11_sweeps_79 ?_
          refine gw_put hC cl_X11 fp_X11_283 (hw.lt (by decide)) (gd_0 hw _) ((gd_0 hw _).trans (gs_X11_35 _ _ _ _)) rfl rfl (by simp [fs_X11]) dX11_sweeps_80 ?_
          refine gw_nmM (fun M10 hM10 => ?_)
          have h := h M10 hM10
          refine gw_sub (lv' := [(0, .ref (gx_ad w 0)), (1, .int v1), (2, .int x8), (3, .int v3)]) [1, 2, 0, 3] rfl ?_
          exact J_X11_sweeps_83 hC hw hR hr ih M10 v1 x8 v3 h
set_option maxRecDepth 20000 in
theorem J_X11_sweeps {z : gx_X} {d : gx_D} {w : gx_V} {ca : Nat → ClassId} (hC : gx_C z d w cX11_sweeps 4 RX11) (hw : gx_isR ca w) (hR : gx_R z = rm_X11_sweeps) (hr : (gx_me z).sig.returnType = none)   {M : gx_M} {v1 : Int32} {Q : gx_M → Prop} (h : T_X11_sweeps M v1 Q) : GW z w 4 (gx_Qv w Q (gx_s z).heap.size) M 0 [(0, .ref (gx_ad w 0)), (1, .int v1)] [] := by
  unfold T_X11_sweeps at h
  refine gw_aload_n hC dX11_sweeps_0 rfl 0 rfl ?_
  refine gw_iconst (v := 0) hC dX11_sweeps_1 (by decide) ?_
  refine gw_put hC cl_X11 fp_X11_283 (hw.lt (by decide)) (gd_0 hw _) ((gd_0 hw _).trans (gs_X11_35 _ _ _ _)) rfl rfl (by simp [fs_X11]) dX11_sweeps_2 ?_
  refine gw_nmM (fun M1 hM1 => ?_)
  have h := h M1 hM1
  refine gw_iconst (v := 0) hC dX11_sweeps_5 (by decide) ?_
  refine gw_istore_n (lv' := [(2, .int 0), (0, .ref (gx_ad w 0)), (1, .int v1)]) hC dX11_sweeps_6 rfl (by decide) rfl ?_
  refine gw_iconst (v := 0) hC dX11_sweeps_7 (by decide) ?_
  refine gw_istore_n (lv' := [(3, .int 0), (2, .int 0), (0, .ref (gx_ad w 0)), (1, .int v1)]) hC dX11_sweeps_8 rfl (by decide) rfl ?_
  obtain ⟨k11, h⟩ := h
  refine gw_sub (lv' := [(0, .ref (gx_ad w 0)), (1, .int v1), (2, .int 0), (3, .int 0)]) [2, 3, 1, 0] rfl ?_
  exact J_X11_sweeps_9 hC hw hR hr  k11 M1 v1 0 0 h
theorem c_X11_sweeps {l : Launch} {d : gx_D} {w : gx_V} {ca : Nat → ClassId} (hw : gx_isR ca w)   {M : gx_M} {v1 : Int32} {Q : gx_M → Prop} (h : T_X11_sweeps M v1 Q) : gx_Mv l d w yX11_sweeps cX11_sweeps 4 rm_X11_sweeps [.ref (gx_ad w 0), .int v1] M Q := fun sz =>
  gx_of (own := RX11) (by decide +kernel) rfl (Nat.le_of_ble_eq_true rfl) (fun z hC hl hR hsz hr => by subst hsz; exact J_X11_sweeps hC hw hR hr  h) rfl
set_option maxRecDepth 20000 in
theorem J_X11_isEnd {z : gx_X} {d : gx_D} {w : gx_V} {ca : Nat → ClassId} (hC : gx_C z d w cX11_isEnd 1 RX11) (hw : gx_isR ca w) (hR : gx_R z = rm_X11_isEnd) (hr : (gx_me z).sig.returnType = (some .boolean))   {M : gx_M} {v0 : Int32} {Q : Int32 → Prop} (h : T_X11_isEnd M v0 Q) : GW z w 1 (gx_Qi w (fun r M1 => M1 = M ∧ Q r) (gx_s z).heap.size) M 0 [(0, .int v0)] [] := by
  unfold T_X11_isEnd at h
  refine gw_iload_n hC dX11_isEnd_0 rfl 0 rfl ?_
  refine gw_iconst (v := 1) hC dX11_isEnd_1 (by decide) ?_
  refine gw_sipush (v := 2000) hC dX11_isEnd_2 (by decide) ?_
  refine gw_calli (gx_rS hC (n := 3) (As := [.int v0, .int 1, .int 2000]) (rest := []) (fun sz => c_X11_in hw  h sz) cs_X11_97_X11_in (by rw [hR]; exact rr_X11_isEnd_X11_in) rfl rfl (Nat.le_of_ble_eq_true rfl) dX11_isEnd_5) ?_
  intro r1 m2 ⟨hm2, h⟩
  rw [hm2]
  obtain ⟨hz, h⟩ := h
  exact gw_zret hC hr (gx_nz hz) dX11_isEnd_8 ⟨rfl, h⟩
theorem c_X11_isEnd {l : Launch} {d : gx_D} {w : gx_V} {ca : Nat → ClassId} (hw : gx_isR ca w)   {M : gx_M} {v0 : Int32} {Q : Int32 → Prop} (h : T_X11_isEnd M v0 Q) : gx_Mi l d w yX11_isEnd cX11_isEnd 1 .boolean rm_X11_isEnd [.int v0] M (fun r M1 => M1 = M ∧ Q r) := fun sz =>
  gx_of (own := RX11) (by decide +kernel) rfl (Nat.le_of_ble_eq_true rfl) (fun z hC hl hR hsz hr => by subst hsz; exact J_X11_isEnd hC hw hR hr  h) rfl
set_option maxRecDepth 20000 in
theorem J_X11_swept {z : gx_X} {d : gx_D} {w : gx_V} {ca : Nat → ClassId} (hC : gx_C z d w cX11_swept 3 RX11) (hw : gx_isR ca w) (hR : gx_R z = rm_X11_swept) (hr : (gx_me z).sig.returnType = (some .int))   {M : gx_M} {v1 : Int32} {v2 : Int32} {Q : Int32 → gx_M → Prop} (h : T_X11_swept M v1 v2 Q) : GW z w 3 (gx_Qi w Q (gx_s z).heap.size) M 0 [(0, .ref (gx_ad w 0)), (1, .int v1), (2, .int v2)] [] := by
  unfold T_X11_swept at h
  refine gw_iload_n hC dX11_swept_0 rfl 1 rfl ?_
  refine gw_calli (gx_rS hC (n := 1) (As := [.int v1]) (rest := []) (fun sz => c_X11_isEnd hw  h sz) cs_X11_301_X11_isEnd (by rw [hR]; exact rr_X11_swept_X11_isEnd) rfl rfl (Nat.le_of_ble_eq_true rfl) dX11_swept_1) ?_
  intro r1 m2 ⟨hm2, h⟩
  rw [hm2]
  refine gw_if_eq (tgt := 12) hC dX11_swept_4 (by decide) (fun hc => ?_) (fun hc => ?_)
  · have h := gx_t h hc
    refine gw_iconst (v := (-1)) hC dX11_swept_12 (by decide) ?_
    exact gw_iret hC hr dX11_swept_13 h
  · have h := gx_f h hc
    refine gw_iload_n hC dX11_swept_7 rfl 2 rfl ?_
    refine gw_iconst (v := (-1)) hC dX11_swept_8 (by decide) ?_
    refine gw_icmp_ge (tgt := 14) hC dX11_swept_9 (by decide) (fun hc => ?_) (fun hc => ?_)
    · have h := gx_t h hc
      refine gw_aload_n hC dX11_swept_14 rfl 0 rfl ?_
      refine gw_callv (gx_rV hC (n := 0) (As := []) (rest := []) (fun sz => c_X11_laysBoth hw  h sz) cv_X11_304_X11_laysBoth (by rw [hR]; exact rr_X11_swept_X11_laysBoth) ⟨(hw.lt (by decide)), _, _, _, _, gd_0 hw _, cl_X11.1⟩ rfl rfl (Nat.le_of_ble_eq_true rfl) dX11_swept_15) ?_
      intro M3 h
      refine gw_aload_n hC dX11_swept_18 rfl 0 rfl ?_
      refine gw_iload_n hC dX11_swept_19 rfl 1 rfl ?_
      refine gw_callv (gx_rV hC (n := 1) (As := [.int v1]) (rest := []) (fun sz => c_X11_sweeps hw  h sz) cv_X11_307_X11_sweeps (by rw [hR]; exact rr_X11_swept_X11_sweeps) ⟨(hw.lt (by decide)), _, _, _, _, gd_0 hw _, cl_X11.1⟩ rfl rfl (Nat.le_of_ble_eq_true rfl) dX11_swept_20) ?_
      intro M4 h
      refine gw_iload_n hC dX11_swept_23 rfl 2 rfl ?_
      refine gw_iconst (v := (-1)) hC dX11_swept_24 (by decide) ?_
      refine gw_icmp_ne (tgt := 35) hC dX11_swept_25 (by decide) (fun hc => ?_) (fun hc => ?_)
      · have h := gx_f h hc
        refine gw_iload_n hC dX11_swept_35 rfl 2 rfl ?_
        refine gw_aload_n hC dX11_swept_36 rfl 0 rfl ?_
        refine gw_get hC cl_X11 fg_X11_283 (hw.lt (by decide)) (gd_0 hw _) (gv_X11_35 _ _ _) dX11_swept_37 ?_
        refine gw_icmp_ge (tgt := 52) hC dX11_swept_40 (by decide) (fun hc => ?_) (fun hc => ?_)
        · have h := gx_t h hc
          refine gw_iconst (v := (-1)) hC dX11_swept_52 (by decide) ?_
          exact gw_iret hC hr dX11_swept_53 h
        · have h := gx_f h hc
          refine gw_aload_n hC dX11_swept_43 rfl 0 rfl ?_
          refine gw_get hC cl_X11 fg_X11_76 (hw.lt (by decide)) (gd_0 hw _) (gv_X11_36 _ _ _) dX11_swept_44 ?_
          refine gw_iload_n hC dX11_swept_47 rfl 2 rfl ?_
          obtain ⟨hi, h⟩ := h
          refine gw_iald hC (hw.lt (by decide)) (gd_20 hw _) (gu_0 hw) hi dX11_swept_48 ?_
          refine gw_goto (tgt := 53) hC dX11_swept_49 (by decide) ?_
          exact gw_iret hC hr dX11_swept_53 h
      · have h := gx_t h hc
        refine gw_aload_n hC dX11_swept_28 rfl 0 rfl ?_
        refine gw_get hC cl_X11 fg_X11_283 (hw.lt (by decide)) (gd_0 hw _) (gv_X11_35 _ _ _) dX11_swept_29 ?_
        refine gw_goto (tgt := 53) hC dX11_swept_32 (by decide) ?_
        exact gw_iret hC hr dX11_swept_53 h
    · have h := gx_f h hc
      refine gw_iconst (v := (-1)) hC dX11_swept_12 (by decide) ?_
      exact gw_iret hC hr dX11_swept_13 h
theorem c_X11_swept {l : Launch} {d : gx_D} {w : gx_V} {ca : Nat → ClassId} (hw : gx_isR ca w)   {M : gx_M} {v1 : Int32} {v2 : Int32} {Q : Int32 → gx_M → Prop} (h : T_X11_swept M v1 v2 Q) : gx_Mi l d w yX11_swept cX11_swept 3 .int rm_X11_swept [.ref (gx_ad w 0), .int v1, .int v2] M Q := fun sz =>
  gx_of (own := RX11) (by decide +kernel) rfl (Nat.le_of_ble_eq_true rfl) (fun z hC hl hR hsz hr => by subst hsz; exact J_X11_swept hC hw hR hr  h) rfl
set_option maxRecDepth 20000 in
theorem J_X11_rowOf {z : gx_X} {d : gx_D} {w : gx_V} {ca : Nat → ClassId} (hC : gx_C z d w cX11_rowOf 4 RX11) (hw : gx_isR ca w) (hR : gx_R z = rm_X11_rowOf) (hr : (gx_me z).sig.returnType = (some .int))   {M : gx_M} {v1 : Int32} {v2 : Int32} {Q : Int32 → Prop} (h : T_X11_rowOf M v1 v2 Q) : GW z w 4 (gx_Qi w (fun r M1 => M1 = M ∧ Q r) (gx_s z).heap.size) M 0 [(0, .ref (gx_ad w 0)), (1, .int v1), (2, .int v2)] [] := by
  unfold T_X11_rowOf at h
  refine gw_aload_n hC dX11_rowOf_0 rfl 0 rfl ?_
  refine gw_get hC cl_X11 fg_X11_42 (hw.lt (by decide)) (gd_0 hw _) (gv_X11_11 _ _ _) dX11_rowOf_1 ?_
  refine gw_sipush (v := 2000) hC dX11_rowOf_4 (by decide) ?_
  refine gw_iload_n hC dX11_rowOf_7 rfl 1 rfl ?_
  refine gw_imul hC dX11_rowOf_8 ?_
  refine gw_iload_n hC dX11_rowOf_9 rfl 2 rfl ?_
  refine gw_iadd hC dX11_rowOf_10 ?_
  obtain ⟨hi, h⟩ := h
  refine gw_iald hC (hw.lt (by decide)) (gd_9 hw _) (gu_0 hw) hi dX11_rowOf_11 ?_
  refine gw_aload_n hC dX11_rowOf_12 rfl 0 rfl ?_
  refine gw_get hC cl_X11 fg_X11_7 (hw.lt (by decide)) (gd_0 hw _) (gv_X11_0 _ _ _) dX11_rowOf_13 ?_
  refine gw_bipush (v := 12) hC dX11_rowOf_16 (by decide) ?_
  refine gw_iload_n hC dX11_rowOf_18 rfl 1 rfl ?_
  refine gw_iadd hC dX11_rowOf_19 ?_
  obtain ⟨hi, h⟩ := h
  refine gw_iald hC (hw.lt (by decide)) (gd_1 hw _) (gu_0 hw) hi dX11_rowOf_20 ?_
  refine gw_calli (gx_rS hC (n := 2) (As := [.int (M 9 ((2000 * v1) + v2).toNatClampNeg), .int (M 1 (12 + v1).toNatClampNeg)]) (rest := []) (fun sz => c_X11_down hw  h sz) cs_X11_309_X11_down (by rw [hR]; exact rr_X11_rowOf_X11_down) rfl rfl (Nat.le_of_ble_eq_true rfl) dX11_rowOf_21) ?_
  intro r1 m2 ⟨hm2, h⟩
  rw [hm2]
  refine gw_bipush (v := 8) hC dX11_rowOf_24 (by decide) ?_
  refine gw_iadd hC dX11_rowOf_26 ?_
  refine gw_aload_n hC dX11_rowOf_27 rfl 0 rfl ?_
  refine gw_get hC cl_X11 fg_X11_7 (hw.lt (by decide)) (gd_0 hw _) (gv_X11_0 _ _ _) dX11_rowOf_28 ?_
  refine gw_bipush (v := 14) hC dX11_rowOf_31 (by decide) ?_
  refine gw_iload_n hC dX11_rowOf_33 rfl 1 rfl ?_
  refine gw_iadd hC dX11_rowOf_34 ?_
  obtain ⟨hi, h⟩ := h
  refine gw_iald hC (hw.lt (by decide)) (gd_1 hw _) (gu_0 hw) hi dX11_rowOf_35 ?_
  refine gw_iadd hC dX11_rowOf_36 ?_
  refine gw_nm (fun x3 hx3 => ?_)
  have h := h x3 hx3
  refine gw_istore_n (lv' := [(3, .int x3), (0, .ref (gx_ad w 0)), (1, .int v1), (2, .int v2)]) hC dX11_rowOf_37 rfl (by decide) rfl ?_
  refine gw_iload_n hC dX11_rowOf_38 rfl 0 rfl ?_
  refine gw_iconst (v := 0) hC dX11_rowOf_39 (by decide) ?_
  refine gw_bipush (v := 15) hC dX11_rowOf_40 (by decide) ?_
  refine gw_calli (gx_rS hC (n := 3) (As := [.int x3, .int 0, .int 15]) (rest := []) (fun sz => c_X11_in hw  h sz) cs_X11_97_X11_in (by rw [hR]; exact rr_X11_rowOf_X11_in) rfl rfl (Nat.le_of_ble_eq_true rfl) dX11_rowOf_42) ?_
  intro r4 m5 ⟨hm5, h⟩
  rw [hm5]
  refine gw_if_eq (tgt := 52) hC dX11_rowOf_45 (by decide) (fun hc => ?_) (fun hc => ?_)
  · have h := gx_t h hc
    refine gw_iconst (v := (-1)) hC dX11_rowOf_52 (by decide) ?_
    exact gw_iret hC hr dX11_rowOf_53 ⟨rfl, h⟩
  · have h := gx_f h hc
    refine gw_iload_n hC dX11_rowOf_48 rfl 0 rfl ?_
    refine gw_goto (tgt := 53) hC dX11_rowOf_49 (by decide) ?_
    exact gw_iret hC hr dX11_rowOf_53 ⟨rfl, h⟩
theorem c_X11_rowOf {l : Launch} {d : gx_D} {w : gx_V} {ca : Nat → ClassId} (hw : gx_isR ca w)   {M : gx_M} {v1 : Int32} {v2 : Int32} {Q : Int32 → Prop} (h : T_X11_rowOf M v1 v2 Q) : gx_Mi l d w yX11_rowOf cX11_rowOf 4 .int rm_X11_rowOf [.ref (gx_ad w 0), .int v1, .int v2] M (fun r M1 => M1 = M ∧ Q r) := fun sz =>
  gx_of (own := RX11) (by decide +kernel) rfl (Nat.le_of_ble_eq_true rfl) (fun z hC hl hR hsz hr => by subst hsz; exact J_X11_rowOf hC hw hR hr  h) rfl
set_option maxRecDepth 20000 in
theorem J_X11_turnOf {z : gx_X} {d : gx_D} {w : gx_V} {ca : Nat → ClassId} (hC : gx_C z d w cX11_turnOf 3 RX11) (hw : gx_isR ca w) (hR : gx_R z = rm_X11_turnOf) (hr : (gx_me z).sig.returnType = (some .int))   {M : gx_M} {v1 : Int32} {v2 : Int32} {Q : Int32 → Prop} (h : T_X11_turnOf M v1 v2 Q) : GW z w 3 (gx_Qi w (fun r M1 => M1 = M ∧ Q r) (gx_s z).heap.size) M 0 [(0, .ref (gx_ad w 0)), (1, .int v1), (2, .int v2)] [] := by
  unfold T_X11_turnOf at h
  refine gw_aload_n hC dX11_turnOf_0 rfl 0 rfl ?_
  refine gw_get hC cl_X11 fg_X11_7 (hw.lt (by decide)) (gd_0 hw _) (gv_X11_0 _ _ _) dX11_turnOf_1 ?_
  refine gw_iconst (v := 5) hC dX11_turnOf_4 (by decide) ?_
  obtain ⟨hi, h⟩ := h
  refine gw_iald hC (hw.lt (by decide)) (gd_1 hw _) (gu_0 hw) hi dX11_turnOf_5 ?_
  refine gw_iconst (v := 1) hC dX11_turnOf_6 (by decide) ?_
  refine gw_icmp_ne (tgt := 16) hC dX11_turnOf_7 (by decide) (fun hc => ?_) (fun hc => ?_)
  · have h := gx_f h hc
    refine gw_aload_n hC dX11_turnOf_16 rfl 0 rfl ?_
    refine gw_get hC cl_X11 fg_X11_7 (hw.lt (by decide)) (gd_0 hw _) (gv_X11_0 _ _ _) dX11_turnOf_17 ?_
    refine gw_iconst (v := 5) hC dX11_turnOf_20 (by decide) ?_
    obtain ⟨hi, h⟩ := h
    refine gw_iald hC (hw.lt (by decide)) (gd_1 hw _) (gu_0 hw) hi dX11_turnOf_21 ?_
    refine gw_iconst (v := 2) hC dX11_turnOf_22 (by decide) ?_
    refine gw_icmp_ne (tgt := 40) hC dX11_turnOf_23 (by decide) (fun hc => ?_) (fun hc => ?_)
    · have h := gx_f h hc
      refine gw_iconst (v := 0) hC dX11_turnOf_40 (by decide) ?_
      exact gw_iret hC hr dX11_turnOf_41 ⟨rfl, h⟩
    · have h := gx_t h hc
      refine gw_iload_n hC dX11_turnOf_26 rfl 2 rfl ?_
      refine gw_aload_n hC dX11_turnOf_27 rfl 0 rfl ?_
      refine gw_get hC cl_X11 fg_X11_7 (hw.lt (by decide)) (gd_0 hw _) (gv_X11_0 _ _ _) dX11_turnOf_28 ?_
      refine gw_bipush (v := 6) hC dX11_turnOf_31 (by decide) ?_
      obtain ⟨hi, h⟩ := h
      refine gw_iald hC (hw.lt (by decide)) (gd_1 hw _) (gu_0 hw) hi dX11_turnOf_33 ?_
      obtain ⟨hz, h⟩ := h
      refine gw_idiv hC dX11_turnOf_34 hz ?_
      refine gw_iconst (v := 2) hC dX11_turnOf_35 (by decide) ?_
      refine gw_irem hC dX11_turnOf_36 (by decide) ?_
      refine gw_goto (tgt := 41) hC dX11_turnOf_37 (by decide) ?_
      exact gw_iret hC hr dX11_turnOf_41 ⟨rfl, h⟩
  · have h := gx_t h hc
    refine gw_iload_n hC dX11_turnOf_10 rfl 1 rfl ?_
    refine gw_iconst (v := 2) hC dX11_turnOf_11 (by decide) ?_
    refine gw_irem hC dX11_turnOf_12 (by decide) ?_
    refine gw_goto (tgt := 41) hC dX11_turnOf_13 (by decide) ?_
    exact gw_iret hC hr dX11_turnOf_41 ⟨rfl, h⟩
theorem c_X11_turnOf {l : Launch} {d : gx_D} {w : gx_V} {ca : Nat → ClassId} (hw : gx_isR ca w)   {M : gx_M} {v1 : Int32} {v2 : Int32} {Q : Int32 → Prop} (h : T_X11_turnOf M v1 v2 Q) : gx_Mi l d w yX11_turnOf cX11_turnOf 3 .int rm_X11_turnOf [.ref (gx_ad w 0), .int v1, .int v2] M (fun r M1 => M1 = M ∧ Q r) := fun sz =>
  gx_of (own := RX11) (by decide +kernel) rfl (Nat.le_of_ble_eq_true rfl) (fun z hC hl hR hsz hr => by subst hsz; exact J_X11_turnOf hC hw hR hr  h) rfl
set_option maxRecDepth 20000 in
theorem J_X11_dotOf {z : gx_X} {d : gx_D} {w : gx_V} {ca : Nat → ClassId} (hC : gx_C z d w cX11_dotOf 6 RX11) (hw : gx_isR ca w) (hR : gx_R z = rm_X11_dotOf) (hr : (gx_me z).sig.returnType = (some .int))   {M : gx_M} {v1 : Int32} {v2 : Int32} {v3 : Int32} {Q : Int32 → Prop} (h : T_X11_dotOf M v1 v2 v3 Q) : GW z w 6 (gx_Qi w (fun r M1 => M1 = M ∧ Q r) (gx_s z).heap.size) M 0 [(0, .ref (gx_ad w 0)), (1, .int v1), (2, .int v2), (3, .int v3)] [] := by
  unfold T_X11_dotOf at h
  refine gw_aload_n hC dX11_dotOf_0 rfl 0 rfl ?_
  refine gw_get hC cl_X11 fg_X11_7 (hw.lt (by decide)) (gd_0 hw _) (gv_X11_0 _ _ _) dX11_dotOf_1 ?_
  refine gw_iconst (v := 5) hC dX11_dotOf_4 (by decide) ?_
  obtain ⟨hi, h⟩ := h
  refine gw_iald hC (hw.lt (by decide)) (gd_1 hw _) (gu_0 hw) hi dX11_dotOf_5 ?_
  refine gw_iconst (v := 3) hC dX11_dotOf_6 (by decide) ?_
  refine gw_icmp_ne (tgt := 77) hC dX11_dotOf_7 (by decide) (fun hc => ?_) (fun hc => ?_)
  · have h := gx_f h hc
    refine gw_aload_n hC dX11_dotOf_77 rfl 0 rfl ?_
    refine gw_aload_n hC dX11_dotOf_78 rfl 0 rfl ?_
    refine gw_iload_n hC dX11_dotOf_79 rfl 1 rfl ?_
    refine gw_iload_n hC dX11_dotOf_80 rfl 3 rfl ?_
    refine gw_calli (gx_rV hC (n := 2) (As := [.int v1, .int v3]) (rest := [.ref (gx_ad w 0)]) (fun sz => c_X11_turnOf hw  h sz) cv_X11_315_X11_turnOf (by rw [hR]; exact rr_X11_dotOf_X11_turnOf) ⟨(hw.lt (by decide)), _, _, _, _, gd_0 hw _, cl_X11.1⟩ rfl rfl (Nat.le_of_ble_eq_true rfl) dX11_dotOf_81) ?_
    intro r1 m2 ⟨hm2, h⟩
    rw [hm2]
    refine gw_iload_n hC dX11_dotOf_84 rfl 3 rfl ?_
    refine gw_calli (gx_rV hC (n := 2) (As := [.int r1, .int v3]) (rest := []) (fun sz => c_X11_rowOf hw  h sz) cv_X11_312_X11_rowOf (by rw [hR]; exact rr_X11_dotOf_X11_rowOf) ⟨(hw.lt (by decide)), _, _, _, _, gd_0 hw _, cl_X11.1⟩ rfl rfl (Nat.le_of_ble_eq_true rfl) dX11_dotOf_85) ?_
    intro r3 m4 ⟨hm4, h⟩
    rw [hm4]
    refine gw_istore (lv' := [(4, .int r3), (0, .ref (gx_ad w 0)), (1, .int v1), (2, .int v2), (3, .int v3)]) hC dX11_dotOf_88 (by decide) rfl ?_
    refine gw_iload hC dX11_dotOf_90 0 rfl ?_
    refine gw_iconst (v := (-1)) hC dX11_dotOf_92 (by decide) ?_
    refine gw_icmp_ne (tgt := 100) hC dX11_dotOf_93 (by decide) (fun hc => ?_) (fun hc => ?_)
    · have h := gx_f h hc
      refine gw_bipush (v := 16) hC dX11_dotOf_100 (by decide) ?_
      refine gw_iload_n hC dX11_dotOf_102 rfl 3 rfl ?_
      refine gw_imul hC dX11_dotOf_103 ?_
      refine gw_iload hC dX11_dotOf_104 0 rfl ?_
      refine gw_iadd hC dX11_dotOf_106 ?_
      exact gw_iret hC hr dX11_dotOf_107 ⟨rfl, h⟩
    · have h := gx_t h hc
      refine gw_iconst (v := (-1)) hC dX11_dotOf_96 (by decide) ?_
      refine gw_goto (tgt := 107) hC dX11_dotOf_97 (by decide) ?_
      exact gw_iret hC hr dX11_dotOf_107 ⟨rfl, h⟩
  · have h := gx_t h hc
    refine gw_aload_n hC dX11_dotOf_10 rfl 0 rfl ?_
    refine gw_get hC cl_X11 fg_X11_42 (hw.lt (by decide)) (gd_0 hw _) (gv_X11_11 _ _ _) dX11_dotOf_11 ?_
    refine gw_iload_n hC dX11_dotOf_14 rfl 3 rfl ?_
    obtain ⟨hi, h⟩ := h
    refine gw_iald hC (hw.lt (by decide)) (gd_9 hw _) (gu_0 hw) hi dX11_dotOf_15 ?_
    refine gw_aload_n hC dX11_dotOf_16 rfl 0 rfl ?_
    refine gw_get hC cl_X11 fg_X11_7 (hw.lt (by decide)) (gd_0 hw _) (gv_X11_0 _ _ _) dX11_dotOf_17 ?_
    refine gw_bipush (v := 12) hC dX11_dotOf_20 (by decide) ?_
    obtain ⟨hi, h⟩ := h
    refine gw_iald hC (hw.lt (by decide)) (gd_1 hw _) (gu_0 hw) hi dX11_dotOf_22 ?_
    refine gw_calli (gx_rS hC (n := 2) (As := [.int (M 9 v3.toNatClampNeg), .int (M 1 (12 : Int32).toNatClampNeg)]) (rest := []) (fun sz => c_X11_down hw  h sz) cs_X11_309_X11_down (by rw [hR]; exact rr_X11_dotOf_X11_down) rfl rfl (Nat.le_of_ble_eq_true rfl) dX11_dotOf_23) ?_
    intro r5 m6 ⟨hm6, h⟩
    rw [hm6]
    refine gw_bipush (v := 10) hC dX11_dotOf_26 (by decide) ?_
    refine gw_iadd hC dX11_dotOf_28 ?_
    refine gw_aload_n hC dX11_dotOf_29 rfl 0 rfl ?_
    refine gw_get hC cl_X11 fg_X11_7 (hw.lt (by decide)) (gd_0 hw _) (gv_X11_0 _ _ _) dX11_dotOf_30 ?_
    refine gw_bipush (v := 14) hC dX11_dotOf_33 (by decide) ?_
    obtain ⟨hi, h⟩ := h
    refine gw_iald hC (hw.lt (by decide)) (gd_1 hw _) (gu_0 hw) hi dX11_dotOf_35 ?_
    refine gw_iadd hC dX11_dotOf_36 ?_
    refine gw_nm (fun x7 hx7 => ?_)
    have h := h x7 hx7
    refine gw_istore (lv' := [(4, .int x7), (0, .ref (gx_ad w 0)), (1, .int v1), (2, .int v2), (3, .int v3)]) hC dX11_dotOf_37 (by decide) rfl ?_
    refine gw_aload_n hC dX11_dotOf_39 rfl 1 rfl ?_
    refine gw_iconst (v := 1) hC dX11_dotOf_40 (by decide) ?_
    refine gw_iload_n hC dX11_dotOf_41 rfl 4 rfl ?_
    refine gw_calli (gx_rV hC (n := 2) (As := [.int 1, .int v3]) (rest := []) (fun sz => c_X11_rowOf hw  h sz) cv_X11_312_X11_rowOf (by rw [hR]; exact rr_X11_dotOf_X11_rowOf) ⟨(hw.lt (by decide)), _, _, _, _, gd_0 hw _, cl_X11.1⟩ rfl rfl (Nat.le_of_ble_eq_true rfl) dX11_dotOf_42) ?_
    intro r8 m9 ⟨hm9, h⟩
    rw [hm9]
    refine gw_istore (lv' := [(5, .int r8), (4, .int x7), (0, .ref (gx_ad w 0)), (1, .int v1), (2, .int v2), (3, .int v3)]) hC dX11_dotOf_45 (by decide) rfl ?_
    refine gw_iload hC dX11_dotOf_47 1 rfl ?_
    refine gw_iconst (v := 0) hC dX11_dotOf_49 (by decide) ?_
    refine gw_bipush (v := 19) hC dX11_dotOf_50 (by decide) ?_
    refine gw_calli (gx_rS hC (n := 3) (As := [.int x7, .int 0, .int 19]) (rest := []) (fun sz => c_X11_in hw  h sz) cs_X11_97_X11_in (by rw [hR]; exact rr_X11_dotOf_X11_in) rfl rfl (Nat.le_of_ble_eq_true rfl) dX11_dotOf_52) ?_
    intro r10 m11 ⟨hm11, h⟩
    rw [hm11]
    refine gw_if_eq (tgt := 75) hC dX11_dotOf_55 (by decide) (fun hc => ?_) (fun hc => ?_)
    · have h := gx_t h hc
      refine gw_iconst (v := (-1)) hC dX11_dotOf_75 (by decide) ?_
      exact gw_iret hC hr dX11_dotOf_76 ⟨rfl, h⟩
    · have h := gx_f h hc
      refine gw_iload hC dX11_dotOf_58 0 rfl ?_
      refine gw_iconst (v := (-1)) hC dX11_dotOf_60 (by decide) ?_
      refine gw_icmp_eq (tgt := 75) hC dX11_dotOf_61 (by decide) (fun hc => ?_) (fun hc => ?_)
      · have h := gx_t h hc
        refine gw_iconst (v := (-1)) hC dX11_dotOf_75 (by decide) ?_
        exact gw_iret hC hr dX11_dotOf_76 ⟨rfl, h⟩
      · have h := gx_f h hc
        refine gw_bipush (v := 16) hC dX11_dotOf_64 (by decide) ?_
        refine gw_iload hC dX11_dotOf_66 1 rfl ?_
        refine gw_imul hC dX11_dotOf_68 ?_
        refine gw_iload hC dX11_dotOf_69 0 rfl ?_
        refine gw_iadd hC dX11_dotOf_71 ?_
        refine gw_goto (tgt := 76) hC dX11_dotOf_72 (by decide) ?_
        exact gw_iret hC hr dX11_dotOf_76 ⟨rfl, h⟩
theorem c_X11_dotOf {l : Launch} {d : gx_D} {w : gx_V} {ca : Nat → ClassId} (hw : gx_isR ca w)   {M : gx_M} {v1 : Int32} {v2 : Int32} {v3 : Int32} {Q : Int32 → Prop} (h : T_X11_dotOf M v1 v2 v3 Q) : gx_Mi l d w yX11_dotOf cX11_dotOf 6 .int rm_X11_dotOf [.ref (gx_ad w 0), .int v1, .int v2, .int v3] M (fun r M1 => M1 = M ∧ Q r) := fun sz =>
  gx_of (own := RX11) (by decide +kernel) rfl (Nat.le_of_ble_eq_true rfl) (fun z hC hl hR hsz hr => by subst hsz; exact J_X11_dotOf hC hw hR hr  h) rfl
set_option maxRecDepth 20000 in
theorem J_X11_draws_2 {z : gx_X} {d : gx_D} {w : gx_V} {ca : Nat → ClassId} (hC : gx_C z d w cX11_draws 6 RX11) (hw : gx_isR ca w) (hR : gx_R z = rm_X11_draws) (hr : (gx_me z).sig.returnType = none)  {Q : gx_M → Prop} {K22 : gx_M → Int32 → Prop} (hK22 : ∀ (M : gx_M) (v1 : Int32), K22 M v1 → GW z w 6 (gx_Qv w Q (gx_s z).heap.size) M 22 [(0, .ref (gx_ad w 0)), (1, .int v1)] []) : ∀ (n : Nat) (M : gx_M) (v1 : Int32) (v2 : Int32) , T_X11_draws_2 Q K22 n M v1 v2 → GW z w 6 (gx_Qv w Q (gx_s z).heap.size) M 2 [(0, .ref (gx_ad w 0)), (1, .int v1), (2, .int v2)] [] := by
  intro n
  induction n with
  | zero =>
    intro M v1 v2 h
    exact h.elim
  | succ n ih =>
    intro M v1 v2 h
    rw [T_X11_draws_2] at h
    refine gw_iload_n hC dX11_draws_2 rfl 2 rfl ?_
    refine gw_sipush (v := 320) hC dX11_draws_3 (by decide) ?_
    refine gw_icmp_ge (tgt := 22) hC dX11_draws_6 (by decide) (fun hc => ?_) (fun hc => ?_)
    · have h := gx_t h hc
      refine gw_sub (lv' := [(0, .ref (gx_ad w 0)), (1, .int v1)]) [0, 1] rfl ?_
      exact hK22 M v1 h
    · have h := gx_f h hc
      refine gw_aload_n hC dX11_draws_9 rfl 0 rfl ?_
      refine gw_get hC cl_X11 fg_X11_79 (hw.lt (by decide)) (gd_0 hw _) (gv_X11_37 _ _ _) dX11_draws_10 ?_
      refine gw_iload_n hC dX11_draws_13 rfl 2 rfl ?_
      refine gw_iconst (v := 0) hC dX11_draws_14 (by decide) ?_
      obtain ⟨hi, h⟩ := h
      refine gw_iast hC (hw.lt (by decide)) (gd_21 hw) (gu_0 hw) hi dX11_draws_15 ?_
      refine gw_nmM (fun M1 hM1 => ?_)
      have h := h M1 hM1
      obtain ⟨x2, hx2⟩ : ∃ y : Int32, y = v2 + 1 := ⟨_, rfl⟩
      have h := h x2 hx2
      refine gw_iinc (v := x2) (lv' := [(2, .int x2), (0, .ref (gx_ad w 0)), (1, .int v1)]) hC dX11_draws_16 (k := 2) rfl (by rw [hx2]; rfl) (by decide) rfl ?_
      refine gw_goto (tgt := 2) hC dX11_draws_19 (by decide) ?_
      refine gw_sub (lv' := [(0, .ref (gx_ad w 0)), (1, .int v1), (2, .int x2)]) [1, 2, 0] rfl ?_
      exact ih M1 v1 x2 h
set_option maxRecDepth 20000 in
theorem J_X11_draws_34 {z : gx_X} {d : gx_D} {w : gx_V} {ca : Nat → ClassId} (hC : gx_C z d w cX11_draws 6 RX11) (hw : gx_isR ca w) (hR : gx_R z = rm_X11_draws) (hr : (gx_me z).sig.returnType = none)  {Q : gx_M → Prop} {K79 : gx_M → Int32 → Int32 → Prop} (hK79 : ∀ (M : gx_M) (v1 : Int32) (v2 : Int32), K79 M v1 v2 → GW z w 6 (gx_Qv w Q (gx_s z).heap.size) M 79 [(0, .ref (gx_ad w 0)), (1, .int v1), (2, .int v2)] []) : ∀ (n : Nat) (M : gx_M) (v1 : Int32) (v2 : Int32) (v3 : Int32) , T_X11_draws_34 Q K79 n M v1 v2 v3 → GW z w 6 (gx_Qv w Q (gx_s z).heap.size) M 34 [(0, .ref (gx_ad w 0)), (1, .int v1), (2, .int v2), (3, .int v3)] [] := by
  intro n
  induction n with
  | zero =>
    intro M v1 v2 v3 h
    exact h.elim
  | succ n ih =>
    intro M v1 v2 v3 h
    rw [T_X11_draws_34] at h
    refine gw_iload_n hC dX11_draws_34 rfl 3 rfl ?_
    refine gw_sipush (v := 320) hC dX11_draws_35 (by decide) ?_
    refine gw_icmp_ge (tgt := 79) hC dX11_draws_38 (by decide) (fun hc => ?_) (fun hc => ?_)
    · have h := gx_t h hc
      refine gw_sub (lv' := [(0, .ref (gx_ad w 0)), (1, .int v1), (2, .int v2)]) [0, 1, 2] rfl ?_
      exact hK79 M v1 v2 h
    · have h := gx_f h hc
      refine gw_aload_n hC dX11_draws_41 rfl 0 rfl ?_
      refine gw_get hC cl_X11 fg_X11_76 (hw.lt (by decide)) (gd_0 hw _) (gv_X11_36 _ _ _) dX11_draws_42 ?_
      refine gw_iload_n hC dX11_draws_45 rfl 2 rfl ?_
      obtain ⟨hi, h⟩ := h
      refine gw_iald hC (hw.lt (by decide)) (gd_20 hw _) (gu_0 hw) hi dX11_draws_46 ?_
      refine gw_iload_n hC dX11_draws_47 rfl 1 rfl ?_
      refine gw_icmp_ge (tgt := 79) hC dX11_draws_48 (by decide) (fun hc => ?_) (fun hc => ?_)
      · have h := gx_t h hc
        refine gw_sub (lv' := [(0, .ref (gx_ad w 0)), (1, .int v1), (2, .int v2)]) [0, 1, 2] rfl ?_
        exact hK79 M v1 v2 h
      · have h := gx_f h hc
        refine gw_aload_n hC dX11_draws_51 rfl 0 rfl ?_
        refine gw_get hC cl_X11 fg_X11_79 (hw.lt (by decide)) (gd_0 hw _) (gv_X11_37 _ _ _) dX11_draws_52 ?_
        refine gw_iload_n hC dX11_draws_55 rfl 3 rfl ?_
        refine gw_aload_n hC dX11_draws_56 rfl 0 rfl ?_
        refine gw_get hC cl_X11 fg_X11_79 (hw.lt (by decide)) (gd_0 hw _) (gv_X11_37 _ _ _) dX11_draws_57 ?_
        refine gw_iload_n hC dX11_draws_60 rfl 3 rfl ?_
        obtain ⟨hi, h⟩ := h
        refine gw_iald hC (hw.lt (by decide)) (gd_21 hw _) (gu_0 hw) hi dX11_draws_61 ?_
        refine gw_aload_n hC dX11_draws_62 rfl 0 rfl ?_
        refine gw_get hC cl_X11 fg_X11_7 (hw.lt (by decide)) (gd_0 hw _) (gv_X11_0 _ _ _) dX11_draws_63 ?_
        refine gw_iconst (v := 4) hC dX11_draws_66 (by decide) ?_
        obtain ⟨hi, h⟩ := h
        refine gw_iald hC (hw.lt (by decide)) (gd_1 hw _) (gu_0 hw) hi dX11_draws_67 ?_
        refine gw_imul hC dX11_draws_68 ?_
        refine gw_bipush (v := 16) hC dX11_draws_69 (by decide) ?_
        refine gw_idiv hC dX11_draws_71 (by decide) ?_
        obtain ⟨hi, h⟩ := h
        refine gw_iast hC (hw.lt (by decide)) (gd_21 hw) (gu_0 hw) hi dX11_draws_72 ?_
        refine gw_nmM (fun M6 hM6 => ?_)
        have h := h M6 hM6
        obtain ⟨x7, hx7⟩ : ∃ y : Int32, y = v3 + 1 := ⟨_, rfl⟩
        have h := h x7 hx7
        refine gw_iinc (v := x7) (lv' := [(3, .int x7), (0, .ref (gx_ad w 0)), (1, .int v1), (2, .int v2)]) hC dX11_draws_73 (k := 3) rfl (by rw [hx7]; rfl) (by decide) rfl ?_
        refine gw_goto (tgt := 34) hC dX11_draws_76 (by decide) ?_
        refine gw_sub (lv' := [(0, .ref (gx_ad w 0)), (1, .int v1), (2, .int v2), (3, .int x7)]) [1, 2, 3, 0] rfl ?_
        exact ih M6 v1 v2 x7 h
set_option maxRecDepth 20000 in
theorem J_X11_draws_169 {z : gx_X} {d : gx_D} {w : gx_V} {ca : Nat → ClassId} (hC : gx_C z d w cX11_draws 6 RX11) (hw : gx_isR ca w) (hR : gx_R z = rm_X11_draws) (hr : (gx_me z).sig.returnType = none)  {Q : gx_M → Prop} {K81 : gx_M → Int32 → Int32 → Int32 → Prop} (hK81 : ∀ (M : gx_M) (v1 : Int32) (v2 : Int32) (v3 : Int32), K81 M v1 v2 v3 → GW z w 6 (gx_Qv w Q (gx_s z).heap.size) M 81 [(0, .ref (gx_ad w 0)), (1, .int v1), (2, .int v2), (3, .int v3)] []) (M : gx_M) (v1 : Int32) (v2 : Int32) (v3 : Int32)  (h : T_X11_draws_169 Q K81 M v1 v2 v3) : GW z w 6 (gx_Qv w Q (gx_s z).heap.size) M 169 [(0, .ref (gx_ad w 0)), (1, .int v1), (2, .int v2), (3, .int v3)] [] := by
  unfold T_X11_draws_169 at h
  obtain ⟨x13, hx13⟩ : ∃ y : Int32, y = v3 + 1 := ⟨_, rfl⟩
  have h := h x13 hx13
  refine gw_iinc (v := x13) (lv' := [(3, .int x13), (0, .ref (gx_ad w 0)), (1, .int v1), (2, .int v2)]) hC dX11_draws_169 (k := 3) rfl (by rw [hx13]; rfl) (by decide) rfl ?_
  refine gw_goto (tgt := 81) hC dX11_draws_172 (by decide) ?_
  refine gw_sub (lv' := [(0, .ref (gx_ad w 0)), (1, .int v1), (2, .int v2), (3, .int x13)]) [1, 2, 3, 0] rfl ?_
  exact hK81 M v1 v2 x13 h
set_option maxRecDepth 20000 in
theorem J_X11_draws_168 {z : gx_X} {d : gx_D} {w : gx_V} {ca : Nat → ClassId} (hC : gx_C z d w cX11_draws 6 RX11) (hw : gx_isR ca w) (hR : gx_R z = rm_X11_draws) (hr : (gx_me z).sig.returnType = none)  {Q : gx_M → Prop} {K81 : gx_M → Int32 → Int32 → Int32 → Prop} (hK81 : ∀ (M : gx_M) (v1 : Int32) (v2 : Int32) (v3 : Int32), K81 M v1 v2 v3 → GW z w 6 (gx_Qv w Q (gx_s z).heap.size) M 81 [(0, .ref (gx_ad w 0)), (1, .int v1), (2, .int v2), (3, .int v3)] []) (M : gx_M) (t0 : Int32) (t1 : Int32) (v1 : Int32) (v2 : Int32) (v3 : Int32)  (h : T_X11_draws_168 Q K81 M t0 t1 v1 v2 v3) : GW z w 6 (gx_Qv w Q (gx_s z).heap.size) M 168 [(0, .ref (gx_ad w 0)), (1, .int v1), (2, .int v2), (3, .int v3)] [.int t0, .int t1, .ref (gx_ad w 21)] := by
  unfold T_X11_draws_168 at h
  obtain ⟨hi, h⟩ := h
  refine gw_iast hC (hw.lt (by decide)) (gd_21 hw) (gu_0 hw) hi dX11_draws_168 ?_
  refine gw_nmM (fun M14 hM14 => ?_)
  have h := h M14 hM14
  exact J_X11_draws_169 hC hw hR hr hK81 M14 v1 v2 v3 h
set_option maxRecDepth 20000 in
theorem J_X11_draws_122 {z : gx_X} {d : gx_D} {w : gx_V} {ca : Nat → ClassId} (hC : gx_C z d w cX11_draws 6 RX11) (hw : gx_isR ca w) (hR : gx_R z = rm_X11_draws) (hr : (gx_me z).sig.returnType = none)  {Q : gx_M → Prop} {K81 : gx_M → Int32 → Int32 → Int32 → Prop} (hK81 : ∀ (M : gx_M) (v1 : Int32) (v2 : Int32) (v3 : Int32), K81 M v1 v2 v3 → GW z w 6 (gx_Qv w Q (gx_s z).heap.size) M 81 [(0, .ref (gx_ad w 0)), (1, .int v1), (2, .int v2), (3, .int v3)] []) (M : gx_M) (t0 : Int32) (v1 : Int32) (v2 : Int32) (v3 : Int32)  (h : T_X11_draws_122 Q K81 M t0 v1 v2 v3) : GW z w 6 (gx_Qv w Q (gx_s z).heap.size) M 122 [(0, .ref (gx_ad w 0)), (1, .int v1), (2, .int v2), (3, .int v3)] [.int t0] := by
  unfold T_X11_draws_122 at h
  refine gw_istore (lv' := [(5, .int t0), (0, .ref (gx_ad w 0)), (1, .int v1), (2, .int v2), (3, .int v3)]) hC dX11_draws_122 (by decide) rfl ?_
  refine gw_iload hC dX11_draws_124 0 rfl ?_
  refine gw_iconst (v := (-1)) hC dX11_draws_126 (by decide) ?_
  refine gw_icmp_eq (tgt := 169) hC dX11_draws_127 (by decide) (fun hc => ?_) (fun hc => ?_)
  · have h := gx_t h hc
    refine gw_sub (lv' := [(0, .ref (gx_ad w 0)), (1, .int v1), (2, .int v2), (3, .int v3)]) [1, 2, 3, 4] rfl ?_
    exact J_X11_draws_169 hC hw hR hr hK81 M v1 v2 v3 h
  · have h := gx_f h hc
    refine gw_aload_n hC dX11_draws_130 rfl 1 rfl ?_
    refine gw_get hC cl_X11 fg_X11_79 (hw.lt (by decide)) (gd_0 hw _) (gv_X11_37 _ _ _) dX11_draws_131 ?_
    refine gw_iload hC dX11_draws_134 0 rfl ?_
    refine gw_aload_n hC dX11_draws_136 rfl 1 rfl ?_
    refine gw_get hC cl_X11 fg_X11_79 (hw.lt (by decide)) (gd_0 hw _) (gv_X11_37 _ _ _) dX11_draws_137 ?_
    refine gw_iload hC dX11_draws_140 0 rfl ?_
    obtain ⟨hi, h⟩ := h
    refine gw_iald hC (hw.lt (by decide)) (gd_21 hw _) (gu_0 hw) hi dX11_draws_142 ?_
    refine gw_bipush (v := 16) hC dX11_draws_143 (by decide) ?_
    refine gw_iadd hC dX11_draws_145 ?_
    refine gw_sipush (v := 999) hC dX11_draws_146 (by decide) ?_
    refine gw_icmp_le (tgt := 158) hC dX11_draws_149 (by decide) (fun hc => ?_) (fun hc => ?_)
    · have h := gx_t h hc
      refine gw_aload_n hC dX11_draws_158 rfl 1 rfl ?_
      refine gw_get hC cl_X11 fg_X11_79 (hw.lt (by decide)) (gd_0 hw _) (gv_X11_37 _ _ _) dX11_draws_159 ?_
      refine gw_iload hC dX11_draws_162 0 rfl ?_
      obtain ⟨hi, h⟩ := h
      refine gw_iald hC (hw.lt (by decide)) (gd_21 hw _) (gu_0 hw) hi dX11_draws_164 ?_
      refine gw_bipush (v := 16) hC dX11_draws_165 (by decide) ?_
      refine gw_iadd hC dX11_draws_167 ?_
      refine gw_sub (lv' := [(0, .ref (gx_ad w 0)), (1, .int v1), (2, .int v2), (3, .int v3)]) [1, 2, 3, 4] rfl ?_
      exact J_X11_draws_168 hC hw hR hr hK81 M ((M 21 t0.toNatClampNeg) + 16) t0 v1 v2 v3 h
    · have h := gx_f h hc
      refine gw_sipush (v := 999) hC dX11_draws_152 (by decide) ?_
      refine gw_goto (tgt := 168) hC dX11_draws_155 (by decide) ?_
      refine gw_sub (lv' := [(0, .ref (gx_ad w 0)), (1, .int v1), (2, .int v2), (3, .int v3)]) [1, 2, 3, 4] rfl ?_
      exact J_X11_draws_168 hC hw hR hr hK81 M 999 t0 v1 v2 v3 h
set_option maxRecDepth 20000 in
theorem J_X11_draws_81 {z : gx_X} {d : gx_D} {w : gx_V} {ca : Nat → ClassId} (hC : gx_C z d w cX11_draws 6 RX11) (hw : gx_isR ca w) (hR : gx_R z = rm_X11_draws) (hr : (gx_me z).sig.returnType = none)  {Q : gx_M → Prop} {K175 : gx_M → Int32 → Int32 → Prop} (hK175 : ∀ (M : gx_M) (v1 : Int32) (v2 : Int32), K175 M v1 v2 → GW z w 6 (gx_Qv w Q (gx_s z).heap.size) M 175 [(0, .ref (gx_ad w 0)), (1, .int v1), (2, .int v2)] []) : ∀ (n : Nat) (M : gx_M) (v1 : Int32) (v2 : Int32) (v3 : Int32) , T_X11_draws_81 Q K175 n M v1 v2 v3 → GW z w 6 (gx_Qv w Q (gx_s z).heap.size) M 81 [(0, .ref (gx_ad w 0)), (1, .int v1), (2, .int v2), (3, .int v3)] [] := by
  intro n
  induction n with
  | zero =>
    intro M v1 v2 v3 h
    exact h.elim
  | succ n ih =>
    intro M v1 v2 v3 h
    rw [T_X11_draws_81] at h
    refine gw_iload_n hC dX11_draws_81 rfl 3 rfl ?_
    refine gw_bipush (v := 20) hC dX11_draws_82 (by decide) ?_
    refine gw_icmp_ge (tgt := 175) hC dX11_draws_84 (by decide) (fun hc => ?_) (fun hc => ?_)
    · have h := gx_t h hc
      refine gw_sub (lv' := [(0, .ref (gx_ad w 0)), (1, .int v1), (2, .int v2)]) [0, 1, 2] rfl ?_
      exact hK175 M v1 v2 h
    · have h := gx_f h hc
      refine gw_aload_n hC dX11_draws_87 rfl 0 rfl ?_
      refine gw_get hC cl_X11 fg_X11_76 (hw.lt (by decide)) (gd_0 hw _) (gv_X11_36 _ _ _) dX11_draws_88 ?_
      refine gw_iload_n hC dX11_draws_91 rfl 2 rfl ?_
      obtain ⟨hi, h⟩ := h
      refine gw_iald hC (hw.lt (by decide)) (gd_20 hw _) (gu_0 hw) hi dX11_draws_92 ?_
      refine gw_iload_n hC dX11_draws_93 rfl 3 rfl ?_
      refine gw_aload_n hC dX11_draws_94 rfl 0 rfl ?_
      refine gw_get hC cl_X11 fg_X11_7 (hw.lt (by decide)) (gd_0 hw _) (gv_X11_0 _ _ _) dX11_draws_95 ?_
      refine gw_iconst (v := 2) hC dX11_draws_98 (by decide) ?_
      obtain ⟨hi, h⟩ := h
      refine gw_iald hC (hw.lt (by decide)) (gd_1 hw _) (gu_0 hw) hi dX11_draws_99 ?_
      refine gw_imul hC dX11_draws_100 ?_
      refine gw_iadd hC dX11_draws_101 ?_
      refine gw_nm (fun x12 hx12 => ?_)
      have h := h x12 hx12
      refine gw_istore (lv' := [(4, .int x12), (0, .ref (gx_ad w 0)), (1, .int v1), (2, .int v2), (3, .int v3)]) hC dX11_draws_102 (by decide) rfl ?_
      refine gw_iload hC dX11_draws_104 0 rfl ?_
      refine gw_iload_n hC dX11_draws_106 rfl 2 rfl ?_
      refine gw_icmp_ge (tgt := 121) hC dX11_draws_107 (by decide) (fun hc => ?_) (fun hc => ?_)
      · have h := gx_t h hc
        refine gw_iconst (v := (-1)) hC dX11_draws_121 (by decide) ?_
        refine gw_sub (lv' := [(0, .ref (gx_ad w 0)), (1, .int v1), (2, .int v2), (3, .int v3)]) [1, 2, 3, 4] rfl ?_
        exact J_X11_draws_122 hC hw hR hr ih M (-1) v1 v2 v3 h
      · have h := gx_f h hc
        refine gw_aload_n hC dX11_draws_110 rfl 1 rfl ?_
        refine gw_iload_n hC dX11_draws_111 rfl 3 rfl ?_
        refine gw_iload_n hC dX11_draws_112 rfl 4 rfl ?_
        refine gw_iload hC dX11_draws_113 0 rfl ?_
        refine gw_calli (gx_rV hC (n := 3) (As := [.int v2, .int v3, .int x12]) (rest := []) (fun sz => c_X11_dotOf hw  h sz) cv_X11_318_X11_dotOf (by rw [hR]; exact rr_X11_draws_X11_dotOf) ⟨(hw.lt (by decide)), _, _, _, _, gd_0 hw _, cl_X11.1⟩ rfl rfl (Nat.le_of_ble_eq_true rfl) dX11_draws_115) ?_
        intro r15 m16 ⟨hm16, h⟩
        rw [hm16]
        refine gw_goto (tgt := 122) hC dX11_draws_118 (by decide) ?_
        refine gw_sub (lv' := [(0, .ref (gx_ad w 0)), (1, .int v1), (2, .int v2), (3, .int v3)]) [1, 2, 3, 4] rfl ?_
        exact J_X11_draws_122 hC hw hR hr ih M r15 v1 v2 v3 h
set_option maxRecDepth 20000 in
theorem J_X11_draws_79 {z : gx_X} {d : gx_D} {w : gx_V} {ca : Nat → ClassId} (hC : gx_C z d w cX11_draws 6 RX11) (hw : gx_isR ca w) (hR : gx_R z = rm_X11_draws) (hr : (gx_me z).sig.returnType = none)  {Q : gx_M → Prop} {K24 : gx_M → Int32 → Int32 → Prop} (hK24 : ∀ (M : gx_M) (v1 : Int32) (v2 : Int32), K24 M v1 v2 → GW z w 6 (gx_Qv w Q (gx_s z).heap.size) M 24 [(0, .ref (gx_ad w 0)), (1, .int v1), (2, .int v2)] []) (M : gx_M) (v1 : Int32) (v2 : Int32)  (h : T_X11_draws_79 Q K24 M v1 v2) : GW z w 6 (gx_Qv w Q (gx_s z).heap.size) M 79 [(0, .ref (gx_ad w 0)), (1, .int v1), (2, .int v2)] [] := by
  unfold T_X11_draws_79 at h
  refine gw_iconst (v := 0) hC dX11_draws_79 (by decide) ?_
  refine gw_istore_n (lv' := [(3, .int 0), (0, .ref (gx_ad w 0)), (1, .int v1), (2, .int v2)]) hC dX11_draws_80 rfl (by decide) rfl ?_
  obtain ⟨k17, h⟩ := h
  refine gw_sub (lv' := [(0, .ref (gx_ad w 0)), (1, .int v1), (2, .int v2), (3, .int 0)]) [1, 2, 3, 0] rfl ?_
  exact J_X11_draws_81 hC hw hR hr (fun M20 v1_18 v2_19 h => by
      obtain ⟨x21, hx21⟩ : ∃ y : Int32, y = v2_19 + 1 := ⟨_, rfl⟩
      have h := h x21 hx21
      refine gw_iinc (v := x21) (lv' := [(2, .int x21), (0, .ref (gx_ad w 0)), (1, .int v1_18)]) hC dX11_draws_175 (k := 2) rfl (by rw [hx21]; rfl) (by decide) rfl ?_
      refine gw_goto (tgt := 24) hC dX11_draws_178 (by decide) ?_
      refine gw_sub (lv' := [(0, .ref (gx_ad w 0)), (1, .int v1_18), (2, .int x21)]) [1, 2, 0] rfl ?_
      exact hK24 M20 v1_18 x21 h) k17 M v1 v2 0 h
