set_option maxRecDepth 20000 in
theorem J_X11_draws_24 {z : gx_X} {d : gx_D} {w : gx_V} {ca : Nat → ClassId} (hC : gx_C z d w cX11_draws 6 RX11) (hw : gx_isR ca w) (hR : gx_R z = rm_X11_draws) (hr : (gx_me z).sig.returnType = none)  {Q : gx_M → Prop}   : ∀ (n : Nat) (M : gx_M) (v1 : Int32) (v2 : Int32) , T_X11_draws_24 Q  n M v1 v2 → GW z w 6 (gx_Qv w Q (gx_s z).heap.size) M 24 [(0, .ref (gx_ad w 0)), (1, .int v1), (2, .int v2)] [] := by
  intro n
  induction n with
  | zero =>
    intro M v1 v2 h
    exact h.elim
  | succ n ih =>
    intro M v1 v2 h
    rw [T_X11_draws_24] at h
    refine gw_iload_n hC dX11_draws_24 rfl 2 rfl ?_
    refine gw_aload_n hC dX11_draws_25 rfl 0 rfl ?_
    refine gw_get hC cl_X11 fg_X11_283 (hw.lt (by decide)) (gd_0 hw _) (gv_X11_35 _ _ _) dX11_draws_26 ?_
    refine gw_icmp_ge (tgt := 181) hC dX11_draws_29 (by decide) (fun hc => ?_) (fun hc => ?_)
    · have h := gx_t h hc
      exact gw_vret hC hr dX11_draws_181 h
    · have h := gx_f h hc
      refine gw_iconst (v := 0) hC dX11_draws_32 (by decide) ?_
      refine gw_istore_n (lv' := [(3, .int 0), (0, .ref (gx_ad w 0)), (1, .int v1), (2, .int v2)]) hC dX11_draws_33 rfl (by decide) rfl ?_
      obtain ⟨k8, h⟩ := h
      refine gw_sub (lv' := [(0, .ref (gx_ad w 0)), (1, .int v1), (2, .int v2), (3, .int 0)]) [1, 2, 3, 0] rfl ?_
      exact J_X11_draws_34 hC hw hR hr (fun M11 v1_9 v2_10 h => by
          exact J_X11_draws_79 hC hw hR hr ih M11 v1_9 v2_10 h) k8 M v1 v2 0 h
set_option maxRecDepth 20000 in
theorem J_X11_draws {z : gx_X} {d : gx_D} {w : gx_V} {ca : Nat → ClassId} (hC : gx_C z d w cX11_draws 6 RX11) (hw : gx_isR ca w) (hR : gx_R z = rm_X11_draws) (hr : (gx_me z).sig.returnType = none)   {M : gx_M} {v1 : Int32} {Q : gx_M → Prop} (h : T_X11_draws M v1 Q) : GW z w 6 (gx_Qv w Q (gx_s z).heap.size) M 0 [(0, .ref (gx_ad w 0)), (1, .int v1)] [] := by
  unfold T_X11_draws at h
  refine gw_iconst (v := 0) hC dX11_draws_0 (by decide) ?_
  refine gw_istore_n (lv' := [(2, .int 0), (0, .ref (gx_ad w 0)), (1, .int v1)]) hC dX11_draws_1 rfl (by decide) rfl ?_
  obtain ⟨k3, h⟩ := h
  refine gw_sub (lv' := [(0, .ref (gx_ad w 0)), (1, .int v1), (2, .int 0)]) [1, 2, 0] rfl ?_
  exact J_X11_draws_2 hC hw hR hr (fun M5 v1_4 h => by
      refine gw_iconst (v := 0) hC dX11_draws_22 (by decide) ?_
      refine gw_istore_n (lv' := [(2, .int 0), (0, .ref (gx_ad w 0)), (1, .int v1_4)]) hC dX11_draws_23 rfl (by decide) rfl ?_
      obtain ⟨k22, h⟩ := h
      refine gw_sub (lv' := [(0, .ref (gx_ad w 0)), (1, .int v1_4), (2, .int 0)]) [1, 2, 0] rfl ?_
      exact J_X11_draws_24 hC hw hR hr  k22 M5 v1_4 0 h) k3 M v1 0 h
theorem c_X11_draws {l : Launch} {d : gx_D} {w : gx_V} {ca : Nat → ClassId} (hw : gx_isR ca w)   {M : gx_M} {v1 : Int32} {Q : gx_M → Prop} (h : T_X11_draws M v1 Q) : gx_Mv l d w yX11_draws cX11_draws 6 rm_X11_draws [.ref (gx_ad w 0), .int v1] M Q := fun sz =>
  gx_of (own := RX11) (by decide +kernel) rfl (Nat.le_of_ble_eq_true rfl) (fun z hC hl hR hsz hr => by subst hsz; exact J_X11_draws hC hw hR hr  h) rfl
set_option maxRecDepth 20000 in
theorem J_X11_shows {z : gx_X} {d : gx_D} {w : gx_V} {ca : Nat → ClassId} (hC : gx_C z d w cX11_shows 2 RX11) (hw : gx_isR ca w) (hR : gx_R z = rm_X11_shows) (hr : (gx_me z).sig.returnType = none)   {M : gx_M} {v1 : Int32} {Q : gx_M → Prop} (h : T_X11_shows M v1 Q) : GW z w 2 (gx_Qv w Q (gx_s z).heap.size) M 0 [(0, .ref (gx_ad w 0)), (1, .int v1)] [] := by
  unfold T_X11_shows at h
  refine gw_aload_n hC dX11_shows_0 rfl 0 rfl ?_
  refine gw_callv (gx_rV hC (n := 0) (As := []) (rest := []) (fun sz => c_X11_laysBoth hw  h sz) cv_X11_304_X11_laysBoth (by rw [hR]; exact rr_X11_shows_X11_laysBoth) ⟨(hw.lt (by decide)), _, _, _, _, gd_0 hw _, cl_X11.1⟩ rfl rfl (Nat.le_of_ble_eq_true rfl) dX11_shows_1) ?_
  intro M1 h
  refine gw_aload_n hC dX11_shows_4 rfl 0 rfl ?_
  refine gw_iload_n hC dX11_shows_5 rfl 1 rfl ?_
  refine gw_callv (gx_rV hC (n := 1) (As := [.int v1]) (rest := []) (fun sz => c_X11_sweeps hw  h sz) cv_X11_307_X11_sweeps (by rw [hR]; exact rr_X11_shows_X11_sweeps) ⟨(hw.lt (by decide)), _, _, _, _, gd_0 hw _, cl_X11.1⟩ rfl rfl (Nat.le_of_ble_eq_true rfl) dX11_shows_6) ?_
  intro M2 h
  refine gw_aload_n hC dX11_shows_9 rfl 0 rfl ?_
  refine gw_iload_n hC dX11_shows_10 rfl 1 rfl ?_
  refine gw_callv (gx_rV hC (n := 1) (As := [.int v1]) (rest := []) (fun sz => c_X11_draws hw  h sz) cv_X11_322_X11_draws (by rw [hR]; exact rr_X11_shows_X11_draws) ⟨(hw.lt (by decide)), _, _, _, _, gd_0 hw _, cl_X11.1⟩ rfl rfl (Nat.le_of_ble_eq_true rfl) dX11_shows_11) ?_
  intro M3 h
  exact gw_vret hC hr dX11_shows_14 h
theorem c_X11_shows {l : Launch} {d : gx_D} {w : gx_V} {ca : Nat → ClassId} (hw : gx_isR ca w)   {M : gx_M} {v1 : Int32} {Q : gx_M → Prop} (h : T_X11_shows M v1 Q) : gx_Mv l d w yX11_shows cX11_shows 2 rm_X11_shows [.ref (gx_ad w 0), .int v1] M Q := fun sz =>
  gx_of (own := RX11) (by decide +kernel) rfl (Nat.le_of_ble_eq_true rfl) (fun z hC hl hR hsz hr => by subst hsz; exact J_X11_shows hC hw hR hr  h) rfl
set_option maxRecDepth 20000 in
theorem J_X11_glow {z : gx_X} {d : gx_D} {w : gx_V} {ca : Nat → ClassId} (hC : gx_C z d w cX11_glow 4 RX11) (hw : gx_isR ca w) (hR : gx_R z = rm_X11_glow) (hr : (gx_me z).sig.returnType = (some .int))   {M : gx_M} {v1 : Int32} {v2 : Int32} {v3 : Int32} {Q : Int32 → gx_M → Prop} (h : T_X11_glow M v1 v2 v3 Q) : GW z w 4 (gx_Qi w Q (gx_s z).heap.size) M 0 [(0, .ref (gx_ad w 0)), (1, .int v1), (2, .int v2), (3, .int v3)] [] := by
  unfold T_X11_glow at h
  refine gw_iload_n hC dX11_glow_0 rfl 1 rfl ?_
  refine gw_calli (gx_rS hC (n := 1) (As := [.int v1]) (rest := []) (fun sz => c_X11_isEnd hw  h sz) cs_X11_301_X11_isEnd (by rw [hR]; exact rr_X11_glow_X11_isEnd) rfl rfl (Nat.le_of_ble_eq_true rfl) dX11_glow_1) ?_
  intro r1 m2 ⟨hm2, h⟩
  rw [hm2]
  refine gw_if_eq (tgt := 27) hC dX11_glow_4 (by decide) (fun hc => ?_) (fun hc => ?_)
  · have h := gx_t h hc
    refine gw_iconst (v := (-1)) hC dX11_glow_27 (by decide) ?_
    exact gw_iret hC hr dX11_glow_28 h
  · have h := gx_f h hc
    refine gw_iload_n hC dX11_glow_7 rfl 2 rfl ?_
    refine gw_iconst (v := 0) hC dX11_glow_8 (by decide) ?_
    refine gw_bipush (v := 19) hC dX11_glow_9 (by decide) ?_
    refine gw_calli (gx_rS hC (n := 3) (As := [.int v2, .int 0, .int 19]) (rest := []) (fun sz => c_X11_in hw  h sz) cs_X11_97_X11_in (by rw [hR]; exact rr_X11_glow_X11_in) rfl rfl (Nat.le_of_ble_eq_true rfl) dX11_glow_11) ?_
    intro r3 m4 ⟨hm4, h⟩
    rw [hm4]
    refine gw_if_eq (tgt := 27) hC dX11_glow_14 (by decide) (fun hc => ?_) (fun hc => ?_)
    · have h := gx_t h hc
      refine gw_iconst (v := (-1)) hC dX11_glow_27 (by decide) ?_
      exact gw_iret hC hr dX11_glow_28 h
    · have h := gx_f h hc
      refine gw_iload_n hC dX11_glow_17 rfl 3 rfl ?_
      refine gw_iconst (v := 0) hC dX11_glow_18 (by decide) ?_
      refine gw_bipush (v := 15) hC dX11_glow_19 (by decide) ?_
      refine gw_calli (gx_rS hC (n := 3) (As := [.int v3, .int 0, .int 15]) (rest := []) (fun sz => c_X11_in hw  h sz) cs_X11_97_X11_in (by rw [hR]; exact rr_X11_glow_X11_in) rfl rfl (Nat.le_of_ble_eq_true rfl) dX11_glow_21) ?_
      intro r5 m6 ⟨hm6, h⟩
      rw [hm6]
      refine gw_if_ne (tgt := 29) hC dX11_glow_24 (by decide) (fun hc => ?_) (fun hc => ?_)
      · have h := gx_f h hc
        refine gw_aload_n hC dX11_glow_29 rfl 0 rfl ?_
        refine gw_iload_n hC dX11_glow_30 rfl 1 rfl ?_
        refine gw_callv (gx_rV hC (n := 1) (As := [.int v1]) (rest := []) (fun sz => c_X11_shows hw  h sz) cv_X11_325_X11_shows (by rw [hR]; exact rr_X11_glow_X11_shows) ⟨(hw.lt (by decide)), _, _, _, _, gd_0 hw _, cl_X11.1⟩ rfl rfl (Nat.le_of_ble_eq_true rfl) dX11_glow_31) ?_
        intro M7 h
        refine gw_aload_n hC dX11_glow_34 rfl 0 rfl ?_
        refine gw_get hC cl_X11 fg_X11_79 (hw.lt (by decide)) (gd_0 hw _) (gv_X11_37 _ _ _) dX11_glow_35 ?_
        refine gw_bipush (v := 16) hC dX11_glow_38 (by decide) ?_
        refine gw_iload_n hC dX11_glow_40 rfl 2 rfl ?_
        refine gw_imul hC dX11_glow_41 ?_
        refine gw_iload_n hC dX11_glow_42 rfl 3 rfl ?_
        refine gw_iadd hC dX11_glow_43 ?_
        obtain ⟨hi, h⟩ := h
        refine gw_iald hC (hw.lt (by decide)) (gd_21 hw _) (gu_0 hw) hi dX11_glow_44 ?_
        exact gw_iret hC hr dX11_glow_45 h
      · have h := gx_t h hc
        refine gw_iconst (v := (-1)) hC dX11_glow_27 (by decide) ?_
        exact gw_iret hC hr dX11_glow_28 h
theorem c_X11_glow {l : Launch} {d : gx_D} {w : gx_V} {ca : Nat → ClassId} (hw : gx_isR ca w)   {M : gx_M} {v1 : Int32} {v2 : Int32} {v3 : Int32} {Q : Int32 → gx_M → Prop} (h : T_X11_glow M v1 v2 v3 Q) : gx_Mi l d w yX11_glow cX11_glow 4 .int rm_X11_glow [.ref (gx_ad w 0), .int v1, .int v2, .int v3] M Q := fun sz =>
  gx_of (own := RX11) (by decide +kernel) rfl (Nat.le_of_ble_eq_true rfl) (fun z hC hl hR hsz hr => by subst hsz; exact J_X11_glow hC hw hR hr  h) rfl
set_option maxRecDepth 20000 in
theorem J_X11_rowsOf_38 {z : gx_X} {d : gx_D} {w : gx_V} {ca : Nat → ClassId} (hC : gx_C z d w cX11_rowsOf 5 RX11) (hw : gx_isR ca w) (hR : gx_R z = rm_X11_rowsOf) (hr : (gx_me z).sig.returnType = (some .int)) {M : gx_M} {Q : Int32 → Prop} {K5 : Int32 → Int32 → Int32 → Int32 → Prop} (hK5 : ∀ (v1 : Int32) (v2 : Int32) (v3 : Int32) (v4 : Int32), K5 v1 v2 v3 v4 → GW z w 5 (gx_Qi w (fun r M1 => M1 = M ∧ Q r) (gx_s z).heap.size) M 5 [(0, .ref (gx_ad w 0)), (1, .int v1), (2, .int v2), (3, .int v3), (4, .int v4)] []) (t0 : Int32) (v1 : Int32) (v2 : Int32) (v4 : Int32)  (h : T_X11_rowsOf_38 M Q K5 t0 v1 v2 v4) : GW z w 5 (gx_Qi w (fun r M1 => M1 = M ∧ Q r) (gx_s z).heap.size) M 38 [(0, .ref (gx_ad w 0)), (1, .int v1), (2, .int v2), (4, .int v4)] [.int t0] := by
  unfold T_X11_rowsOf_38 at h
  refine gw_istore_n (lv' := [(3, .int t0), (0, .ref (gx_ad w 0)), (1, .int v1), (2, .int v2), (4, .int v4)]) hC dX11_rowsOf_38 rfl (by decide) rfl ?_
  obtain ⟨x1, hx1⟩ : ∃ y : Int32, y = v4 + 1 := ⟨_, rfl⟩
  have h := h x1 hx1
  refine gw_iinc (v := x1) (lv' := [(4, .int x1), (3, .int t0), (0, .ref (gx_ad w 0)), (1, .int v1), (2, .int v2)]) hC dX11_rowsOf_39 (k := 4) rfl (by rw [hx1]; rfl) (by decide) rfl ?_
  refine gw_goto (tgt := 5) hC dX11_rowsOf_42 (by decide) ?_
  refine gw_sub (lv' := [(0, .ref (gx_ad w 0)), (1, .int v1), (2, .int v2), (3, .int t0), (4, .int x1)]) [2, 3, 4, 1, 0] rfl ?_
  exact hK5 v1 v2 t0 x1 h
set_option maxRecDepth 20000 in
theorem J_X11_rowsOf_5 {z : gx_X} {d : gx_D} {w : gx_V} {ca : Nat → ClassId} (hC : gx_C z d w cX11_rowsOf 5 RX11) (hw : gx_isR ca w) (hR : gx_R z = rm_X11_rowsOf) (hr : (gx_me z).sig.returnType = (some .int)) {M : gx_M} {Q : Int32 → Prop}   : ∀ (n : Nat) (v1 : Int32) (v2 : Int32) (v3 : Int32) (v4 : Int32) , T_X11_rowsOf_5 M Q  n v1 v2 v3 v4 → GW z w 5 (gx_Qi w (fun r M1 => M1 = M ∧ Q r) (gx_s z).heap.size) M 5 [(0, .ref (gx_ad w 0)), (1, .int v1), (2, .int v2), (3, .int v3), (4, .int v4)] [] := by
  intro n
  induction n with
  | zero =>
    intro v1 v2 v3 v4 h
    exact h.elim
  | succ n ih =>
    intro v1 v2 v3 v4 h
    rw [T_X11_rowsOf_5] at h
    refine gw_iload hC dX11_rowsOf_5 4 rfl ?_
    refine gw_bipush (v := 16) hC dX11_rowsOf_7 (by decide) ?_
    refine gw_icmp_ge (tgt := 45) hC dX11_rowsOf_9 (by decide) (fun hc => ?_) (fun hc => ?_)
    · have h := gx_t h hc
      refine gw_iload_n hC dX11_rowsOf_45 rfl 3 rfl ?_
      exact gw_iret hC hr dX11_rowsOf_46 ⟨rfl, h⟩
    · have h := gx_f h hc
      refine gw_aload_n hC dX11_rowsOf_12 rfl 0 rfl ?_
      refine gw_get hC cl_X11 fg_X11_79 (hw.lt (by decide)) (gd_0 hw _) (gv_X11_37 _ _ _) dX11_rowsOf_13 ?_
      refine gw_bipush (v := 16) hC dX11_rowsOf_16 (by decide) ?_
      refine gw_iload_n hC dX11_rowsOf_18 rfl 1 rfl ?_
      refine gw_imul hC dX11_rowsOf_19 ?_
      refine gw_iload hC dX11_rowsOf_20 4 rfl ?_
      refine gw_iadd hC dX11_rowsOf_22 ?_
      obtain ⟨hi, h⟩ := h
      refine gw_iald hC (hw.lt (by decide)) (gd_21 hw _) (gu_0 hw) hi dX11_rowsOf_23 ?_
      refine gw_iload_n hC dX11_rowsOf_24 rfl 2 rfl ?_
      refine gw_icmp_lt (tgt := 37) hC dX11_rowsOf_25 (by decide) (fun hc => ?_) (fun hc => ?_)
      · have h := gx_t h hc
        refine gw_iload_n hC dX11_rowsOf_37 rfl 3 rfl ?_
        refine gw_sub (lv' := [(0, .ref (gx_ad w 0)), (1, .int v1), (2, .int v2), (4, .int v4)]) [0, 1, 2, 4] rfl ?_
        exact J_X11_rowsOf_38 hC hw hR hr ih v3 v1 v2 v4 h
      · have h := gx_f h hc
        refine gw_iload_n hC dX11_rowsOf_28 rfl 3 rfl ?_
        refine gw_iconst (v := 1) hC dX11_rowsOf_29 (by decide) ?_
        refine gw_iload hC dX11_rowsOf_30 4 rfl ?_
        refine gw_ishl hC dX11_rowsOf_32 ?_
        refine gw_ior hC dX11_rowsOf_33 ?_
        refine gw_goto (tgt := 38) hC dX11_rowsOf_34 (by decide) ?_
        refine gw_sub (lv' := [(0, .ref (gx_ad w 0)), (1, .int v1), (2, .int v2), (4, .int v4)]) [0, 1, 2, 4] rfl ?_
        exact J_X11_rowsOf_38 hC hw hR hr ih (v3 ||| (1 <<< (v4 &&& 31))) v1 v2 v4 h
set_option maxRecDepth 20000 in
theorem J_X11_rowsOf {z : gx_X} {d : gx_D} {w : gx_V} {ca : Nat → ClassId} (hC : gx_C z d w cX11_rowsOf 5 RX11) (hw : gx_isR ca w) (hR : gx_R z = rm_X11_rowsOf) (hr : (gx_me z).sig.returnType = (some .int))   {M : gx_M} {v1 : Int32} {v2 : Int32} {Q : Int32 → Prop} (h : T_X11_rowsOf M v1 v2 Q) : GW z w 5 (gx_Qi w (fun r M1 => M1 = M ∧ Q r) (gx_s z).heap.size) M 0 [(0, .ref (gx_ad w 0)), (1, .int v1), (2, .int v2)] [] := by
  unfold T_X11_rowsOf at h
  refine gw_iconst (v := 0) hC dX11_rowsOf_0 (by decide) ?_
  refine gw_istore_n (lv' := [(3, .int 0), (0, .ref (gx_ad w 0)), (1, .int v1), (2, .int v2)]) hC dX11_rowsOf_1 rfl (by decide) rfl ?_
  refine gw_iconst (v := 0) hC dX11_rowsOf_2 (by decide) ?_
  refine gw_istore (lv' := [(4, .int 0), (3, .int 0), (0, .ref (gx_ad w 0)), (1, .int v1), (2, .int v2)]) hC dX11_rowsOf_3 (by decide) rfl ?_
  obtain ⟨k2, h⟩ := h
  refine gw_sub (lv' := [(0, .ref (gx_ad w 0)), (1, .int v1), (2, .int v2), (3, .int 0), (4, .int 0)]) [2, 3, 4, 1, 0] rfl ?_
  exact J_X11_rowsOf_5 hC hw hR hr  k2 v1 v2 0 0 h
theorem c_X11_rowsOf {l : Launch} {d : gx_D} {w : gx_V} {ca : Nat → ClassId} (hw : gx_isR ca w)   {M : gx_M} {v1 : Int32} {v2 : Int32} {Q : Int32 → Prop} (h : T_X11_rowsOf M v1 v2 Q) : gx_Mi l d w yX11_rowsOf cX11_rowsOf 5 .int rm_X11_rowsOf [.ref (gx_ad w 0), .int v1, .int v2] M (fun r M1 => M1 = M ∧ Q r) := fun sz =>
  gx_of (own := RX11) (by decide +kernel) rfl (Nat.le_of_ble_eq_true rfl) (fun z hC hl hR hsz hr => by subst hsz; exact J_X11_rowsOf hC hw hR hr  h) rfl
set_option maxRecDepth 20000 in
theorem J_X11_dots_27 {z : gx_X} {d : gx_D} {w : gx_V} {ca : Nat → ClassId} (hC : gx_C z d w cX11_dots 4 RX11) (hw : gx_isR ca w) (hR : gx_R z = rm_X11_dots) (hr : (gx_me z).sig.returnType = (some .int)) {M : gx_M} {Q : Int32 → Prop} {K4 : Int32 → Int32 → Int32 → Prop} (hK4 : ∀ (v1 : Int32) (v2 : Int32) (v3 : Int32), K4 v1 v2 v3 → GW z w 4 (gx_Qi w (fun r M1 => M1 = M ∧ Q r) (gx_s z).heap.size) M 4 [(0, .ref (gx_ad w 0)), (1, .int v1), (2, .int v2), (3, .int v3)] []) (t0 : Int32) (t1 : Int32) (v1 : Int32) (v3 : Int32)  (h : T_X11_dots_27 M Q K4 t0 t1 v1 v3) : GW z w 4 (gx_Qi w (fun r M1 => M1 = M ∧ Q r) (gx_s z).heap.size) M 27 [(0, .ref (gx_ad w 0)), (1, .int v1), (3, .int v3)] [.int t0, .int t1] := by
  unfold T_X11_dots_27 at h
  refine gw_iadd hC dX11_dots_27 ?_
  refine gw_nm (fun x1 hx1 => ?_)
  have h := h x1 hx1
  refine gw_istore_n (lv' := [(2, .int x1), (0, .ref (gx_ad w 0)), (1, .int v1), (3, .int v3)]) hC dX11_dots_28 rfl (by decide) rfl ?_
  obtain ⟨x2, hx2⟩ : ∃ y : Int32, y = v3 + 1 := ⟨_, rfl⟩
  have h := h x2 hx2
  refine gw_iinc (v := x2) (lv' := [(3, .int x2), (2, .int x1), (0, .ref (gx_ad w 0)), (1, .int v1)]) hC dX11_dots_29 (k := 3) rfl (by rw [hx2]; rfl) (by decide) rfl ?_
  refine gw_goto (tgt := 4) hC dX11_dots_32 (by decide) ?_
  refine gw_sub (lv' := [(0, .ref (gx_ad w 0)), (1, .int v1), (2, .int x1), (3, .int x2)]) [2, 3, 1, 0] rfl ?_
  exact hK4 v1 x1 x2 h
set_option maxRecDepth 20000 in
theorem J_X11_dots_4 {z : gx_X} {d : gx_D} {w : gx_V} {ca : Nat → ClassId} (hC : gx_C z d w cX11_dots 4 RX11) (hw : gx_isR ca w) (hR : gx_R z = rm_X11_dots) (hr : (gx_me z).sig.returnType = (some .int)) {M : gx_M} {Q : Int32 → Prop}   : ∀ (n : Nat) (v1 : Int32) (v2 : Int32) (v3 : Int32) , T_X11_dots_4 M Q  n v1 v2 v3 → GW z w 4 (gx_Qi w (fun r M1 => M1 = M ∧ Q r) (gx_s z).heap.size) M 4 [(0, .ref (gx_ad w 0)), (1, .int v1), (2, .int v2), (3, .int v3)] [] := by
  intro n
  induction n with
  | zero =>
    intro v1 v2 v3 h
    exact h.elim
  | succ n ih =>
    intro v1 v2 v3 h
    rw [T_X11_dots_4] at h
    refine gw_iload_n hC dX11_dots_4 rfl 3 rfl ?_
    refine gw_sipush (v := 320) hC dX11_dots_5 (by decide) ?_
    refine gw_icmp_ge (tgt := 35) hC dX11_dots_8 (by decide) (fun hc => ?_) (fun hc => ?_)
    · have h := gx_t h hc
      refine gw_iload_n hC dX11_dots_35 rfl 2 rfl ?_
      exact gw_iret hC hr dX11_dots_36 ⟨rfl, h⟩
    · have h := gx_f h hc
      refine gw_iload_n hC dX11_dots_11 rfl 2 rfl ?_
      refine gw_aload_n hC dX11_dots_12 rfl 0 rfl ?_
      refine gw_get hC cl_X11 fg_X11_79 (hw.lt (by decide)) (gd_0 hw _) (gv_X11_37 _ _ _) dX11_dots_13 ?_
      refine gw_iload_n hC dX11_dots_16 rfl 3 rfl ?_
      obtain ⟨hi, h⟩ := h
      refine gw_iald hC (hw.lt (by decide)) (gd_21 hw _) (gu_0 hw) hi dX11_dots_17 ?_
      refine gw_iload_n hC dX11_dots_18 rfl 1 rfl ?_
      refine gw_icmp_lt (tgt := 26) hC dX11_dots_19 (by decide) (fun hc => ?_) (fun hc => ?_)
      · have h := gx_t h hc
        refine gw_iconst (v := 0) hC dX11_dots_26 (by decide) ?_
        refine gw_sub (lv' := [(0, .ref (gx_ad w 0)), (1, .int v1), (3, .int v3)]) [0, 1, 3] rfl ?_
        exact J_X11_dots_27 hC hw hR hr ih 0 v2 v1 v3 h
      · have h := gx_f h hc
        refine gw_iconst (v := 1) hC dX11_dots_22 (by decide) ?_
        refine gw_goto (tgt := 27) hC dX11_dots_23 (by decide) ?_
        refine gw_sub (lv' := [(0, .ref (gx_ad w 0)), (1, .int v1), (3, .int v3)]) [0, 1, 3] rfl ?_
        exact J_X11_dots_27 hC hw hR hr ih 1 v2 v1 v3 h
set_option maxRecDepth 20000 in
theorem J_X11_dots {z : gx_X} {d : gx_D} {w : gx_V} {ca : Nat → ClassId} (hC : gx_C z d w cX11_dots 4 RX11) (hw : gx_isR ca w) (hR : gx_R z = rm_X11_dots) (hr : (gx_me z).sig.returnType = (some .int))   {M : gx_M} {v1 : Int32} {Q : Int32 → Prop} (h : T_X11_dots M v1 Q) : GW z w 4 (gx_Qi w (fun r M1 => M1 = M ∧ Q r) (gx_s z).heap.size) M 0 [(0, .ref (gx_ad w 0)), (1, .int v1)] [] := by
  unfold T_X11_dots at h
  refine gw_iconst (v := 0) hC dX11_dots_0 (by decide) ?_
  refine gw_istore_n (lv' := [(2, .int 0), (0, .ref (gx_ad w 0)), (1, .int v1)]) hC dX11_dots_1 rfl (by decide) rfl ?_
  refine gw_iconst (v := 0) hC dX11_dots_2 (by decide) ?_
  refine gw_istore_n (lv' := [(3, .int 0), (2, .int 0), (0, .ref (gx_ad w 0)), (1, .int v1)]) hC dX11_dots_3 rfl (by decide) rfl ?_
  obtain ⟨k3, h⟩ := h
  refine gw_sub (lv' := [(0, .ref (gx_ad w 0)), (1, .int v1), (2, .int 0), (3, .int 0)]) [2, 3, 1, 0] rfl ?_
  exact J_X11_dots_4 hC hw hR hr  k3 v1 0 0 h
theorem c_X11_dots {l : Launch} {d : gx_D} {w : gx_V} {ca : Nat → ClassId} (hw : gx_isR ca w)   {M : gx_M} {v1 : Int32} {Q : Int32 → Prop} (h : T_X11_dots M v1 Q) : gx_Mi l d w yX11_dots cX11_dots 4 .int rm_X11_dots [.ref (gx_ad w 0), .int v1] M (fun r M1 => M1 = M ∧ Q r) := fun sz =>
  gx_of (own := RX11) (by decide +kernel) rfl (Nat.le_of_ble_eq_true rfl) (fun z hC hl hR hsz hr => by subst hsz; exact J_X11_dots hC hw hR hr  h) rfl
set_option maxRecDepth 20000 in
theorem J_X11_isLight {z : gx_X} {d : gx_D} {w : gx_V} {ca : Nat → ClassId} (hC : gx_C z d w cX11_isLight 1 RX11) (hw : gx_isR ca w) (hR : gx_R z = rm_X11_isLight) (hr : (gx_me z).sig.returnType = (some .boolean))   {M : gx_M} {v0 : Int32} {Q : Int32 → Prop} (h : T_X11_isLight M v0 Q) : GW z w 1 (gx_Qi w (fun r M1 => M1 = M ∧ Q r) (gx_s z).heap.size) M 0 [(0, .int v0)] [] := by
  unfold T_X11_isLight at h
  refine gw_iload_n hC dX11_isLight_0 rfl 0 rfl ?_
  refine gw_iconst (v := 1) hC dX11_isLight_1 (by decide) ?_
  refine gw_sipush (v := 999) hC dX11_isLight_2 (by decide) ?_
  refine gw_calli (gx_rS hC (n := 3) (As := [.int v0, .int 1, .int 999]) (rest := []) (fun sz => c_X11_in hw  h sz) cs_X11_97_X11_in (by rw [hR]; exact rr_X11_isLight_X11_in) rfl rfl (Nat.le_of_ble_eq_true rfl) dX11_isLight_5) ?_
  intro r1 m2 ⟨hm2, h⟩
  rw [hm2]
  obtain ⟨hz, h⟩ := h
  exact gw_zret hC hr (gx_nz hz) dX11_isLight_8 ⟨rfl, h⟩
theorem c_X11_isLight {l : Launch} {d : gx_D} {w : gx_V} {ca : Nat → ClassId} (hw : gx_isR ca w)   {M : gx_M} {v0 : Int32} {Q : Int32 → Prop} (h : T_X11_isLight M v0 Q) : gx_Mi l d w yX11_isLight cX11_isLight 1 .boolean rm_X11_isLight [.int v0] M (fun r M1 => M1 = M ∧ Q r) := fun sz =>
  gx_of (own := RX11) (by decide +kernel) rfl (Nat.le_of_ble_eq_true rfl) (fun z hC hl hR hsz hr => by subst hsz; exact J_X11_isLight hC hw hR hr  h) rfl
set_option maxRecDepth 20000 in
theorem J_X11_lit {z : gx_X} {d : gx_D} {w : gx_V} {ca : Nat → ClassId} (hC : gx_C z d w cX11_lit 4 RX11) (hw : gx_isR ca w) (hR : gx_R z = rm_X11_lit) (hr : (gx_me z).sig.returnType = (some .int))   {M : gx_M} {v1 : Int32} {v2 : Int32} {v3 : Int32} {Q : Int32 → gx_M → Prop} (h : T_X11_lit M v1 v2 v3 Q) : GW z w 4 (gx_Qi w Q (gx_s z).heap.size) M 0 [(0, .ref (gx_ad w 0)), (1, .int v1), (2, .int v2), (3, .int v3)] [] := by
  unfold T_X11_lit at h
  refine gw_iload_n hC dX11_lit_0 rfl 1 rfl ?_
  refine gw_calli (gx_rS hC (n := 1) (As := [.int v1]) (rest := []) (fun sz => c_X11_isEnd hw  h sz) cs_X11_301_X11_isEnd (by rw [hR]; exact rr_X11_lit_X11_isEnd) rfl rfl (Nat.le_of_ble_eq_true rfl) dX11_lit_1) ?_
  intro r1 m2 ⟨hm2, h⟩
  rw [hm2]
  refine gw_if_eq (tgt := 24) hC dX11_lit_4 (by decide) (fun hc => ?_) (fun hc => ?_)
  · have h := gx_t h hc
    refine gw_iconst (v := (-1)) hC dX11_lit_24 (by decide) ?_
    exact gw_iret hC hr dX11_lit_25 h
  · have h := gx_f h hc
    refine gw_iload_n hC dX11_lit_7 rfl 2 rfl ?_
    refine gw_calli (gx_rS hC (n := 1) (As := [.int v2]) (rest := []) (fun sz => c_X11_isLight hw  h sz) cs_X11_328_X11_isLight (by rw [hR]; exact rr_X11_lit_X11_isLight) rfl rfl (Nat.le_of_ble_eq_true rfl) dX11_lit_8) ?_
    intro r3 m4 ⟨hm4, h⟩
    rw [hm4]
    refine gw_if_eq (tgt := 24) hC dX11_lit_11 (by decide) (fun hc => ?_) (fun hc => ?_)
    · have h := gx_t h hc
      refine gw_iconst (v := (-1)) hC dX11_lit_24 (by decide) ?_
      exact gw_iret hC hr dX11_lit_25 h
    · have h := gx_f h hc
      refine gw_iload_n hC dX11_lit_14 rfl 3 rfl ?_
      refine gw_iconst (v := (-1)) hC dX11_lit_15 (by decide) ?_
      refine gw_bipush (v := 19) hC dX11_lit_16 (by decide) ?_
      refine gw_calli (gx_rS hC (n := 3) (As := [.int v3, .int (-1), .int 19]) (rest := []) (fun sz => c_X11_in hw  h sz) cs_X11_97_X11_in (by rw [hR]; exact rr_X11_lit_X11_in) rfl rfl (Nat.le_of_ble_eq_true rfl) dX11_lit_18) ?_
      intro r5 m6 ⟨hm6, h⟩
      rw [hm6]
      refine gw_if_ne (tgt := 26) hC dX11_lit_21 (by decide) (fun hc => ?_) (fun hc => ?_)
      · have h := gx_f h hc
        refine gw_aload_n hC dX11_lit_26 rfl 0 rfl ?_
        refine gw_iload_n hC dX11_lit_27 rfl 1 rfl ?_
        refine gw_callv (gx_rV hC (n := 1) (As := [.int v1]) (rest := []) (fun sz => c_X11_shows hw  h sz) cv_X11_325_X11_shows (by rw [hR]; exact rr_X11_lit_X11_shows) ⟨(hw.lt (by decide)), _, _, _, _, gd_0 hw _, cl_X11.1⟩ rfl rfl (Nat.le_of_ble_eq_true rfl) dX11_lit_28) ?_
        intro M7 h
        refine gw_iload_n hC dX11_lit_31 rfl 3 rfl ?_
        refine gw_iconst (v := (-1)) hC dX11_lit_32 (by decide) ?_
        refine gw_icmp_ne (tgt := 44) hC dX11_lit_33 (by decide) (fun hc => ?_) (fun hc => ?_)
        · have h := gx_f h hc
          refine gw_aload_n hC dX11_lit_44 rfl 0 rfl ?_
          refine gw_iload_n hC dX11_lit_45 rfl 3 rfl ?_
          refine gw_iload_n hC dX11_lit_46 rfl 2 rfl ?_
          refine gw_calli (gx_rV hC (n := 2) (As := [.int v3, .int v2]) (rest := []) (fun sz => c_X11_rowsOf hw  h sz) cv_X11_334_X11_rowsOf (by rw [hR]; exact rr_X11_lit_X11_rowsOf) ⟨(hw.lt (by decide)), _, _, _, _, gd_0 hw _, cl_X11.1⟩ rfl rfl (Nat.le_of_ble_eq_true rfl) dX11_lit_47) ?_
          intro r8 m9 ⟨hm9, h⟩
          rw [hm9]
          exact gw_iret hC hr dX11_lit_50 h
        · have h := gx_t h hc
          refine gw_aload_n hC dX11_lit_36 rfl 0 rfl ?_
          refine gw_iload_n hC dX11_lit_37 rfl 2 rfl ?_
          refine gw_calli (gx_rV hC (n := 1) (As := [.int v2]) (rest := []) (fun sz => c_X11_dots hw  h sz) cv_X11_331_X11_dots (by rw [hR]; exact rr_X11_lit_X11_dots) ⟨(hw.lt (by decide)), _, _, _, _, gd_0 hw _, cl_X11.1⟩ rfl rfl (Nat.le_of_ble_eq_true rfl) dX11_lit_38) ?_
          intro r10 m11 ⟨hm11, h⟩
          rw [hm11]
          refine gw_goto (tgt := 50) hC dX11_lit_41 (by decide) ?_
          exact gw_iret hC hr dX11_lit_50 h
      · have h := gx_t h hc
        refine gw_iconst (v := (-1)) hC dX11_lit_24 (by decide) ?_
        exact gw_iret hC hr dX11_lit_25 h
theorem c_X11_lit {l : Launch} {d : gx_D} {w : gx_V} {ca : Nat → ClassId} (hw : gx_isR ca w)   {M : gx_M} {v1 : Int32} {v2 : Int32} {v3 : Int32} {Q : Int32 → gx_M → Prop} (h : T_X11_lit M v1 v2 v3 Q) : gx_Mi l d w yX11_lit cX11_lit 4 .int rm_X11_lit [.ref (gx_ad w 0), .int v1, .int v2, .int v3] M Q := fun sz =>
  gx_of (own := RX11) (by decide +kernel) rfl (Nat.le_of_ble_eq_true rfl) (fun z hC hl hR hsz hr => by subst hsz; exact J_X11_lit hC hw hR hr  h) rfl
set_option maxRecDepth 20000 in
theorem J_X11_isAs_61 {z : gx_X} {d : gx_D} {w : gx_V} {ca : Nat → ClassId} (hC : gx_C z d w cX11_isAs 8 RX11) (hw : gx_isR ca w) (hR : gx_R z = rm_X11_isAs) (hr : (gx_me z).sig.returnType = (some .boolean)) {M : gx_M} {Q : Int32 → Prop} {K6 : Int32 → Int32 → Int32 → Int32 → Int32 → Int32 → Int32 → Prop} (hK6 : ∀ (v1 : Int32) (v2 : Int32) (v3 : Int32) (v4 : Int32) (v5 : Int32) (v6 : Int32) (v7 : Int32), K6 v1 v2 v3 v4 v5 v6 v7 → GW z w 8 (gx_Qi w (fun r M1 => M1 = M ∧ Q r) (gx_s z).heap.size) M 6 [(0, .ref (gx_ad w 0)), (1, .int v1), (2, .int v2), (3, .int v3), (4, .int v4), (5, .int v5), (6, .int v6), (7, .int v7)] []) (t0 : Int32) (v1 : Int32) (v2 : Int32) (v3 : Int32) (v4 : Int32) (v5 : Int32) (v7 : Int32)  (h : T_X11_isAs_61 M Q K6 t0 v1 v2 v3 v4 v5 v7) : GW z w 8 (gx_Qi w (fun r M1 => M1 = M ∧ Q r) (gx_s z).heap.size) M 61 [(0, .ref (gx_ad w 0)), (1, .int v1), (2, .int v2), (3, .int v3), (4, .int v4), (5, .int v5), (7, .int v7)] [.int t0] := by
  unfold T_X11_isAs_61 at h
  refine gw_istore (lv' := [(6, .int t0), (0, .ref (gx_ad w 0)), (1, .int v1), (2, .int v2), (3, .int v3), (4, .int v4), (5, .int v5), (7, .int v7)]) hC dX11_isAs_61 (by decide) rfl ?_
  obtain ⟨x3, hx3⟩ : ∃ y : Int32, y = v7 + 1 := ⟨_, rfl⟩
  have h := h x3 hx3
  refine gw_iinc (v := x3) (lv' := [(7, .int x3), (6, .int t0), (0, .ref (gx_ad w 0)), (1, .int v1), (2, .int v2), (3, .int v3), (4, .int v4), (5, .int v5)]) hC dX11_isAs_63 (k := 7) rfl (by rw [hx3]; rfl) (by decide) rfl ?_
  refine gw_goto (tgt := 6) hC dX11_isAs_66 (by decide) ?_
  refine gw_sub (lv' := [(0, .ref (gx_ad w 0)), (1, .int v1), (2, .int v2), (3, .int v3), (4, .int v4), (5, .int v5), (6, .int t0), (7, .int x3)]) [2, 3, 4, 5, 6, 7, 1, 0] rfl ?_
  exact hK6 v1 v2 v3 v4 v5 t0 x3 h
set_option maxRecDepth 20000 in
theorem J_X11_isAs_53 {z : gx_X} {d : gx_D} {w : gx_V} {ca : Nat → ClassId} (hC : gx_C z d w cX11_isAs 8 RX11) (hw : gx_isR ca w) (hR : gx_R z = rm_X11_isAs) (hr : (gx_me z).sig.returnType = (some .boolean)) {M : gx_M} {Q : Int32 → Prop} {K6 : Int32 → Int32 → Int32 → Int32 → Int32 → Int32 → Int32 → Prop} (hK6 : ∀ (v1 : Int32) (v2 : Int32) (v3 : Int32) (v4 : Int32) (v5 : Int32) (v6 : Int32) (v7 : Int32), K6 v1 v2 v3 v4 v5 v6 v7 → GW z w 8 (gx_Qi w (fun r M1 => M1 = M ∧ Q r) (gx_s z).heap.size) M 6 [(0, .ref (gx_ad w 0)), (1, .int v1), (2, .int v2), (3, .int v3), (4, .int v4), (5, .int v5), (6, .int v6), (7, .int v7)] []) (t0 : Int32) (t1 : Int32) (v1 : Int32) (v2 : Int32) (v3 : Int32) (v4 : Int32) (v5 : Int32) (v7 : Int32)  (h : T_X11_isAs_53 M Q K6 t0 t1 v1 v2 v3 v4 v5 v7) : GW z w 8 (gx_Qi w (fun r M1 => M1 = M ∧ Q r) (gx_s z).heap.size) M 53 [(0, .ref (gx_ad w 0)), (1, .int v1), (2, .int v2), (3, .int v3), (4, .int v4), (5, .int v5), (7, .int v7)] [.int t0, .int t1] := by
  unfold T_X11_isAs_53 at h
  refine gw_icmp_ne (tgt := 60) hC dX11_isAs_53 (by decide) (fun hc => ?_) (fun hc => ?_)
  · have h := gx_f h hc
    refine gw_iconst (v := 0) hC dX11_isAs_60 (by decide) ?_
    exact J_X11_isAs_61 hC hw hR hr hK6 0 v1 v2 v3 v4 v5 v7 h
  · have h := gx_t h hc
    refine gw_iconst (v := 1) hC dX11_isAs_56 (by decide) ?_
    refine gw_goto (tgt := 61) hC dX11_isAs_57 (by decide) ?_
    exact J_X11_isAs_61 hC hw hR hr hK6 1 v1 v2 v3 v4 v5 v7 h
set_option maxRecDepth 20000 in
theorem J_X11_isAs_6 {z : gx_X} {d : gx_D} {w : gx_V} {ca : Nat → ClassId} (hC : gx_C z d w cX11_isAs 8 RX11) (hw : gx_isR ca w) (hR : gx_R z = rm_X11_isAs) (hr : (gx_me z).sig.returnType = (some .boolean)) {M : gx_M} {Q : Int32 → Prop} {K69 : Int32 → Prop} (hK69 : ∀ (v6 : Int32), K69 v6 → GW z w 8 (gx_Qi w (fun r M1 => M1 = M ∧ Q r) (gx_s z).heap.size) M 69 [(6, .int v6)] []) : ∀ (n : Nat) (v1 : Int32) (v2 : Int32) (v3 : Int32) (v4 : Int32) (v5 : Int32) (v6 : Int32) (v7 : Int32) , T_X11_isAs_6 M Q K69 n v1 v2 v3 v4 v5 v6 v7 → GW z w 8 (gx_Qi w (fun r M1 => M1 = M ∧ Q r) (gx_s z).heap.size) M 6 [(0, .ref (gx_ad w 0)), (1, .int v1), (2, .int v2), (3, .int v3), (4, .int v4), (5, .int v5), (6, .int v6), (7, .int v7)] [] := by
  intro n
  induction n with
  | zero =>
    intro v1 v2 v3 v4 v5 v6 v7 h
    exact h.elim
  | succ n ih =>
    intro v1 v2 v3 v4 v5 v6 v7 h
    rw [T_X11_isAs_6] at h
    refine gw_iload hC dX11_isAs_6 7 rfl ?_
    refine gw_bipush (v := 20) hC dX11_isAs_8 (by decide) ?_
    refine gw_icmp_ge (tgt := 69) hC dX11_isAs_10 (by decide) (fun hc => ?_) (fun hc => ?_)
    · have h := gx_t h hc
      refine gw_sub (lv' := [(6, .int v6)]) [6] rfl ?_
      exact hK69 v6 h
    · have h := gx_f h hc
      refine gw_iload hC dX11_isAs_13 6 rfl ?_
      refine gw_if_eq (tgt := 69) hC dX11_isAs_15 (by decide) (fun hc => ?_) (fun hc => ?_)
      · have h := gx_t h hc
        refine gw_sub (lv' := [(6, .int v6)]) [6] rfl ?_
        exact hK69 v6 h
      · have h := gx_f h hc
        refine gw_aload_n hC dX11_isAs_18 rfl 0 rfl ?_
        refine gw_get hC cl_X11 fg_X11_82 (hw.lt (by decide)) (gd_0 hw _) (gv_X11_38 _ _ _) dX11_isAs_19 ?_
        refine gw_iload hC dX11_isAs_22 7 rfl ?_
        obtain ⟨hi, h⟩ := h
        refine gw_iald hC (hw.lt (by decide)) (gd_22 hw _) (gu_0 hw) hi dX11_isAs_24 ?_
        refine gw_iload hC dX11_isAs_25 5 rfl ?_
        refine gw_iload hC dX11_isAs_27 7 rfl ?_
        refine gw_aload_n hC dX11_isAs_29 rfl 0 rfl ?_
        refine gw_get hC cl_X11 fg_X11_7 (hw.lt (by decide)) (gd_0 hw _) (gv_X11_0 _ _ _) dX11_isAs_30 ?_
        refine gw_iconst (v := 2) hC dX11_isAs_33 (by decide) ?_
        obtain ⟨hi, h⟩ := h
        refine gw_iald hC (hw.lt (by decide)) (gd_1 hw _) (gu_0 hw) hi dX11_isAs_34 ?_
        refine gw_imul hC dX11_isAs_35 ?_
        refine gw_iadd hC dX11_isAs_36 ?_
        refine gw_iload_n hC dX11_isAs_37 rfl 3 rfl ?_
        refine gw_isub hC dX11_isAs_38 ?_
        refine gw_iload_n hC dX11_isAs_39 rfl 1 rfl ?_
        refine gw_calli (gx_rS hC (n := 2) (As := [.int ((v5 + (v7 * (M 1 (2 : Int32).toNatClampNeg))) - v3), .int v1]) (rest := [.int (M 22 v7.toNatClampNeg)]) (fun sz => c_X11_rest hw  h sz) cs_X11_93_X11_rest (by rw [hR]; exact rr_X11_isAs_X11_rest) rfl rfl (Nat.le_of_ble_eq_true rfl) dX11_isAs_40) ?_
        intro r1 m2 ⟨hm2, h⟩
        rw [hm2]
        refine gw_iload_n hC dX11_isAs_43 rfl 2 rfl ?_
        refine gw_icmp_ge (tgt := 52) hC dX11_isAs_44 (by decide) (fun hc => ?_) (fun hc => ?_)
        · have h := gx_t h hc
          refine gw_iconst (v := 0) hC dX11_isAs_52 (by decide) ?_
          refine gw_sub (lv' := [(0, .ref (gx_ad w 0)), (1, .int v1), (2, .int v2), (3, .int v3), (4, .int v4), (5, .int v5), (7, .int v7)]) [0, 1, 2, 3, 4, 5, 7] rfl ?_
          exact J_X11_isAs_53 hC hw hR hr ih 0 (M 22 v7.toNatClampNeg) v1 v2 v3 v4 v5 v7 h
        · have h := gx_f h hc
          refine gw_iload hC dX11_isAs_47 4 rfl ?_
          refine gw_goto (tgt := 53) hC dX11_isAs_49 (by decide) ?_
          refine gw_sub (lv' := [(0, .ref (gx_ad w 0)), (1, .int v1), (2, .int v2), (3, .int v3), (4, .int v4), (5, .int v5), (7, .int v7)]) [0, 1, 2, 3, 4, 5, 7] rfl ?_
          exact J_X11_isAs_53 hC hw hR hr ih v4 (M 22 v7.toNatClampNeg) v1 v2 v3 v4 v5 v7 h
set_option maxRecDepth 20000 in
theorem J_X11_isAs {z : gx_X} {d : gx_D} {w : gx_V} {ca : Nat → ClassId} (hC : gx_C z d w cX11_isAs 8 RX11) (hw : gx_isR ca w) (hR : gx_R z = rm_X11_isAs) (hr : (gx_me z).sig.returnType = (some .boolean))   {M : gx_M} {v1 : Int32} {v2 : Int32} {v3 : Int32} {v4 : Int32} {v5 : Int32} {Q : Int32 → Prop} (h : T_X11_isAs M v1 v2 v3 v4 v5 Q) : GW z w 8 (gx_Qi w (fun r M1 => M1 = M ∧ Q r) (gx_s z).heap.size) M 0 [(0, .ref (gx_ad w 0)), (1, .int v1), (2, .int v2), (3, .int v3), (4, .int v4), (5, .int v5)] [] := by
  unfold T_X11_isAs at h
  refine gw_iconst (v := 1) hC dX11_isAs_0 (by decide) ?_
  refine gw_istore (lv' := [(6, .int 1), (0, .ref (gx_ad w 0)), (1, .int v1), (2, .int v2), (3, .int v3), (4, .int v4), (5, .int v5)]) hC dX11_isAs_1 (by decide) rfl ?_
  refine gw_iconst (v := 0) hC dX11_isAs_3 (by decide) ?_
  refine gw_istore (lv' := [(7, .int 0), (6, .int 1), (0, .ref (gx_ad w 0)), (1, .int v1), (2, .int v2), (3, .int v3), (4, .int v4), (5, .int v5)]) hC dX11_isAs_4 (by decide) rfl ?_
  obtain ⟨k4, h⟩ := h
  refine gw_sub (lv' := [(0, .ref (gx_ad w 0)), (1, .int v1), (2, .int v2), (3, .int v3), (4, .int v4), (5, .int v5), (6, .int 1), (7, .int 0)]) [2, 3, 4, 5, 6, 7, 1, 0] rfl ?_
  exact J_X11_isAs_6 hC hw hR hr (fun v6_5 h => by
      refine gw_iload hC dX11_isAs_69 0 rfl ?_
      obtain ⟨hz, h⟩ := h
      exact gw_zret hC hr (gx_nz hz) dX11_isAs_71 ⟨rfl, h⟩) k4 v1 v2 v3 v4 v5 1 0 h
theorem c_X11_isAs {l : Launch} {d : gx_D} {w : gx_V} {ca : Nat → ClassId} (hw : gx_isR ca w)   {M : gx_M} {v1 : Int32} {v2 : Int32} {v3 : Int32} {v4 : Int32} {v5 : Int32} {Q : Int32 → Prop} (h : T_X11_isAs M v1 v2 v3 v4 v5 Q) : gx_Mi l d w yX11_isAs cX11_isAs 8 .boolean rm_X11_isAs [.ref (gx_ad w 0), .int v1, .int v2, .int v3, .int v4, .int v5] M (fun r M1 => M1 = M ∧ Q r) := fun sz =>
  gx_of (own := RX11) (by decide +kernel) rfl (Nat.le_of_ble_eq_true rfl) (fun z hC hl hR hsz hr => by subst hsz; exact J_X11_isAs hC hw hR hr  h) rfl
set_option maxRecDepth 20000 in
theorem J_X11_otherwise_96 {z : gx_X} {d : gx_D} {w : gx_V} {ca : Nat → ClassId} (hC : gx_C z d w cX11_otherwise 9 RX11) (hw : gx_isR ca w) (hR : gx_R z = rm_X11_otherwise) (hr : (gx_me z).sig.returnType = (some .int))  {Q : Int32 → gx_M → Prop} {K36 : gx_M → Int32 → Int32 → Int32 → Int32 → Int32 → Prop} (hK36 : ∀ (M : gx_M) (v1 : Int32) (v2 : Int32) (v3 : Int32) (v4 : Int32) (v5 : Int32), K36 M v1 v2 v3 v4 v5 → GW z w 9 (gx_Qi w Q (gx_s z).heap.size) M 36 [(0, .ref (gx_ad w 0)), (1, .int v1), (2, .int v2), (3, .int v3), (4, .int v4), (5, .int v5)] []) (M : gx_M) (t0 : Int32) (v1 : Int32) (v2 : Int32) (v3 : Int32) (v5 : Int32)  (h : T_X11_otherwise_96 Q K36 M t0 v1 v2 v3 v5) : GW z w 9 (gx_Qi w Q (gx_s z).heap.size) M 96 [(0, .ref (gx_ad w 0)), (1, .int v1), (2, .int v2), (3, .int v3), (5, .int v5)] [.int t0] := by
  unfold T_X11_otherwise_96 at h
  refine gw_istore (lv' := [(4, .int t0), (0, .ref (gx_ad w 0)), (1, .int v1), (2, .int v2), (3, .int v3), (5, .int v5)]) hC dX11_otherwise_96 (by decide) rfl ?_
  obtain ⟨x7, hx7⟩ : ∃ y : Int32, y = v5 + 1 := ⟨_, rfl⟩
  have h := h x7 hx7
  refine gw_iinc (v := x7) (lv' := [(5, .int x7), (4, .int t0), (0, .ref (gx_ad w 0)), (1, .int v1), (2, .int v2), (3, .int v3)]) hC dX11_otherwise_98 (k := 5) rfl (by rw [hx7]; rfl) (by decide) rfl ?_
  refine gw_goto (tgt := 36) hC dX11_otherwise_101 (by decide) ?_
  refine gw_sub (lv' := [(0, .ref (gx_ad w 0)), (1, .int v1), (2, .int v2), (3, .int v3), (4, .int t0), (5, .int x7)]) [2, 3, 4, 5, 1, 0] rfl ?_
  exact hK36 M v1 v2 v3 t0 x7 h
set_option maxRecDepth 20000 in
theorem J_X11_otherwise_36 {z : gx_X} {d : gx_D} {w : gx_V} {ca : Nat → ClassId} (hC : gx_C z d w cX11_otherwise 9 RX11) (hw : gx_isR ca w) (hR : gx_R z = rm_X11_otherwise) (hr : (gx_me z).sig.returnType = (some .int))  {Q : Int32 → gx_M → Prop} {K104 : gx_M → Int32 → Int32 → Int32 → Prop} (hK104 : ∀ (M : gx_M) (v2 : Int32) (v3 : Int32) (v4 : Int32), K104 M v2 v3 v4 → GW z w 9 (gx_Qi w Q (gx_s z).heap.size) M 104 [(0, .ref (gx_ad w 0)), (2, .int v2), (3, .int v3), (4, .int v4)] []) : ∀ (n : Nat) (M : gx_M) (v1 : Int32) (v2 : Int32) (v3 : Int32) (v4 : Int32) (v5 : Int32) , T_X11_otherwise_36 Q K104 n M v1 v2 v3 v4 v5 → GW z w 9 (gx_Qi w Q (gx_s z).heap.size) M 36 [(0, .ref (gx_ad w 0)), (1, .int v1), (2, .int v2), (3, .int v3), (4, .int v4), (5, .int v5)] [] := by
  intro n
  induction n with
  | zero =>
    intro M v1 v2 v3 v4 v5 h
    exact h.elim
  | succ n ih =>
    intro M v1 v2 v3 v4 v5 h
    rw [T_X11_otherwise_36] at h
    refine gw_iload hC dX11_otherwise_36 5 rfl ?_
    refine gw_bipush (v := 20) hC dX11_otherwise_38 (by decide) ?_
    refine gw_icmp_ge (tgt := 104) hC dX11_otherwise_40 (by decide) (fun hc => ?_) (fun hc => ?_)
    · have h := gx_t h hc
      refine gw_sub (lv' := [(0, .ref (gx_ad w 0)), (2, .int v2), (3, .int v3), (4, .int v4)]) [0, 2, 3, 4] rfl ?_
      exact hK104 M v2 v3 v4 h
    · have h := gx_f h hc
      refine gw_aload_n hC dX11_otherwise_43 rfl 0 rfl ?_
      refine gw_get hC cl_X11 fg_X11_82 (hw.lt (by decide)) (gd_0 hw _) (gv_X11_38 _ _ _) dX11_otherwise_44 ?_
      refine gw_iload hC dX11_otherwise_47 5 rfl ?_
      refine gw_aload_n hC dX11_otherwise_49 rfl 0 rfl ?_
      refine gw_get hC cl_X11 fg_X11_42 (hw.lt (by decide)) (gd_0 hw _) (gv_X11_11 _ _ _) dX11_otherwise_50 ?_
      refine gw_sipush (v := 2000) hC dX11_otherwise_53 (by decide) ?_
      refine gw_iload_n hC dX11_otherwise_56 rfl 1 rfl ?_
      refine gw_imul hC dX11_otherwise_57 ?_
      refine gw_iload_n hC dX11_otherwise_58 rfl 2 rfl ?_
      refine gw_iadd hC dX11_otherwise_59 ?_
      refine gw_iload hC dX11_otherwise_60 5 rfl ?_
      refine gw_aload_n hC dX11_otherwise_62 rfl 0 rfl ?_
      refine gw_get hC cl_X11 fg_X11_7 (hw.lt (by decide)) (gd_0 hw _) (gv_X11_0 _ _ _) dX11_otherwise_63 ?_
      refine gw_iconst (v := 2) hC dX11_otherwise_66 (by decide) ?_
      obtain ⟨hi, h⟩ := h
      refine gw_iald hC (hw.lt (by decide)) (gd_1 hw _) (gu_0 hw) hi dX11_otherwise_67 ?_
      refine gw_imul hC dX11_otherwise_68 ?_
      refine gw_iadd hC dX11_otherwise_69 ?_
      obtain ⟨hi, h⟩ := h
      refine gw_iald hC (hw.lt (by decide)) (gd_9 hw _) (gu_0 hw) hi dX11_otherwise_70 ?_
      obtain ⟨hi, h⟩ := h
      refine gw_iast hC (hw.lt (by decide)) (gd_22 hw) (gu_0 hw) hi dX11_otherwise_71 ?_
      refine gw_nmM (fun M6 hM6 => ?_)
      have h := h M6 hM6
      refine gw_aload_n hC dX11_otherwise_72 rfl 0 rfl ?_
      refine gw_get hC cl_X11 fg_X11_82 (hw.lt (by decide)) (gd_0 hw _) (gv_X11_38 _ _ _) dX11_otherwise_73 ?_
      refine gw_iload hC dX11_otherwise_76 5 rfl ?_
      obtain ⟨hi, h⟩ := h
      refine gw_iald hC (hw.lt (by decide)) (gd_22 hw _) (gu_0 hw) hi dX11_otherwise_78 ?_
      refine gw_iload hC dX11_otherwise_79 4 rfl ?_
      refine gw_icmp_le (tgt := 94) hC dX11_otherwise_81 (by decide) (fun hc => ?_) (fun hc => ?_)
      · have h := gx_t h hc
        refine gw_iload hC dX11_otherwise_94 4 rfl ?_
        refine gw_sub (lv' := [(0, .ref (gx_ad w 0)), (1, .int v1), (2, .int v2), (3, .int v3), (5, .int v5)]) [0, 1, 2, 3, 5] rfl ?_
        exact J_X11_otherwise_96 hC hw hR hr ih M6 v4 v1 v2 v3 v5 h
      · have h := gx_f h hc
        refine gw_aload_n hC dX11_otherwise_84 rfl 0 rfl ?_
        refine gw_get hC cl_X11 fg_X11_82 (hw.lt (by decide)) (gd_0 hw _) (gv_X11_38 _ _ _) dX11_otherwise_85 ?_
        refine gw_iload hC dX11_otherwise_88 5 rfl ?_
        obtain ⟨hi, h⟩ := h
        refine gw_iald hC (hw.lt (by decide)) (gd_22 hw _) (gu_0 hw) hi dX11_otherwise_90 ?_
        refine gw_goto (tgt := 96) hC dX11_otherwise_91 (by decide) ?_
        refine gw_sub (lv' := [(0, .ref (gx_ad w 0)), (1, .int v1), (2, .int v2), (3, .int v3), (5, .int v5)]) [0, 1, 2, 3, 5] rfl ?_
        exact J_X11_otherwise_96 hC hw hR hr ih M6 (M6 22 v5.toNatClampNeg) v1 v2 v3 v5 h
set_option maxRecDepth 20000 in
theorem J_X11_otherwise_183 {z : gx_X} {d : gx_D} {w : gx_V} {ca : Nat → ClassId} (hC : gx_C z d w cX11_otherwise 9 RX11) (hw : gx_isR ca w) (hR : gx_R z = rm_X11_otherwise) (hr : (gx_me z).sig.returnType = (some .int))  {Q : Int32 → gx_M → Prop} {K135 : gx_M → Int32 → Int32 → Int32 → Int32 → Int32 → Int32 → Int32 → Prop} (hK135 : ∀ (M : gx_M) (v2 : Int32) (v3 : Int32) (v4 : Int32) (v5 : Int32) (v6 : Int32) (v7 : Int32) (v8 : Int32), K135 M v2 v3 v4 v5 v6 v7 v8 → GW z w 9 (gx_Qi w Q (gx_s z).heap.size) M 135 [(0, .ref (gx_ad w 0)), (2, .int v2), (3, .int v3), (4, .int v4), (5, .int v5), (6, .int v6), (7, .int v7), (8, .int v8)] []) (M : gx_M) (v2 : Int32) (v3 : Int32) (v4 : Int32) (v5 : Int32) (v6 : Int32) (v7 : Int32) (v8 : Int32)  (h : T_X11_otherwise_183 Q K135 M v2 v3 v4 v5 v6 v7 v8) : GW z w 9 (gx_Qi w Q (gx_s z).heap.size) M 183 [(0, .ref (gx_ad w 0)), (2, .int v2), (3, .int v3), (4, .int v4), (5, .int v5), (6, .int v6), (7, .int v7), (8, .int v8)] [] := by
  unfold T_X11_otherwise_183 at h
  obtain ⟨x15, hx15⟩ : ∃ y : Int32, y = v8 + 1 := ⟨_, rfl⟩
  have h := h x15 hx15
  refine gw_iinc (v := x15) (lv' := [(8, .int x15), (0, .ref (gx_ad w 0)), (2, .int v2), (3, .int v3), (4, .int v4), (5, .int v5), (6, .int v6), (7, .int v7)]) hC dX11_otherwise_183 (k := 7) rfl (by rw [hx15]; rfl) (by decide) rfl ?_
  refine gw_goto (tgt := 135) hC dX11_otherwise_186 (by decide) ?_
  refine gw_sub (lv' := [(0, .ref (gx_ad w 0)), (2, .int v2), (3, .int v3), (4, .int v4), (5, .int v5), (6, .int v6), (7, .int v7), (8, .int x15)]) [1, 2, 3, 4, 5, 6, 7, 0] rfl ?_
  exact hK135 M v2 v3 v4 v5 v6 v7 x15 h
set_option maxRecDepth 20000 in
theorem J_X11_otherwise_135 {z : gx_X} {d : gx_D} {w : gx_V} {ca : Nat → ClassId} (hC : gx_C z d w cX11_otherwise 9 RX11) (hw : gx_isR ca w) (hR : gx_R z = rm_X11_otherwise) (hr : (gx_me z).sig.returnType = (some .int))  {Q : Int32 → gx_M → Prop} {K189 : gx_M → Int32 → Int32 → Int32 → Int32 → Int32 → Int32 → Prop} (hK189 : ∀ (M : gx_M) (v2 : Int32) (v3 : Int32) (v4 : Int32) (v5 : Int32) (v6 : Int32) (v7 : Int32), K189 M v2 v3 v4 v5 v6 v7 → GW z w 9 (gx_Qi w Q (gx_s z).heap.size) M 189 [(0, .ref (gx_ad w 0)), (2, .int v2), (3, .int v3), (4, .int v4), (5, .int v5), (6, .int v6), (7, .int v7)] []) : ∀ (n : Nat) (M : gx_M) (v2 : Int32) (v3 : Int32) (v4 : Int32) (v5 : Int32) (v6 : Int32) (v7 : Int32) (v8 : Int32) , T_X11_otherwise_135 Q K189 n M v2 v3 v4 v5 v6 v7 v8 → GW z w 9 (gx_Qi w Q (gx_s z).heap.size) M 135 [(0, .ref (gx_ad w 0)), (2, .int v2), (3, .int v3), (4, .int v4), (5, .int v5), (6, .int v6), (7, .int v7), (8, .int v8)] [] := by
  intro n
  induction n with
  | zero =>
    intro M v2 v3 v4 v5 v6 v7 v8 h
    exact h.elim
  | succ n ih =>
    intro M v2 v3 v4 v5 v6 v7 v8 h
    rw [T_X11_otherwise_135] at h
    refine gw_iload hC dX11_otherwise_135 7 rfl ?_
    refine gw_iload hC dX11_otherwise_137 5 rfl ?_
    refine gw_icmp_ge (tgt := 189) hC dX11_otherwise_139 (by decide) (fun hc => ?_) (fun hc => ?_)
    · have h := gx_t h hc
      refine gw_sub (lv' := [(0, .ref (gx_ad w 0)), (2, .int v2), (3, .int v3), (4, .int v4), (5, .int v5), (6, .int v6), (7, .int v7)]) [0, 1, 2, 3, 4, 5, 6] rfl ?_
      exact hK189 M v2 v3 v4 v5 v6 v7 h
    · have h := gx_f h hc
      refine gw_aload_n hC dX11_otherwise_142 rfl 0 rfl ?_
      refine gw_iload hC dX11_otherwise_143 5 rfl ?_
      refine gw_iload hC dX11_otherwise_145 6 rfl ?_
      refine gw_iload hC dX11_otherwise_147 7 rfl ?_
      refine gw_iload hC dX11_otherwise_149 3 rfl ?_
      refine gw_iload_n hC dX11_otherwise_151 rfl 1 rfl ?_
      refine gw_calli (gx_rV hC (n := 5) (As := [.int v6, .int v7, .int v8, .int v4, .int v2]) (rest := []) (fun sz => c_X11_isAs hw  h sz) cv_X11_337_X11_isAs (by rw [hR]; exact rr_X11_otherwise_X11_isAs) ⟨(hw.lt (by decide)), _, _, _, _, gd_0 hw _, cl_X11.1⟩ rfl rfl (Nat.le_of_ble_eq_true rfl) dX11_otherwise_152) ?_
      intro r13 m14 ⟨hm14, h⟩
      rw [hm14]
      refine gw_if_eq (tgt := 183) hC dX11_otherwise_155 (by decide) (fun hc => ?_) (fun hc => ?_)
      · have h := gx_t h hc
        exact J_X11_otherwise_183 hC hw hR hr ih M v2 v3 v4 v5 v6 v7 v8 h
      · have h := gx_f h hc
        refine gw_iload hC dX11_otherwise_158 4 rfl ?_
        refine gw_iload_n hC dX11_otherwise_160 rfl 2 rfl ?_
        refine gw_icmp_ne (tgt := 180) hC dX11_otherwise_161 (by decide) (fun hc => ?_) (fun hc => ?_)
        · have h := gx_f h hc
          obtain ⟨x16, hx16⟩ : ∃ y : Int32, y = v5 + 1 := ⟨_, rfl⟩
          have h := h x16 hx16
          refine gw_iinc (v := x16) (lv' := [(5, .int x16), (0, .ref (gx_ad w 0)), (2, .int v2), (3, .int v3), (4, .int v4), (6, .int v6), (7, .int v7), (8, .int v8)]) hC dX11_otherwise_180 (k := 4) rfl (by rw [hx16]; rfl) (by decide) rfl ?_
          refine gw_sub (lv' := [(0, .ref (gx_ad w 0)), (2, .int v2), (3, .int v3), (4, .int v4), (5, .int x16), (6, .int v6), (7, .int v7), (8, .int v8)]) [1, 2, 3, 4, 0, 5, 6, 7] rfl ?_
          exact J_X11_otherwise_183 hC hw hR hr ih M v2 v3 v4 x16 v6 v7 v8 h
        · have h := gx_t h hc
          refine gw_sipush (v := 10000) hC dX11_otherwise_164 (by decide) ?_
          refine gw_iload hC dX11_otherwise_167 5 rfl ?_
          refine gw_imul hC dX11_otherwise_169 ?_
          refine gw_bipush (v := 100) hC dX11_otherwise_170 (by decide) ?_
          refine gw_iload hC dX11_otherwise_172 6 rfl ?_
          refine gw_imul hC dX11_otherwise_174 ?_
          refine gw_iadd hC dX11_otherwise_175 ?_
          refine gw_iload hC dX11_otherwise_176 7 rfl ?_
          refine gw_iadd hC dX11_otherwise_178 ?_
          exact gw_iret hC hr dX11_otherwise_179 h
set_option maxRecDepth 20000 in
theorem J_X11_otherwise_125 {z : gx_X} {d : gx_D} {w : gx_V} {ca : Nat → ClassId} (hC : gx_C z d w cX11_otherwise 9 RX11) (hw : gx_isR ca w) (hR : gx_R z = rm_X11_otherwise) (hr : (gx_me z).sig.returnType = (some .int))  {Q : Int32 → gx_M → Prop} {K195 : gx_M → Int32 → Int32 → Int32 → Int32 → Int32 → Prop} (hK195 : ∀ (M : gx_M) (v2 : Int32) (v3 : Int32) (v4 : Int32) (v5 : Int32) (v6 : Int32), K195 M v2 v3 v4 v5 v6 → GW z w 9 (gx_Qi w Q (gx_s z).heap.size) M 195 [(0, .ref (gx_ad w 0)), (2, .int v2), (3, .int v3), (4, .int v4), (5, .int v5), (6, .int v6)] []) : ∀ (n : Nat) (M : gx_M) (v2 : Int32) (v3 : Int32) (v4 : Int32) (v5 : Int32) (v6 : Int32) (v7 : Int32) , T_X11_otherwise_125 Q K195 n M v2 v3 v4 v5 v6 v7 → GW z w 9 (gx_Qi w Q (gx_s z).heap.size) M 125 [(0, .ref (gx_ad w 0)), (2, .int v2), (3, .int v3), (4, .int v4), (5, .int v5), (6, .int v6), (7, .int v7)] [] := by
  intro n
  induction n with
  | zero =>
    intro M v2 v3 v4 v5 v6 v7 h
    exact h.elim
  | succ n ih =>
    intro M v2 v3 v4 v5 v6 v7 h
    rw [T_X11_otherwise_125] at h
    refine gw_iload hC dX11_otherwise_125 6 rfl ?_
    refine gw_iload hC dX11_otherwise_127 5 rfl ?_
    refine gw_icmp_ge (tgt := 195) hC dX11_otherwise_129 (by decide) (fun hc => ?_) (fun hc => ?_)
    · have h := gx_t h hc
      refine gw_sub (lv' := [(0, .ref (gx_ad w 0)), (2, .int v2), (3, .int v3), (4, .int v4), (5, .int v5), (6, .int v6)]) [0, 1, 2, 3, 4, 5] rfl ?_
      exact hK195 M v2 v3 v4 v5 v6 h
    · have h := gx_f h hc
      refine gw_iconst (v := 0) hC dX11_otherwise_132 (by decide) ?_
      refine gw_istore (lv' := [(8, .int 0), (0, .ref (gx_ad w 0)), (2, .int v2), (3, .int v3), (4, .int v4), (5, .int v5), (6, .int v6), (7, .int v7)]) hC dX11_otherwise_133 (by decide) rfl ?_
      obtain ⟨k17, h⟩ := h
      refine gw_sub (lv' := [(0, .ref (gx_ad w 0)), (2, .int v2), (3, .int v3), (4, .int v4), (5, .int v5), (6, .int v6), (7, .int v7), (8, .int 0)]) [1, 2, 3, 4, 5, 6, 7, 0] rfl ?_
      exact J_X11_otherwise_135 hC hw hR hr (fun M24 v2_18 v3_19 v4_20 v5_21 v6_22 v7_23 h => by
          obtain ⟨x25, hx25⟩ : ∃ y : Int32, y = v7_23 + 1 := ⟨_, rfl⟩
          have h := h x25 hx25
          refine gw_iinc (v := x25) (lv' := [(7, .int x25), (0, .ref (gx_ad w 0)), (2, .int v2_18), (3, .int v3_19), (4, .int v4_20), (5, .int v5_21), (6, .int v6_22)]) hC dX11_otherwise_189 (k := 6) rfl (by rw [hx25]; rfl) (by decide) rfl ?_
          refine gw_goto (tgt := 125) hC dX11_otherwise_192 (by decide) ?_
          refine gw_sub (lv' := [(0, .ref (gx_ad w 0)), (2, .int v2_18), (3, .int v3_19), (4, .int v4_20), (5, .int v5_21), (6, .int v6_22), (7, .int x25)]) [1, 2, 3, 4, 5, 6, 0] rfl ?_
          exact ih M24 v2_18 v3_19 v4_20 v5_21 v6_22 x25 h) k17 M v2 v3 v4 v5 v6 v7 0 h
set_option maxRecDepth 20000 in
theorem J_X11_otherwise_110 {z : gx_X} {d : gx_D} {w : gx_V} {ca : Nat → ClassId} (hC : gx_C z d w cX11_otherwise 9 RX11) (hw : gx_isR ca w) (hR : gx_R z = rm_X11_otherwise) (hr : (gx_me z).sig.returnType = (some .int))  {Q : Int32 → gx_M → Prop} {K201 : gx_M → Int32 → Int32 → Prop} (hK201 : ∀ (M : gx_M) (v3 : Int32) (v5 : Int32), K201 M v3 v5 → GW z w 9 (gx_Qi w Q (gx_s z).heap.size) M 201 [(3, .int v3), (5, .int v5)] []) : ∀ (n : Nat) (M : gx_M) (v2 : Int32) (v3 : Int32) (v4 : Int32) (v5 : Int32) (v6 : Int32) , T_X11_otherwise_110 Q K201 n M v2 v3 v4 v5 v6 → GW z w 9 (gx_Qi w Q (gx_s z).heap.size) M 110 [(0, .ref (gx_ad w 0)), (2, .int v2), (3, .int v3), (4, .int v4), (5, .int v5), (6, .int v6)] [] := by
  intro n
  induction n with
  | zero =>
    intro M v2 v3 v4 v5 v6 h
    exact h.elim
  | succ n ih =>
    intro M v2 v3 v4 v5 v6 h
    rw [T_X11_otherwise_110] at h
    refine gw_iload hC dX11_otherwise_110 5 rfl ?_
    refine gw_bipush (v := 25) hC dX11_otherwise_112 (by decide) ?_
    refine gw_icmp_ge (tgt := 201) hC dX11_otherwise_114 (by decide) (fun hc => ?_) (fun hc => ?_)
    · have h := gx_t h hc
      refine gw_sub (lv' := [(3, .int v3), (5, .int v5)]) [2, 4] rfl ?_
      exact hK201 M v3 v5 h
    · have h := gx_f h hc
      refine gw_iload hC dX11_otherwise_117 3 rfl ?_
      refine gw_if_le (tgt := 201) hC dX11_otherwise_119 (by decide) (fun hc => ?_) (fun hc => ?_)
      · have h := gx_t h hc
        refine gw_sub (lv' := [(3, .int v3), (5, .int v5)]) [2, 4] rfl ?_
        exact hK201 M v3 v5 h
      · have h := gx_f h hc
        refine gw_iconst (v := 1) hC dX11_otherwise_122 (by decide) ?_
        refine gw_istore (lv' := [(7, .int 1), (0, .ref (gx_ad w 0)), (2, .int v2), (3, .int v3), (4, .int v4), (5, .int v5), (6, .int v6)]) hC dX11_otherwise_123 (by decide) rfl ?_
        obtain ⟨k26, h⟩ := h
        refine gw_sub (lv' := [(0, .ref (gx_ad w 0)), (2, .int v2), (3, .int v3), (4, .int v4), (5, .int v5), (6, .int v6), (7, .int 1)]) [1, 2, 3, 4, 5, 6, 0] rfl ?_
        exact J_X11_otherwise_125 hC hw hR hr (fun M32 v2_27 v3_28 v4_29 v5_30 v6_31 h => by
            obtain ⟨x33, hx33⟩ : ∃ y : Int32, y = v6_31 + 1 := ⟨_, rfl⟩
            have h := h x33 hx33
            refine gw_iinc (v := x33) (lv' := [(6, .int x33), (0, .ref (gx_ad w 0)), (2, .int v2_27), (3, .int v3_28), (4, .int v4_29), (5, .int v5_30)]) hC dX11_otherwise_195 (k := 5) rfl (by rw [hx33]; rfl) (by decide) rfl ?_
            refine gw_goto (tgt := 110) hC dX11_otherwise_198 (by decide) ?_
            refine gw_sub (lv' := [(0, .ref (gx_ad w 0)), (2, .int v2_27), (3, .int v3_28), (4, .int v4_29), (5, .int v5_30), (6, .int x33)]) [1, 2, 3, 4, 5, 0] rfl ?_
            exact ih M32 v2_27 v3_28 v4_29 v5_30 x33 h) k26 M v2 v3 v4 v5 v6 1 h
set_option maxRecDepth 20000 in
theorem J_X11_otherwise_201 {z : gx_X} {d : gx_D} {w : gx_V} {ca : Nat → ClassId} (hC : gx_C z d w cX11_otherwise 9 RX11) (hw : gx_isR ca w) (hR : gx_R z = rm_X11_otherwise) (hr : (gx_me z).sig.returnType = (some .int))  {Q : Int32 → gx_M → Prop}   (M : gx_M) (v3 : Int32) (v5 : Int32)  (h : T_X11_otherwise_201 Q  M v3 v5) : GW z w 9 (gx_Qi w Q (gx_s z).heap.size) M 201 [(3, .int v3), (5, .int v5)] [] := by
  unfold T_X11_otherwise_201 at h
  refine gw_iload_n hC dX11_otherwise_201 rfl 0 rfl ?_
  refine gw_iconst (v := (-1)) hC dX11_otherwise_202 (by decide) ?_
  refine gw_icmp_ne (tgt := 211) hC dX11_otherwise_203 (by decide) (fun hc => ?_) (fun hc => ?_)
  · have h := gx_f h hc
    refine gw_iconst (v := (-1)) hC dX11_otherwise_211 (by decide) ?_
    exact gw_iret hC hr dX11_otherwise_212 h
  · have h := gx_t h hc
    refine gw_iload hC dX11_otherwise_206 1 rfl ?_
    refine gw_goto (tgt := 212) hC dX11_otherwise_208 (by decide) ?_
    exact gw_iret hC hr dX11_otherwise_212 h
set_option maxRecDepth 20000 in
theorem J_X11_otherwise {z : gx_X} {d : gx_D} {w : gx_V} {ca : Nat → ClassId} (hC : gx_C z d w cX11_otherwise 9 RX11) (hw : gx_isR ca w) (hR : gx_R z = rm_X11_otherwise) (hr : (gx_me z).sig.returnType = (some .int))   {M : gx_M} {v1 : Int32} {v2 : Int32} {v3 : Int32} {Q : Int32 → gx_M → Prop} (h : T_X11_otherwise M v1 v2 v3 Q) : GW z w 9 (gx_Qi w Q (gx_s z).heap.size) M 0 [(0, .ref (gx_ad w 0)), (1, .int v1), (2, .int v2), (3, .int v3)] [] := by
  unfold T_X11_otherwise at h
  refine gw_iload_n hC dX11_otherwise_0 rfl 1 rfl ?_
  refine gw_calli (gx_rS hC (n := 1) (As := [.int v1]) (rest := []) (fun sz => c_X11_isChannel hw  h sz) cs_X11_115_X11_isChannel (by rw [hR]; exact rr_X11_otherwise_X11_isChannel) rfl rfl (Nat.le_of_ble_eq_true rfl) dX11_otherwise_1) ?_
  intro r1 m2 ⟨hm2, h⟩
  rw [hm2]
  refine gw_if_eq (tgt := 23) hC dX11_otherwise_4 (by decide) (fun hc => ?_) (fun hc => ?_)
  · have h := gx_t h hc
    refine gw_iconst (v := (-1)) hC dX11_otherwise_23 (by decide) ?_
    exact gw_iret hC hr dX11_otherwise_24 h
  · have h := gx_f h hc
    refine gw_iload_n hC dX11_otherwise_7 rfl 2 rfl ?_
    refine gw_iconst (v := 0) hC dX11_otherwise_8 (by decide) ?_
    refine gw_sipush (v := 1000) hC dX11_otherwise_9 (by decide) ?_
    refine gw_calli (gx_rS hC (n := 3) (As := [.int v2, .int 0, .int 1000]) (rest := []) (fun sz => c_X11_in hw  h sz) cs_X11_97_X11_in (by rw [hR]; exact rr_X11_otherwise_X11_in) rfl rfl (Nat.le_of_ble_eq_true rfl) dX11_otherwise_12) ?_
    intro r3 m4 ⟨hm4, h⟩
    rw [hm4]
    refine gw_if_eq (tgt := 23) hC dX11_otherwise_15 (by decide) (fun hc => ?_) (fun hc => ?_)
    · have h := gx_t h hc
      refine gw_iconst (v := (-1)) hC dX11_otherwise_23 (by decide) ?_
      exact gw_iret hC hr dX11_otherwise_24 h
    · have h := gx_f h hc
      refine gw_iload_n hC dX11_otherwise_18 rfl 3 rfl ?_
      refine gw_iconst (v := (-1)) hC dX11_otherwise_19 (by decide) ?_
      refine gw_icmp_ge (tgt := 25) hC dX11_otherwise_20 (by decide) (fun hc => ?_) (fun hc => ?_)
      · have h := gx_t h hc
        refine gw_aload_n hC dX11_otherwise_25 rfl 0 rfl ?_
        refine gw_iload_n hC dX11_otherwise_26 rfl 1 rfl ?_
        refine gw_callv (gx_rV hC (n := 1) (As := [.int v1]) (rest := []) (fun sz => c_X11_laysOut hw  h sz) cv_X11_118_X11_laysOut (by rw [hR]; exact rr_X11_otherwise_X11_laysOut) ⟨(hw.lt (by decide)), _, _, _, _, gd_0 hw _, cl_X11.1⟩ rfl rfl (Nat.le_of_ble_eq_true rfl) dX11_otherwise_27) ?_
        intro M5 h
        refine gw_iconst (v := 0) hC dX11_otherwise_30 (by decide) ?_
        refine gw_istore (lv' := [(4, .int 0), (0, .ref (gx_ad w 0)), (1, .int v1), (2, .int v2), (3, .int v3)]) hC dX11_otherwise_31 (by decide) rfl ?_
        refine gw_iconst (v := 0) hC dX11_otherwise_33 (by decide) ?_
        refine gw_istore (lv' := [(5, .int 0), (4, .int 0), (0, .ref (gx_ad w 0)), (1, .int v1), (2, .int v2), (3, .int v3)]) hC dX11_otherwise_34 (by decide) rfl ?_
        obtain ⟨k8, h⟩ := h
        refine gw_sub (lv' := [(0, .ref (gx_ad w 0)), (1, .int v1), (2, .int v2), (3, .int v3), (4, .int 0), (5, .int 0)]) [2, 3, 4, 5, 1, 0] rfl ?_
        exact J_X11_otherwise_36 hC hw hR hr (fun M12 v2_9 v3_10 v4_11 h => by
            refine gw_iconst (v := 0) hC dX11_otherwise_104 (by decide) ?_
            refine gw_istore (lv' := [(5, .int 0), (0, .ref (gx_ad w 0)), (2, .int v2_9), (3, .int v3_10), (4, .int v4_11)]) hC dX11_otherwise_105 (by decide) rfl ?_
            refine gw_iconst (v := 2) hC dX11_otherwise_107 (by decide) ?_
            refine gw_istore (lv' := [(6, .int 2), (5, .int 0), (0, .ref (gx_ad w 0)), (2, .int v2_9), (3, .int v3_10), (4, .int v4_11)]) hC dX11_otherwise_108 (by decide) rfl ?_
            obtain ⟨k34, h⟩ := h
            refine gw_sub (lv' := [(0, .ref (gx_ad w 0)), (2, .int v2_9), (3, .int v3_10), (4, .int v4_11), (5, .int 0), (6, .int 2)]) [2, 3, 4, 5, 1, 0] rfl ?_
            exact J_X11_otherwise_110 hC hw hR hr (fun M37 v3_35 v5_36 h => by
                exact J_X11_otherwise_201 hC hw hR hr  M37 v3_35 v5_36 h) k34 M12 v2_9 v3_10 v4_11 0 2 h) k8 M5 v1 v2 v3 0 0 h
      · have h := gx_f h hc
        refine gw_iconst (v := (-1)) hC dX11_otherwise_23 (by decide) ?_
        exact gw_iret hC hr dX11_otherwise_24 h
theorem c_X11_otherwise {l : Launch} {d : gx_D} {w : gx_V} {ca : Nat → ClassId} (hw : gx_isR ca w)   {M : gx_M} {v1 : Int32} {v2 : Int32} {v3 : Int32} {Q : Int32 → gx_M → Prop} (h : T_X11_otherwise M v1 v2 v3 Q) : gx_Mi l d w yX11_otherwise cX11_otherwise 9 .int rm_X11_otherwise [.ref (gx_ad w 0), .int v1, .int v2, .int v3] M Q := fun sz =>
  gx_of (own := RX11) (by decide +kernel) rfl (Nat.le_of_ble_eq_true rfl) (fun z hC hl hR hsz hr => by subst hsz; exact J_X11_otherwise hC hw hR hr  h) rfl
set_option maxRecDepth 20000 in
theorem J_X11_catches_137 {z : gx_X} {d : gx_D} {w : gx_V} {ca : Nat → ClassId} (hC : gx_C z d w cX11_catches 10 RX11) (hw : gx_isR ca w) (hR : gx_R z = rm_X11_catches) (hr : (gx_me z).sig.returnType = (some .boolean)) {M : gx_M} {Q : Int32 → Prop} {K18 : Int32 → Int32 → Int32 → Int32 → Int32 → Int32 → Prop} (hK18 : ∀ (v1 : Int32) (v2 : Int32) (v3 : Int32) (v4 : Int32) (v5 : Int32) (v6 : Int32), K18 v1 v2 v3 v4 v5 v6 → GW z w 10 (gx_Qi w (fun r M1 => M1 = M ∧ Q r) (gx_s z).heap.size) M 18 [(0, .ref (gx_ad w 0)), (1, .int v1), (2, .int v2), (3, .int v3), (4, .int v4), (5, .int v5), (6, .int v6)] []) (v1 : Int32) (v2 : Int32) (v3 : Int32) (v4 : Int32) (v5 : Int32) (v6 : Int32)  (h : T_X11_catches_137 M Q K18 v1 v2 v3 v4 v5 v6) : GW z w 10 (gx_Qi w (fun r M1 => M1 = M ∧ Q r) (gx_s z).heap.size) M 137 [(0, .ref (gx_ad w 0)), (1, .int v1), (2, .int v2), (3, .int v3), (4, .int v4), (5, .int v5), (6, .int v6)] [] := by
  unfold T_X11_catches_137 at h
  obtain ⟨x2, hx2⟩ : ∃ y : Int32, y = v6 + 1 := ⟨_, rfl⟩
  have h := h x2 hx2
  refine gw_iinc (v := x2) (lv' := [(6, .int x2), (0, .ref (gx_ad w 0)), (1, .int v1), (2, .int v2), (3, .int v3), (4, .int v4), (5, .int v5)]) hC dX11_catches_137 (k := 6) rfl (by rw [hx2]; rfl) (by decide) rfl ?_
  refine gw_goto (tgt := 18) hC dX11_catches_140 (by decide) ?_
  refine gw_sub (lv' := [(0, .ref (gx_ad w 0)), (1, .int v1), (2, .int v2), (3, .int v3), (4, .int v4), (5, .int v5), (6, .int x2)]) [1, 2, 3, 4, 5, 6, 0] rfl ?_
  exact hK18 v1 v2 v3 v4 v5 x2 h
set_option maxRecDepth 20000 in
theorem J_X11_catches_135 {z : gx_X} {d : gx_D} {w : gx_V} {ca : Nat → ClassId} (hC : gx_C z d w cX11_catches 10 RX11) (hw : gx_isR ca w) (hR : gx_R z = rm_X11_catches) (hr : (gx_me z).sig.returnType = (some .boolean)) {M : gx_M} {Q : Int32 → Prop} {K18 : Int32 → Int32 → Int32 → Int32 → Int32 → Int32 → Prop} (hK18 : ∀ (v1 : Int32) (v2 : Int32) (v3 : Int32) (v4 : Int32) (v5 : Int32) (v6 : Int32), K18 v1 v2 v3 v4 v5 v6 → GW z w 10 (gx_Qi w (fun r M1 => M1 = M ∧ Q r) (gx_s z).heap.size) M 18 [(0, .ref (gx_ad w 0)), (1, .int v1), (2, .int v2), (3, .int v3), (4, .int v4), (5, .int v5), (6, .int v6)] []) (t0 : Int32) (v1 : Int32) (v2 : Int32) (v3 : Int32) (v5 : Int32) (v6 : Int32)  (h : T_X11_catches_135 M Q K18 t0 v1 v2 v3 v5 v6) : GW z w 10 (gx_Qi w (fun r M1 => M1 = M ∧ Q r) (gx_s z).heap.size) M 135 [(0, .ref (gx_ad w 0)), (1, .int v1), (2, .int v2), (3, .int v3), (5, .int v5), (6, .int v6)] [.int t0] := by
  unfold T_X11_catches_135 at h
  refine gw_istore (lv' := [(4, .int t0), (0, .ref (gx_ad w 0)), (1, .int v1), (2, .int v2), (3, .int v3), (5, .int v5), (6, .int v6)]) hC dX11_catches_135 (by decide) rfl ?_
  refine gw_sub (lv' := [(0, .ref (gx_ad w 0)), (1, .int v1), (2, .int v2), (3, .int v3), (4, .int t0), (5, .int v5), (6, .int v6)]) [1, 2, 3, 4, 0, 5, 6] rfl ?_
  exact J_X11_catches_137 hC hw hR hr hK18 v1 v2 v3 t0 v5 v6 h
set_option maxRecDepth 20000 in
theorem J_X11_catches_130 {z : gx_X} {d : gx_D} {w : gx_V} {ca : Nat → ClassId} (hC : gx_C z d w cX11_catches 10 RX11) (hw : gx_isR ca w) (hR : gx_R z = rm_X11_catches) (hr : (gx_me z).sig.returnType = (some .boolean)) {M : gx_M} {Q : Int32 → Prop} {K18 : Int32 → Int32 → Int32 → Int32 → Int32 → Int32 → Prop} (hK18 : ∀ (v1 : Int32) (v2 : Int32) (v3 : Int32) (v4 : Int32) (v5 : Int32) (v6 : Int32), K18 v1 v2 v3 v4 v5 v6 → GW z w 10 (gx_Qi w (fun r M1 => M1 = M ∧ Q r) (gx_s z).heap.size) M 18 [(0, .ref (gx_ad w 0)), (1, .int v1), (2, .int v2), (3, .int v3), (4, .int v4), (5, .int v5), (6, .int v6)] []) (v1 : Int32) (v2 : Int32) (v3 : Int32) (v5 : Int32) (v6 : Int32)  (h : T_X11_catches_130 M Q K18 v1 v2 v3 v5 v6) : GW z w 10 (gx_Qi w (fun r M1 => M1 = M ∧ Q r) (gx_s z).heap.size) M 130 [(0, .ref (gx_ad w 0)), (1, .int v1), (2, .int v2), (3, .int v3), (5, .int v5), (6, .int v6)] [] := by
  unfold T_X11_catches_130 at h
  refine gw_iconst (v := 1) hC dX11_catches_130 (by decide) ?_
  refine gw_goto (tgt := 135) hC dX11_catches_131 (by decide) ?_
  exact J_X11_catches_135 hC hw hR hr hK18 1 v1 v2 v3 v5 v6 h
set_option maxRecDepth 20000 in
theorem J_X11_catches_134 {z : gx_X} {d : gx_D} {w : gx_V} {ca : Nat → ClassId} (hC : gx_C z d w cX11_catches 10 RX11) (hw : gx_isR ca w) (hR : gx_R z = rm_X11_catches) (hr : (gx_me z).sig.returnType = (some .boolean)) {M : gx_M} {Q : Int32 → Prop} {K18 : Int32 → Int32 → Int32 → Int32 → Int32 → Int32 → Prop} (hK18 : ∀ (v1 : Int32) (v2 : Int32) (v3 : Int32) (v4 : Int32) (v5 : Int32) (v6 : Int32), K18 v1 v2 v3 v4 v5 v6 → GW z w 10 (gx_Qi w (fun r M1 => M1 = M ∧ Q r) (gx_s z).heap.size) M 18 [(0, .ref (gx_ad w 0)), (1, .int v1), (2, .int v2), (3, .int v3), (4, .int v4), (5, .int v5), (6, .int v6)] []) (v1 : Int32) (v2 : Int32) (v3 : Int32) (v5 : Int32) (v6 : Int32)  (h : T_X11_catches_134 M Q K18 v1 v2 v3 v5 v6) : GW z w 10 (gx_Qi w (fun r M1 => M1 = M ∧ Q r) (gx_s z).heap.size) M 134 [(0, .ref (gx_ad w 0)), (1, .int v1), (2, .int v2), (3, .int v3), (5, .int v5), (6, .int v6)] [] := by
  unfold T_X11_catches_134 at h
  refine gw_iconst (v := 0) hC dX11_catches_134 (by decide) ?_
  exact J_X11_catches_135 hC hw hR hr hK18 0 v1 v2 v3 v5 v6 h
set_option maxRecDepth 20000 in
theorem J_X11_catches_100 {z : gx_X} {d : gx_D} {w : gx_V} {ca : Nat → ClassId} (hC : gx_C z d w cX11_catches 10 RX11) (hw : gx_isR ca w) (hR : gx_R z = rm_X11_catches) (hr : (gx_me z).sig.returnType = (some .boolean)) {M : gx_M} {Q : Int32 → Prop} {K18 : Int32 → Int32 → Int32 → Int32 → Int32 → Int32 → Prop} (hK18 : ∀ (v1 : Int32) (v2 : Int32) (v3 : Int32) (v4 : Int32) (v5 : Int32) (v6 : Int32), K18 v1 v2 v3 v4 v5 v6 → GW z w 10 (gx_Qi w (fun r M1 => M1 = M ∧ Q r) (gx_s z).heap.size) M 18 [(0, .ref (gx_ad w 0)), (1, .int v1), (2, .int v2), (3, .int v3), (4, .int v4), (5, .int v5), (6, .int v6)] []) (t0 : Int32) (v1 : Int32) (v2 : Int32) (v3 : Int32) (v4 : Int32) (v5 : Int32) (v6 : Int32) (v7 : Int32)  (h : T_X11_catches_100 M Q K18 t0 v1 v2 v3 v4 v5 v6 v7) : GW z w 10 (gx_Qi w (fun r M1 => M1 = M ∧ Q r) (gx_s z).heap.size) M 100 [(0, .ref (gx_ad w 0)), (1, .int v1), (2, .int v2), (3, .int v3), (4, .int v4), (5, .int v5), (6, .int v6), (7, .int v7)] [.int t0] := by
  unfold T_X11_catches_100 at h
  refine gw_istore (lv' := [(9, .int t0), (0, .ref (gx_ad w 0)), (1, .int v1), (2, .int v2), (3, .int v3), (4, .int v4), (5, .int v5), (6, .int v6), (7, .int v7)]) hC dX11_catches_100 (by decide) rfl ?_
  refine gw_iload hC dX11_catches_102 5 rfl ?_
  refine gw_if_ne (tgt := 130) hC dX11_catches_104 (by decide) (fun hc => ?_) (fun hc => ?_)
  · have h := gx_f h hc
    refine gw_sub (lv' := [(0, .ref (gx_ad w 0)), (1, .int v1), (2, .int v2), (3, .int v3), (5, .int v5), (6, .int v6)]) [1, 2, 3, 4, 6, 7] rfl ?_
    exact J_X11_catches_130 hC hw hR hr hK18 v1 v2 v3 v5 v6 h
  · have h := gx_t h hc
    refine gw_iload hC dX11_catches_107 0 rfl ?_
    refine gw_if_eq (tgt := 134) hC dX11_catches_109 (by decide) (fun hc => ?_) (fun hc => ?_)
    · have h := gx_t h hc
      refine gw_sub (lv' := [(0, .ref (gx_ad w 0)), (1, .int v1), (2, .int v2), (3, .int v3), (5, .int v5), (6, .int v6)]) [1, 2, 3, 4, 6, 7] rfl ?_
      exact J_X11_catches_134 hC hw hR hr hK18 v1 v2 v3 v5 v6 h
    · have h := gx_f h hc
      refine gw_aload_n hC dX11_catches_112 rfl 1 rfl ?_
      refine gw_iload_n hC dX11_catches_113 rfl 3 rfl ?_
      refine gw_iload hC dX11_catches_114 8 rfl ?_
      refine gw_calli (gx_rV hC (n := 2) (As := [.int v2, .int v7]) (rest := []) (fun sz => c_X11_phase hw  h sz) cv_X11_105_X11_phase (by rw [hR]; exact rr_X11_catches_X11_phase) ⟨(hw.lt (by decide)), _, _, _, _, gd_0 hw _, cl_X11.1⟩ rfl rfl (Nat.le_of_ble_eq_true rfl) dX11_catches_116) ?_
      intro r5 m6 ⟨hm6, h⟩
      rw [hm6]
      refine gw_aload_n hC dX11_catches_119 rfl 1 rfl ?_
      refine gw_get hC cl_X11 fg_X11_7 (hw.lt (by decide)) (gd_0 hw _) (gv_X11_0 _ _ _) dX11_catches_120 ?_
      refine gw_iload_n hC dX11_catches_123 rfl 3 rfl ?_
      refine gw_iconst (v := 3) hC dX11_catches_124 (by decide) ?_
      refine gw_iadd hC dX11_catches_125 ?_
      obtain ⟨hi, h⟩ := h
      refine gw_iald hC (hw.lt (by decide)) (gd_1 hw _) (gu_0 hw) hi dX11_catches_126 ?_
      refine gw_icmp_ge (tgt := 134) hC dX11_catches_127 (by decide) (fun hc => ?_) (fun hc => ?_)
      · have h := gx_t h hc
        refine gw_sub (lv' := [(0, .ref (gx_ad w 0)), (1, .int v1), (2, .int v2), (3, .int v3), (5, .int v5), (6, .int v6)]) [1, 2, 3, 4, 6, 7] rfl ?_
        exact J_X11_catches_134 hC hw hR hr hK18 v1 v2 v3 v5 v6 h
      · have h := gx_f h hc
        refine gw_sub (lv' := [(0, .ref (gx_ad w 0)), (1, .int v1), (2, .int v2), (3, .int v3), (5, .int v5), (6, .int v6)]) [1, 2, 3, 4, 6, 7] rfl ?_
        exact J_X11_catches_130 hC hw hR hr hK18 v1 v2 v3 v5 v6 h
set_option maxRecDepth 20000 in
theorem J_X11_catches_95 {z : gx_X} {d : gx_D} {w : gx_V} {ca : Nat → ClassId} (hC : gx_C z d w cX11_catches 10 RX11) (hw : gx_isR ca w) (hR : gx_R z = rm_X11_catches) (hr : (gx_me z).sig.returnType = (some .boolean)) {M : gx_M} {Q : Int32 → Prop} {K18 : Int32 → Int32 → Int32 → Int32 → Int32 → Int32 → Prop} (hK18 : ∀ (v1 : Int32) (v2 : Int32) (v3 : Int32) (v4 : Int32) (v5 : Int32) (v6 : Int32), K18 v1 v2 v3 v4 v5 v6 → GW z w 10 (gx_Qi w (fun r M1 => M1 = M ∧ Q r) (gx_s z).heap.size) M 18 [(0, .ref (gx_ad w 0)), (1, .int v1), (2, .int v2), (3, .int v3), (4, .int v4), (5, .int v5), (6, .int v6)] []) (v1 : Int32) (v2 : Int32) (v3 : Int32) (v4 : Int32) (v5 : Int32) (v6 : Int32) (v7 : Int32)  (h : T_X11_catches_95 M Q K18 v1 v2 v3 v4 v5 v6 v7) : GW z w 10 (gx_Qi w (fun r M1 => M1 = M ∧ Q r) (gx_s z).heap.size) M 95 [(0, .ref (gx_ad w 0)), (1, .int v1), (2, .int v2), (3, .int v3), (4, .int v4), (5, .int v5), (6, .int v6), (7, .int v7)] [] := by
  unfold T_X11_catches_95 at h
  refine gw_iconst (v := 1) hC dX11_catches_95 (by decide) ?_
  refine gw_goto (tgt := 100) hC dX11_catches_96 (by decide) ?_
  exact J_X11_catches_100 hC hw hR hr hK18 1 v1 v2 v3 v4 v5 v6 v7 h
set_option maxRecDepth 20000 in
theorem J_X11_catches_99 {z : gx_X} {d : gx_D} {w : gx_V} {ca : Nat → ClassId} (hC : gx_C z d w cX11_catches 10 RX11) (hw : gx_isR ca w) (hR : gx_R z = rm_X11_catches) (hr : (gx_me z).sig.returnType = (some .boolean)) {M : gx_M} {Q : Int32 → Prop} {K18 : Int32 → Int32 → Int32 → Int32 → Int32 → Int32 → Prop} (hK18 : ∀ (v1 : Int32) (v2 : Int32) (v3 : Int32) (v4 : Int32) (v5 : Int32) (v6 : Int32), K18 v1 v2 v3 v4 v5 v6 → GW z w 10 (gx_Qi w (fun r M1 => M1 = M ∧ Q r) (gx_s z).heap.size) M 18 [(0, .ref (gx_ad w 0)), (1, .int v1), (2, .int v2), (3, .int v3), (4, .int v4), (5, .int v5), (6, .int v6)] []) (v1 : Int32) (v2 : Int32) (v3 : Int32) (v4 : Int32) (v5 : Int32) (v6 : Int32) (v7 : Int32)  (h : T_X11_catches_99 M Q K18 v1 v2 v3 v4 v5 v6 v7) : GW z w 10 (gx_Qi w (fun r M1 => M1 = M ∧ Q r) (gx_s z).heap.size) M 99 [(0, .ref (gx_ad w 0)), (1, .int v1), (2, .int v2), (3, .int v3), (4, .int v4), (5, .int v5), (6, .int v6), (7, .int v7)] [] := by
  unfold T_X11_catches_99 at h
  refine gw_iconst (v := 0) hC dX11_catches_99 (by decide) ?_
  exact J_X11_catches_100 hC hw hR hr hK18 0 v1 v2 v3 v4 v5 v6 v7 h
set_option maxRecDepth 20000 in
theorem J_X11_catches_18 {z : gx_X} {d : gx_D} {w : gx_V} {ca : Nat → ClassId} (hC : gx_C z d w cX11_catches 10 RX11) (hw : gx_isR ca w) (hR : gx_R z = rm_X11_catches) (hr : (gx_me z).sig.returnType = (some .boolean)) {M : gx_M} {Q : Int32 → Prop} {K143 : Int32 → Int32 → Int32 → Int32 → Int32 → Prop} (hK143 : ∀ (v1 : Int32) (v2 : Int32) (v3 : Int32) (v4 : Int32) (v5 : Int32), K143 v1 v2 v3 v4 v5 → GW z w 10 (gx_Qi w (fun r M1 => M1 = M ∧ Q r) (gx_s z).heap.size) M 143 [(0, .ref (gx_ad w 0)), (1, .int v1), (2, .int v2), (3, .int v3), (4, .int v4), (5, .int v5)] []) : ∀ (n : Nat) (v1 : Int32) (v2 : Int32) (v3 : Int32) (v4 : Int32) (v5 : Int32) (v6 : Int32) , T_X11_catches_18 M Q K143 n v1 v2 v3 v4 v5 v6 → GW z w 10 (gx_Qi w (fun r M1 => M1 = M ∧ Q r) (gx_s z).heap.size) M 18 [(0, .ref (gx_ad w 0)), (1, .int v1), (2, .int v2), (3, .int v3), (4, .int v4), (5, .int v5), (6, .int v6)] [] := by
  intro n
  induction n with
  | zero =>
    intro v1 v2 v3 v4 v5 v6 h
    exact h.elim
  | succ n ih =>
    intro v1 v2 v3 v4 v5 v6 h
    rw [T_X11_catches_18] at h
    refine gw_iload hC dX11_catches_18 6 rfl ?_
    refine gw_bipush (v := 20) hC dX11_catches_20 (by decide) ?_
    refine gw_icmp_ge (tgt := 143) hC dX11_catches_22 (by decide) (fun hc => ?_) (fun hc => ?_)
    · have h := gx_t h hc
      refine gw_sub (lv' := [(0, .ref (gx_ad w 0)), (1, .int v1), (2, .int v2), (3, .int v3), (4, .int v4), (5, .int v5)]) [0, 1, 2, 3, 4, 5] rfl ?_
      exact hK143 v1 v2 v3 v4 v5 h
    · have h := gx_f h hc
      refine gw_aload_n hC dX11_catches_25 rfl 0 rfl ?_
      refine gw_get hC cl_X11 fg_X11_76 (hw.lt (by decide)) (gd_0 hw _) (gv_X11_36 _ _ _) dX11_catches_26 ?_
      refine gw_iload hC dX11_catches_29 5 rfl ?_
      obtain ⟨hi, h⟩ := h
      refine gw_iald hC (hw.lt (by decide)) (gd_20 hw _) (gu_0 hw) hi dX11_catches_31 ?_
      refine gw_iload hC dX11_catches_32 6 rfl ?_
      refine gw_aload_n hC dX11_catches_34 rfl 0 rfl ?_
      refine gw_get hC cl_X11 fg_X11_7 (hw.lt (by decide)) (gd_0 hw _) (gv_X11_0 _ _ _) dX11_catches_35 ?_
      refine gw_iconst (v := 2) hC dX11_catches_38 (by decide) ?_
      obtain ⟨hi, h⟩ := h
      refine gw_iald hC (hw.lt (by decide)) (gd_1 hw _) (gu_0 hw) hi dX11_catches_39 ?_
      refine gw_imul hC dX11_catches_40 ?_
      refine gw_iadd hC dX11_catches_41 ?_
      refine gw_nm (fun x1 hx1 => ?_)
      have h := h x1 hx1
      refine gw_istore (lv' := [(7, .int x1), (0, .ref (gx_ad w 0)), (1, .int v1), (2, .int v2), (3, .int v3), (4, .int v4), (5, .int v5), (6, .int v6)]) hC dX11_catches_42 (by decide) rfl ?_
      refine gw_iload hC dX11_catches_44 0 rfl ?_
      refine gw_iload_n hC dX11_catches_46 rfl 4 rfl ?_
      refine gw_icmp_ge (tgt := 137) hC dX11_catches_47 (by decide) (fun hc => ?_) (fun hc => ?_)
      · have h := gx_t h hc
        refine gw_sub (lv' := [(0, .ref (gx_ad w 0)), (1, .int v1), (2, .int v2), (3, .int v3), (4, .int v4), (5, .int v5), (6, .int v6)]) [1, 2, 3, 4, 5, 6, 7] rfl ?_
        exact J_X11_catches_137 hC hw hR hr ih v1 v2 v3 v4 v5 v6 h
      · have h := gx_f h hc
        refine gw_aload_n hC dX11_catches_50 rfl 1 rfl ?_
        refine gw_iload hC dX11_catches_51 6 rfl ?_
        refine gw_iload hC dX11_catches_53 0 rfl ?_
        refine gw_calli (gx_rV hC (n := 2) (As := [.int v5, .int x1]) (rest := []) (fun sz => c_X11_turnOf hw  h sz) cv_X11_315_X11_turnOf (by rw [hR]; exact rr_X11_catches_X11_turnOf) ⟨(hw.lt (by decide)), _, _, _, _, gd_0 hw _, cl_X11.1⟩ rfl rfl (Nat.le_of_ble_eq_true rfl) dX11_catches_55) ?_
        intro r3 m4 ⟨hm4, h⟩
        rw [hm4]
        refine gw_istore (lv' := [(8, .int r3), (7, .int x1), (0, .ref (gx_ad w 0)), (1, .int v1), (2, .int v2), (3, .int v3), (4, .int v4), (5, .int v5), (6, .int v6)]) hC dX11_catches_58 (by decide) rfl ?_
        refine gw_aload_n hC dX11_catches_60 rfl 2 rfl ?_
        refine gw_get hC cl_X11 fg_X11_7 (hw.lt (by decide)) (gd_0 hw _) (gv_X11_0 _ _ _) dX11_catches_61 ?_
        refine gw_bipush (v := 10) hC dX11_catches_64 (by decide) ?_
        refine gw_iload hC dX11_catches_66 0 rfl ?_
        refine gw_iadd hC dX11_catches_68 ?_
        obtain ⟨hi, h⟩ := h
        refine gw_iald hC (hw.lt (by decide)) (gd_1 hw _) (gu_0 hw) hi dX11_catches_69 ?_
        refine gw_iload_n hC dX11_catches_70 rfl 3 rfl ?_
        refine gw_icmp_eq (tgt := 95) hC dX11_catches_71 (by decide) (fun hc => ?_) (fun hc => ?_)
        · have h := gx_t h hc
          refine gw_sub (lv' := [(0, .ref (gx_ad w 0)), (1, .int v1), (2, .int v2), (3, .int v3), (4, .int v4), (5, .int v5), (6, .int v6), (7, .int x1)]) [2, 3, 4, 5, 6, 7, 8, 1] rfl ?_
          exact J_X11_catches_95 hC hw hR hr ih v1 v2 v3 v4 v5 v6 x1 h
        · have h := gx_f h hc
          refine gw_aload_n hC dX11_catches_74 rfl 2 rfl ?_
          refine gw_get hC cl_X11 fg_X11_7 (hw.lt (by decide)) (gd_0 hw _) (gv_X11_0 _ _ _) dX11_catches_75 ?_
          refine gw_iconst (v := 5) hC dX11_catches_78 (by decide) ?_
          obtain ⟨hi, h⟩ := h
          refine gw_iald hC (hw.lt (by decide)) (gd_1 hw _) (gu_0 hw) hi dX11_catches_79 ?_
          refine gw_iconst (v := 3) hC dX11_catches_80 (by decide) ?_
          refine gw_icmp_ne (tgt := 99) hC dX11_catches_81 (by decide) (fun hc => ?_) (fun hc => ?_)
          · have h := gx_f h hc
            refine gw_sub (lv' := [(0, .ref (gx_ad w 0)), (1, .int v1), (2, .int v2), (3, .int v3), (4, .int v4), (5, .int v5), (6, .int v6), (7, .int x1)]) [2, 3, 4, 5, 6, 7, 8, 1] rfl ?_
            exact J_X11_catches_99 hC hw hR hr ih v1 v2 v3 v4 v5 v6 x1 h
          · have h := gx_t h hc
            refine gw_aload_n hC dX11_catches_84 rfl 2 rfl ?_
            refine gw_get hC cl_X11 fg_X11_7 (hw.lt (by decide)) (gd_0 hw _) (gv_X11_0 _ _ _) dX11_catches_85 ?_
            refine gw_bipush (v := 11) hC dX11_catches_88 (by decide) ?_
            obtain ⟨hi, h⟩ := h
            refine gw_iald hC (hw.lt (by decide)) (gd_1 hw _) (gu_0 hw) hi dX11_catches_90 ?_
            refine gw_iload_n hC dX11_catches_91 rfl 3 rfl ?_
            refine gw_icmp_ne (tgt := 99) hC dX11_catches_92 (by decide) (fun hc => ?_) (fun hc => ?_)
            · have h := gx_f h hc
              refine gw_sub (lv' := [(0, .ref (gx_ad w 0)), (1, .int v1), (2, .int v2), (3, .int v3), (4, .int v4), (5, .int v5), (6, .int v6), (7, .int x1)]) [2, 3, 4, 5, 6, 7, 8, 1] rfl ?_
              exact J_X11_catches_99 hC hw hR hr ih v1 v2 v3 v4 v5 v6 x1 h
            · have h := gx_t h hc
              refine gw_sub (lv' := [(0, .ref (gx_ad w 0)), (1, .int v1), (2, .int v2), (3, .int v3), (4, .int v4), (5, .int v5), (6, .int v6), (7, .int x1)]) [2, 3, 4, 5, 6, 7, 8, 1] rfl ?_
              exact J_X11_catches_95 hC hw hR hr ih v1 v2 v3 v4 v5 v6 x1 h
set_option maxRecDepth 20000 in
theorem J_X11_catches_6 {z : gx_X} {d : gx_D} {w : gx_V} {ca : Nat → ClassId} (hC : gx_C z d w cX11_catches 10 RX11) (hw : gx_isR ca w) (hR : gx_R z = rm_X11_catches) (hr : (gx_me z).sig.returnType = (some .boolean)) {M : gx_M} {Q : Int32 → Prop}   : ∀ (n : Nat) (v1 : Int32) (v2 : Int32) (v3 : Int32) (v4 : Int32) (v5 : Int32) , T_X11_catches_6 M Q  n v1 v2 v3 v4 v5 → GW z w 10 (gx_Qi w (fun r M1 => M1 = M ∧ Q r) (gx_s z).heap.size) M 6 [(0, .ref (gx_ad w 0)), (1, .int v1), (2, .int v2), (3, .int v3), (4, .int v4), (5, .int v5)] [] := by
  intro n
  induction n with
  | zero =>
    intro v1 v2 v3 v4 v5 h
    exact h.elim
  | succ n ih =>
    intro v1 v2 v3 v4 v5 h
    rw [T_X11_catches_6] at h
    refine gw_iload hC dX11_catches_6 5 rfl ?_
    refine gw_aload_n hC dX11_catches_8 rfl 0 rfl ?_
    refine gw_get hC cl_X11 fg_X11_283 (hw.lt (by decide)) (gd_0 hw _) (gv_X11_35 _ _ _) dX11_catches_9 ?_
    refine gw_icmp_ge (tgt := 149) hC dX11_catches_12 (by decide) (fun hc => ?_) (fun hc => ?_)
    · have h := gx_t h hc
      refine gw_iload hC dX11_catches_149 4 rfl ?_
      obtain ⟨hz, h⟩ := h
      exact gw_zret hC hr (gx_nz hz) dX11_catches_151 ⟨rfl, h⟩
    · have h := gx_f h hc
      refine gw_iconst (v := 0) hC dX11_catches_15 (by decide) ?_
      refine gw_istore (lv' := [(6, .int 0), (0, .ref (gx_ad w 0)), (1, .int v1), (2, .int v2), (3, .int v3), (4, .int v4), (5, .int v5)]) hC dX11_catches_16 (by decide) rfl ?_
      obtain ⟨k7, h⟩ := h
      refine gw_sub (lv' := [(0, .ref (gx_ad w 0)), (1, .int v1), (2, .int v2), (3, .int v3), (4, .int v4), (5, .int v5), (6, .int 0)]) [1, 2, 3, 4, 5, 6, 0] rfl ?_
      exact J_X11_catches_18 hC hw hR hr (fun v1_8 v2_9 v3_10 v4_11 v5_12 h => by
          obtain ⟨x13, hx13⟩ : ∃ y : Int32, y = v5_12 + 1 := ⟨_, rfl⟩
          have h := h x13 hx13
          refine gw_iinc (v := x13) (lv' := [(5, .int x13), (0, .ref (gx_ad w 0)), (1, .int v1_8), (2, .int v2_9), (3, .int v3_10), (4, .int v4_11)]) hC dX11_catches_143 (k := 5) rfl (by rw [hx13]; rfl) (by decide) rfl ?_
          refine gw_goto (tgt := 6) hC dX11_catches_146 (by decide) ?_
          refine gw_sub (lv' := [(0, .ref (gx_ad w 0)), (1, .int v1_8), (2, .int v2_9), (3, .int v3_10), (4, .int v4_11), (5, .int x13)]) [1, 2, 3, 4, 5, 0] rfl ?_
          exact ih v1_8 v2_9 v3_10 v4_11 x13 h) k7 v1 v2 v3 v4 v5 0 h
set_option maxRecDepth 20000 in
theorem J_X11_catches {z : gx_X} {d : gx_D} {w : gx_V} {ca : Nat → ClassId} (hC : gx_C z d w cX11_catches 10 RX11) (hw : gx_isR ca w) (hR : gx_R z = rm_X11_catches) (hr : (gx_me z).sig.returnType = (some .boolean))   {M : gx_M} {v1 : Int32} {v2 : Int32} {v3 : Int32} {Q : Int32 → Prop} (h : T_X11_catches M v1 v2 v3 Q) : GW z w 10 (gx_Qi w (fun r M1 => M1 = M ∧ Q r) (gx_s z).heap.size) M 0 [(0, .ref (gx_ad w 0)), (1, .int v1), (2, .int v2), (3, .int v3)] [] := by
  unfold T_X11_catches at h
  refine gw_iconst (v := 0) hC dX11_catches_0 (by decide) ?_
  refine gw_istore (lv' := [(4, .int 0), (0, .ref (gx_ad w 0)), (1, .int v1), (2, .int v2), (3, .int v3)]) hC dX11_catches_1 (by decide) rfl ?_
  refine gw_iconst (v := 0) hC dX11_catches_3 (by decide) ?_
  refine gw_istore (lv' := [(5, .int 0), (4, .int 0), (0, .ref (gx_ad w 0)), (1, .int v1), (2, .int v2), (3, .int v3)]) hC dX11_catches_4 (by decide) rfl ?_
  obtain ⟨k14, h⟩ := h
  refine gw_sub (lv' := [(0, .ref (gx_ad w 0)), (1, .int v1), (2, .int v2), (3, .int v3), (4, .int 0), (5, .int 0)]) [2, 3, 4, 5, 1, 0] rfl ?_
  exact J_X11_catches_6 hC hw hR hr  k14 v1 v2 v3 0 0 h
theorem c_X11_catches {l : Launch} {d : gx_D} {w : gx_V} {ca : Nat → ClassId} (hw : gx_isR ca w)   {M : gx_M} {v1 : Int32} {v2 : Int32} {v3 : Int32} {Q : Int32 → Prop} (h : T_X11_catches M v1 v2 v3 Q) : gx_Mi l d w yX11_catches cX11_catches 10 .boolean rm_X11_catches [.ref (gx_ad w 0), .int v1, .int v2, .int v3] M (fun r M1 => M1 = M ∧ Q r) := fun sz =>
  gx_of (own := RX11) (by decide +kernel) rfl (Nat.le_of_ble_eq_true rfl) (fun z hC hl hR hsz hr => by subst hsz; exact J_X11_catches hC hw hR hr  h) rfl
set_option maxRecDepth 20000 in
theorem J_X11_caught_129 {z : gx_X} {d : gx_D} {w : gx_V} {ca : Nat → ClassId} (hC : gx_C z d w cX11_caught 7 RX11) (hw : gx_isR ca w) (hR : gx_R z = rm_X11_caught) (hr : (gx_me z).sig.returnType = (some .int))  {Q : Int32 → gx_M → Prop} {K80 : gx_M → Int32 → Int32 → Int32 → Int32 → Int32 → Int32 → Prop} (hK80 : ∀ (M : gx_M) (v1 : Int32) (v2 : Int32) (v3 : Int32) (v4 : Int32) (v5 : Int32) (v6 : Int32), K80 M v1 v2 v3 v4 v5 v6 → GW z w 7 (gx_Qi w Q (gx_s z).heap.size) M 80 [(0, .ref (gx_ad w 0)), (1, .int v1), (2, .int v2), (3, .int v3), (4, .int v4), (5, .int v5), (6, .int v6)] []) (M : gx_M) (t0 : Int32) (t1 : Int32) (v1 : Int32) (v2 : Int32) (v3 : Int32) (v4 : Int32) (v6 : Int32)  (h : T_X11_caught_129 Q K80 M t0 t1 v1 v2 v3 v4 v6) : GW z w 7 (gx_Qi w Q (gx_s z).heap.size) M 129 [(0, .ref (gx_ad w 0)), (1, .int v1), (2, .int v2), (3, .int v3), (4, .int v4), (6, .int v6)] [.int t0, .int t1] := by
  unfold T_X11_caught_129 at h
  refine gw_iadd hC dX11_caught_129 ?_
  refine gw_nm (fun x13 hx13 => ?_)
  have h := h x13 hx13
  refine gw_istore (lv' := [(5, .int x13), (0, .ref (gx_ad w 0)), (1, .int v1), (2, .int v2), (3, .int v3), (4, .int v4), (6, .int v6)]) hC dX11_caught_130 (by decide) rfl ?_
  obtain ⟨x14, hx14⟩ : ∃ y : Int32, y = v6 + 1 := ⟨_, rfl⟩
  have h := h x14 hx14
  refine gw_iinc (v := x14) (lv' := [(6, .int x14), (5, .int x13), (0, .ref (gx_ad w 0)), (1, .int v1), (2, .int v2), (3, .int v3), (4, .int v4)]) hC dX11_caught_132 (k := 6) rfl (by rw [hx14]; rfl) (by decide) rfl ?_
  refine gw_goto (tgt := 80) hC dX11_caught_135 (by decide) ?_
  refine gw_sub (lv' := [(0, .ref (gx_ad w 0)), (1, .int v1), (2, .int v2), (3, .int v3), (4, .int v4), (5, .int x13), (6, .int x14)]) [2, 3, 4, 5, 6, 1, 0] rfl ?_
  exact hK80 M v1 v2 v3 v4 x13 x14 h
set_option maxRecDepth 20000 in
theorem J_X11_caught_80 {z : gx_X} {d : gx_D} {w : gx_V} {ca : Nat → ClassId} (hC : gx_C z d w cX11_caught 7 RX11) (hw : gx_isR ca w) (hR : gx_R z = rm_X11_caught) (hr : (gx_me z).sig.returnType = (some .int))  {Q : Int32 → gx_M → Prop}   : ∀ (n : Nat) (M : gx_M) (v1 : Int32) (v2 : Int32) (v3 : Int32) (v4 : Int32) (v5 : Int32) (v6 : Int32) , T_X11_caught_80 Q  n M v1 v2 v3 v4 v5 v6 → GW z w 7 (gx_Qi w Q (gx_s z).heap.size) M 80 [(0, .ref (gx_ad w 0)), (1, .int v1), (2, .int v2), (3, .int v3), (4, .int v4), (5, .int v5), (6, .int v6)] [] := by
  intro n
  induction n with
  | zero =>
    intro M v1 v2 v3 v4 v5 v6 h
    exact h.elim
  | succ n ih =>
    intro M v1 v2 v3 v4 v5 v6 h
    rw [T_X11_caught_80] at h
    refine gw_iload hC dX11_caught_80 6 rfl ?_
    refine gw_aload_n hC dX11_caught_82 rfl 0 rfl ?_
    refine gw_get hC cl_X11 fg_X11_7 (hw.lt (by decide)) (gd_0 hw _) (gv_X11_0 _ _ _) dX11_caught_83 ?_
    refine gw_iload_n hC dX11_caught_86 rfl 3 rfl ?_
    refine gw_iconst (v := 2) hC dX11_caught_87 (by decide) ?_
    refine gw_iadd hC dX11_caught_88 ?_
    obtain ⟨hi, h⟩ := h
    refine gw_iald hC (hw.lt (by decide)) (gd_1 hw _) (gu_0 hw) hi dX11_caught_89 ?_
    refine gw_icmp_ge (tgt := 138) hC dX11_caught_90 (by decide) (fun hc => ?_) (fun hc => ?_)
    · have h := gx_t h hc
      refine gw_aload_n hC dX11_caught_138 rfl 0 rfl ?_
      refine gw_get hC cl_X11 fg_X11_7 (hw.lt (by decide)) (gd_0 hw _) (gv_X11_0 _ _ _) dX11_caught_139 ?_
      refine gw_iload_n hC dX11_caught_142 rfl 3 rfl ?_
      refine gw_iconst (v := 4) hC dX11_caught_143 (by decide) ?_
      refine gw_iadd hC dX11_caught_144 ?_
      refine gw_iload hC dX11_caught_145 4 rfl ?_
      obtain ⟨hi, h⟩ := h
      refine gw_iast hC (hw.lt (by decide)) (gd_1 hw) (gu_0 hw) hi dX11_caught_147 ?_
      refine gw_nmM (fun M7 hM7 => ?_)
      have h := h M7 hM7
      refine gw_iload hC dX11_caught_148 5 rfl ?_
      exact gw_iret hC hr dX11_caught_150 h
    · have h := gx_f h hc
      refine gw_aload_n hC dX11_caught_93 rfl 0 rfl ?_
      refine gw_get hC cl_X11 fg_X11_7 (hw.lt (by decide)) (gd_0 hw _) (gv_X11_0 _ _ _) dX11_caught_94 ?_
      refine gw_iload_n hC dX11_caught_97 rfl 3 rfl ?_
      refine gw_iconst (v := 4) hC dX11_caught_98 (by decide) ?_
      refine gw_iadd hC dX11_caught_99 ?_
      refine gw_iload hC dX11_caught_100 6 rfl ?_
      obtain ⟨hi, h⟩ := h
      refine gw_iast hC (hw.lt (by decide)) (gd_1 hw) (gu_0 hw) hi dX11_caught_102 ?_
      refine gw_nmM (fun M8 hM8 => ?_)
      have h := h M8 hM8
      refine gw_aload_n hC dX11_caught_103 rfl 0 rfl ?_
      refine gw_callv (gx_rV hC (n := 0) (As := []) (rest := []) (fun sz => c_X11_laysBoth hw  h sz) cv_X11_304_X11_laysBoth (by rw [hR]; exact rr_X11_caught_X11_laysBoth) ⟨(hw.lt (by decide)), _, _, _, _, gd_0 hw _, cl_X11.1⟩ rfl rfl (Nat.le_of_ble_eq_true rfl) dX11_caught_104) ?_
      intro M9 h
      refine gw_aload_n hC dX11_caught_107 rfl 0 rfl ?_
      refine gw_iload_n hC dX11_caught_108 rfl 2 rfl ?_
      refine gw_callv (gx_rV hC (n := 1) (As := [.int v2]) (rest := []) (fun sz => c_X11_sweeps hw  h sz) cv_X11_307_X11_sweeps (by rw [hR]; exact rr_X11_caught_X11_sweeps) ⟨(hw.lt (by decide)), _, _, _, _, gd_0 hw _, cl_X11.1⟩ rfl rfl (Nat.le_of_ble_eq_true rfl) dX11_caught_109) ?_
      intro M10 h
      refine gw_iload hC dX11_caught_112 5 rfl ?_
      refine gw_aload_n hC dX11_caught_114 rfl 0 rfl ?_
      refine gw_iload_n hC dX11_caught_115 rfl 1 rfl ?_
      refine gw_iload_n hC dX11_caught_116 rfl 3 rfl ?_
      refine gw_iload_n hC dX11_caught_117 rfl 2 rfl ?_
      refine gw_calli (gx_rV hC (n := 3) (As := [.int v1, .int v3, .int v2]) (rest := [.int v5]) (fun sz => c_X11_catches hw  h sz) cv_X11_341_X11_catches (by rw [hR]; exact rr_X11_caught_X11_catches) ⟨(hw.lt (by decide)), _, _, _, _, gd_0 hw _, cl_X11.1⟩ rfl rfl (Nat.le_of_ble_eq_true rfl) dX11_caught_118) ?_
      intro r11 m12 ⟨hm12, h⟩
      rw [hm12]
      refine gw_if_eq (tgt := 128) hC dX11_caught_121 (by decide) (fun hc => ?_) (fun hc => ?_)
      · have h := gx_t h hc
        refine gw_iconst (v := 0) hC dX11_caught_128 (by decide) ?_
        refine gw_sub (lv' := [(0, .ref (gx_ad w 0)), (1, .int v1), (2, .int v2), (3, .int v3), (4, .int v4), (6, .int v6)]) [0, 1, 2, 3, 4, 6] rfl ?_
        exact J_X11_caught_129 hC hw hR hr ih M10 0 v5 v1 v2 v3 v4 v6 h
      · have h := gx_f h hc
        refine gw_iconst (v := 1) hC dX11_caught_124 (by decide) ?_
        refine gw_goto (tgt := 129) hC dX11_caught_125 (by decide) ?_
        refine gw_sub (lv' := [(0, .ref (gx_ad w 0)), (1, .int v1), (2, .int v2), (3, .int v3), (4, .int v4), (6, .int v6)]) [0, 1, 2, 3, 4, 6] rfl ?_
        exact J_X11_caught_129 hC hw hR hr ih M10 1 v5 v1 v2 v3 v4 v6 h
set_option maxRecDepth 20000 in
theorem J_X11_caught {z : gx_X} {d : gx_D} {w : gx_V} {ca : Nat → ClassId} (hC : gx_C z d w cX11_caught 7 RX11) (hw : gx_isR ca w) (hR : gx_R z = rm_X11_caught) (hr : (gx_me z).sig.returnType = (some .int))   {M : gx_M} {v1 : Int32} {v2 : Int32} {Q : Int32 → gx_M → Prop} (h : T_X11_caught M v1 v2 Q) : GW z w 7 (gx_Qi w Q (gx_s z).heap.size) M 0 [(0, .ref (gx_ad w 0)), (1, .int v1), (2, .int v2)] [] := by
  unfold T_X11_caught at h
  refine gw_iload_n hC dX11_caught_0 rfl 1 rfl ?_
  refine gw_calli (gx_rS hC (n := 1) (As := [.int v1]) (rest := []) (fun sz => c_X11_isSignal hw  h sz) cs_X11_101_X11_isSignal (by rw [hR]; exact rr_X11_caught_X11_isSignal) rfl rfl (Nat.le_of_ble_eq_true rfl) dX11_caught_1) ?_
  intro r1 m2 ⟨hm2, h⟩
  rw [hm2]
  refine gw_if_eq (tgt := 26) hC dX11_caught_4 (by decide) (fun hc => ?_) (fun hc => ?_)
  · have h := gx_t h hc
    refine gw_iconst (v := (-1)) hC dX11_caught_26 (by decide) ?_
    exact gw_iret hC hr dX11_caught_27 h
  · have h := gx_f h hc
    refine gw_iload_n hC dX11_caught_7 rfl 2 rfl ?_
    refine gw_calli (gx_rS hC (n := 1) (As := [.int v2]) (rest := []) (fun sz => c_X11_isEnd hw  h sz) cs_X11_301_X11_isEnd (by rw [hR]; exact rr_X11_caught_X11_isEnd) rfl rfl (Nat.le_of_ble_eq_true rfl) dX11_caught_8) ?_
    intro r3 m4 ⟨hm4, h⟩
    rw [hm4]
    refine gw_if_eq (tgt := 26) hC dX11_caught_11 (by decide) (fun hc => ?_) (fun hc => ?_)
    · have h := gx_t h hc
      refine gw_iconst (v := (-1)) hC dX11_caught_26 (by decide) ?_
      exact gw_iret hC hr dX11_caught_27 h
    · have h := gx_f h hc
      refine gw_aload_n hC dX11_caught_14 rfl 0 rfl ?_
      refine gw_get hC cl_X11 fg_X11_7 (hw.lt (by decide)) (gd_0 hw _) (gv_X11_0 _ _ _) dX11_caught_15 ?_
      refine gw_bipush (v := 24) hC dX11_caught_18 (by decide) ?_
      refine gw_iload_n hC dX11_caught_20 rfl 1 rfl ?_
      refine gw_iadd hC dX11_caught_21 ?_
      obtain ⟨hi, h⟩ := h
      refine gw_iald hC (hw.lt (by decide)) (gd_1 hw _) (gu_0 hw) hi dX11_caught_22 ?_
      refine gw_if_ne (tgt := 28) hC dX11_caught_23 (by decide) (fun hc => ?_) (fun hc => ?_)
      · have h := gx_f h hc
        refine gw_bipush (v := 30) hC dX11_caught_28 (by decide) ?_
        refine gw_bipush (v := 30) hC dX11_caught_30 (by decide) ?_
        refine gw_iload_n hC dX11_caught_32 rfl 1 rfl ?_
        refine gw_imul hC dX11_caught_33 ?_
        refine gw_iadd hC dX11_caught_34 ?_
        refine gw_iconst (v := 5) hC dX11_caught_35 (by decide) ?_
        refine gw_aload_n hC dX11_caught_36 rfl 0 rfl ?_
        refine gw_get hC cl_X11 fg_X11_7 (hw.lt (by decide)) (gd_0 hw _) (gv_X11_0 _ _ _) dX11_caught_37 ?_
        refine gw_bipush (v := 24) hC dX11_caught_40 (by decide) ?_
        refine gw_iload_n hC dX11_caught_42 rfl 1 rfl ?_
        refine gw_iadd hC dX11_caught_43 ?_
        obtain ⟨hi, h⟩ := h
        refine gw_iald hC (hw.lt (by decide)) (gd_1 hw _) (gu_0 hw) hi dX11_caught_44 ?_
        refine gw_imul hC dX11_caught_45 ?_
        refine gw_iadd hC dX11_caught_46 ?_
        refine gw_iconst (v := 5) hC dX11_caught_47 (by decide) ?_
        refine gw_isub hC dX11_caught_48 ?_
        refine gw_nm (fun x5 hx5 => ?_)
        have h := h x5 hx5
        refine gw_istore_n (lv' := [(3, .int x5), (0, .ref (gx_ad w 0)), (1, .int v1), (2, .int v2)]) hC dX11_caught_49 rfl (by decide) rfl ?_
        refine gw_aload_n hC dX11_caught_50 rfl 1 rfl ?_
        refine gw_get hC cl_X11 fg_X11_7 (hw.lt (by decide)) (gd_0 hw _) (gv_X11_0 _ _ _) dX11_caught_51 ?_
        refine gw_iload_n hC dX11_caught_54 rfl 0 rfl ?_
        refine gw_iconst (v := 0) hC dX11_caught_55 (by decide) ?_
        refine gw_iadd hC dX11_caught_56 ?_
        obtain ⟨hi, h⟩ := h
        refine gw_iald hC (hw.lt (by decide)) (gd_1 hw _) (gu_0 hw) hi dX11_caught_57 ?_
        refine gw_iconst (v := 1) hC dX11_caught_58 (by decide) ?_
        refine gw_icmp_eq (tgt := 64) hC dX11_caught_59 (by decide) (fun hc => ?_) (fun hc => ?_)
        · have h := gx_t h hc
          refine gw_aload_n hC dX11_caught_64 rfl 1 rfl ?_
          refine gw_get hC cl_X11 fg_X11_7 (hw.lt (by decide)) (gd_0 hw _) (gv_X11_0 _ _ _) dX11_caught_65 ?_
          refine gw_iload_n hC dX11_caught_68 rfl 0 rfl ?_
          refine gw_iconst (v := 4) hC dX11_caught_69 (by decide) ?_
          refine gw_iadd hC dX11_caught_70 ?_
          obtain ⟨hi, h⟩ := h
          refine gw_iald hC (hw.lt (by decide)) (gd_1 hw _) (gu_0 hw) hi dX11_caught_71 ?_
          refine gw_nm (fun x6 hx6 => ?_)
          have h := h x6 hx6
          refine gw_istore (lv' := [(4, .int x6), (3, .int x5), (0, .ref (gx_ad w 0)), (1, .int v1), (2, .int v2)]) hC dX11_caught_72 (by decide) rfl ?_
          refine gw_iconst (v := 0) hC dX11_caught_74 (by decide) ?_
          refine gw_istore (lv' := [(5, .int 0), (4, .int x6), (3, .int x5), (0, .ref (gx_ad w 0)), (1, .int v1), (2, .int v2)]) hC dX11_caught_75 (by decide) rfl ?_
          refine gw_iconst (v := 0) hC dX11_caught_77 (by decide) ?_
          refine gw_istore (lv' := [(6, .int 0), (5, .int 0), (4, .int x6), (3, .int x5), (0, .ref (gx_ad w 0)), (1, .int v1), (2, .int v2)]) hC dX11_caught_78 (by decide) rfl ?_
          obtain ⟨k15, h⟩ := h
          refine gw_sub (lv' := [(0, .ref (gx_ad w 0)), (1, .int v1), (2, .int v2), (3, .int x5), (4, .int x6), (5, .int 0), (6, .int 0)]) [4, 5, 6, 3, 2, 1, 0] rfl ?_
          exact J_X11_caught_80 hC hw hR hr  k15 M v1 v2 x5 x6 0 0 h
        · have h := gx_f h hc
          refine gw_iconst (v := (-1)) hC dX11_caught_62 (by decide) ?_
          exact gw_iret hC hr dX11_caught_63 h
      · have h := gx_t h hc
        refine gw_iconst (v := (-1)) hC dX11_caught_26 (by decide) ?_
        exact gw_iret hC hr dX11_caught_27 h
theorem c_X11_caught {l : Launch} {d : gx_D} {w : gx_V} {ca : Nat → ClassId} (hw : gx_isR ca w)   {M : gx_M} {v1 : Int32} {v2 : Int32} {Q : Int32 → gx_M → Prop} (h : T_X11_caught M v1 v2 Q) : gx_Mi l d w yX11_caught cX11_caught 7 .int rm_X11_caught [.ref (gx_ad w 0), .int v1, .int v2] M Q := fun sz =>
  gx_of (own := RX11) (by decide +kernel) rfl (Nat.le_of_ble_eq_true rfl) (fun z hC hl hR hsz hr => by subst hsz; exact J_X11_caught hC hw hR hr  h) rfl
set_option maxRecDepth 20000 in
theorem J_X11_photo {z : gx_X} {d : gx_D} {w : gx_V} {ca : Nat → ClassId} (hC : gx_C z d w cX11_photo 3 RX11) (hw : gx_isR ca w) (hR : gx_R z = rm_X11_photo) (hr : (gx_me z).sig.returnType = (some .boolean))   {M : gx_M} {v1 : Int32} {v2 : Int32} {Q : Int32 → gx_M → Prop} (h : T_X11_photo M v1 v2 Q) : GW z w 3 (gx_Qi w Q (gx_s z).heap.size) M 0 [(0, .ref (gx_ad w 0)), (1, .int v1), (2, .int v2)] [] := by
  unfold T_X11_photo at h
  refine gw_iload_n hC dX11_photo_0 rfl 1 rfl ?_
  refine gw_iconst (v := 0) hC dX11_photo_1 (by decide) ?_
  refine gw_bipush (v := 19) hC dX11_photo_2 (by decide) ?_
  refine gw_calli (gx_rS hC (n := 3) (As := [.int v1, .int 0, .int 19]) (rest := []) (fun sz => c_X11_in hw  h sz) cs_X11_97_X11_in (by rw [hR]; exact rr_X11_photo_X11_in) rfl rfl (Nat.le_of_ble_eq_true rfl) dX11_photo_4) ?_
  intro r1 m2 ⟨hm2, h⟩
  rw [hm2]
  refine gw_if_eq (tgt := 21) hC dX11_photo_7 (by decide) (fun hc => ?_) (fun hc => ?_)
  · have h := gx_t h hc
    refine gw_iconst (v := 0) hC dX11_photo_21 (by decide) ?_
    exact gw_zret hC hr rfl dX11_photo_22 h
  · have h := gx_f h hc
    refine gw_iload_n hC dX11_photo_10 rfl 2 rfl ?_
    refine gw_iconst (v := 0) hC dX11_photo_11 (by decide) ?_
    refine gw_ldcw hC kc_X11_344 dX11_photo_12 ?_
    refine gw_calli (gx_rS hC (n := 3) (As := [.int v2, .int 0, .int 65535]) (rest := []) (fun sz => c_X11_in hw  h sz) cs_X11_97_X11_in (by rw [hR]; exact rr_X11_photo_X11_in) rfl rfl (Nat.le_of_ble_eq_true rfl) dX11_photo_15) ?_
    intro r3 m4 ⟨hm4, h⟩
    rw [hm4]
    refine gw_if_ne (tgt := 23) hC dX11_photo_18 (by decide) (fun hc => ?_) (fun hc => ?_)
    · have h := gx_f h hc
      refine gw_aload_n hC dX11_photo_23 rfl 0 rfl ?_
      refine gw_get hC cl_X11 fg_X11_7 (hw.lt (by decide)) (gd_0 hw _) (gv_X11_0 _ _ _) dX11_photo_24 ?_
      refine gw_sipush (v := 150) hC dX11_photo_27 (by decide) ?_
      refine gw_iload_n hC dX11_photo_30 rfl 1 rfl ?_
      refine gw_iadd hC dX11_photo_31 ?_
      refine gw_iload_n hC dX11_photo_32 rfl 2 rfl ?_
      obtain ⟨hi, h⟩ := h
      refine gw_iast hC (hw.lt (by decide)) (gd_1 hw) (gu_0 hw) hi dX11_photo_33 ?_
      refine gw_nmM (fun M5 hM5 => ?_)
      have h := h M5 hM5
      refine gw_iconst (v := 1) hC dX11_photo_34 (by decide) ?_
      exact gw_zret hC hr rfl dX11_photo_35 h
    · have h := gx_t h hc
      refine gw_iconst (v := 0) hC dX11_photo_21 (by decide) ?_
      exact gw_zret hC hr rfl dX11_photo_22 h
theorem c_X11_photo {l : Launch} {d : gx_D} {w : gx_V} {ca : Nat → ClassId} (hw : gx_isR ca w)   {M : gx_M} {v1 : Int32} {v2 : Int32} {Q : Int32 → gx_M → Prop} (h : T_X11_photo M v1 v2 Q) : gx_Mi l d w yX11_photo cX11_photo 3 .boolean rm_X11_photo [.ref (gx_ad w 0), .int v1, .int v2] M Q := fun sz =>
  gx_of (own := RX11) (by decide +kernel) rfl (Nat.le_of_ble_eq_true rfl) (fun z hC hl hR hsz hr => by subst hsz; exact J_X11_photo hC hw hR hr  h) rfl
set_option maxRecDepth 20000 in
theorem J_X11_shoot_23 {z : gx_X} {d : gx_D} {w : gx_V} {ca : Nat → ClassId} (hC : gx_C z d w cX11_shoot 4 RX11) (hw : gx_isR ca w) (hR : gx_R z = rm_X11_shoot) (hr : (gx_me z).sig.returnType = (some .int))  {Q : Int32 → gx_M → Prop} {K51 : gx_M → Int32 → Prop} (hK51 : ∀ (M : gx_M) (v2 : Int32), K51 M v2 → GW z w 4 (gx_Qi w Q (gx_s z).heap.size) M 51 [(0, .ref (gx_ad w 0)), (2, .int v2)] []) : ∀ (n : Nat) (M : gx_M) (v2 : Int32) (v3 : Int32) , T_X11_shoot_23 Q K51 n M v2 v3 → GW z w 4 (gx_Qi w Q (gx_s z).heap.size) M 23 [(0, .ref (gx_ad w 0)), (2, .int v2), (3, .int v3)] [] := by
  intro n
  induction n with
  | zero =>
    intro M v2 v3 h
    exact h.elim
  | succ n ih =>
    intro M v2 v3 h
    rw [T_X11_shoot_23] at h
    refine gw_iload_n hC dX11_shoot_23 rfl 2 rfl ?_
    refine gw_bipush (v := 20) hC dX11_shoot_24 (by decide) ?_
    refine gw_icmp_ge (tgt := 51) hC dX11_shoot_26 (by decide) (fun hc => ?_) (fun hc => ?_)
    · have h := gx_t h hc
      refine gw_sub (lv' := [(0, .ref (gx_ad w 0)), (2, .int v2)]) [0, 1] rfl ?_
      exact hK51 M v2 h
    · have h := gx_f h hc
      refine gw_aload_n hC dX11_shoot_29 rfl 0 rfl ?_
      refine gw_get hC cl_X11 fg_X11_7 (hw.lt (by decide)) (gd_0 hw _) (gv_X11_0 _ _ _) dX11_shoot_30 ?_
      refine gw_sipush (v := 150) hC dX11_shoot_33 (by decide) ?_
      refine gw_iload_n hC dX11_shoot_36 rfl 2 rfl ?_
      refine gw_iadd hC dX11_shoot_37 ?_
      refine gw_aload_n hC dX11_shoot_38 rfl 0 rfl ?_
      refine gw_iload_n hC dX11_shoot_39 rfl 2 rfl ?_
      refine gw_iload_n hC dX11_shoot_40 rfl 1 rfl ?_
      refine gw_calli (gx_rV hC (n := 2) (As := [.int v3, .int v2]) (rest := [.int (150 + v3), .ref (gx_ad w 1)]) (fun sz => c_X11_rowsOf hw  h sz) cv_X11_334_X11_rowsOf (by rw [hR]; exact rr_X11_shoot_X11_rowsOf) ⟨(hw.lt (by decide)), _, _, _, _, gd_0 hw _, cl_X11.1⟩ rfl rfl (Nat.le_of_ble_eq_true rfl) dX11_shoot_41) ?_
      intro r6 m7 ⟨hm7, h⟩
      rw [hm7]
      obtain ⟨hi, h⟩ := h
      refine gw_iast hC (hw.lt (by decide)) (gd_1 hw) (gu_0 hw) hi dX11_shoot_44 ?_
      refine gw_nmM (fun M8 hM8 => ?_)
      have h := h M8 hM8
      obtain ⟨x9, hx9⟩ : ∃ y : Int32, y = v3 + 1 := ⟨_, rfl⟩
      have h := h x9 hx9
      refine gw_iinc (v := x9) (lv' := [(3, .int x9), (0, .ref (gx_ad w 0)), (2, .int v2)]) hC dX11_shoot_45 (k := 2) rfl (by rw [hx9]; rfl) (by decide) rfl ?_
      refine gw_goto (tgt := 23) hC dX11_shoot_48 (by decide) ?_
      refine gw_sub (lv' := [(0, .ref (gx_ad w 0)), (2, .int v2), (3, .int x9)]) [1, 2, 0] rfl ?_
      exact ih M8 v2 x9 h
set_option maxRecDepth 20000 in
theorem J_X11_shoot {z : gx_X} {d : gx_D} {w : gx_V} {ca : Nat → ClassId} (hC : gx_C z d w cX11_shoot 4 RX11) (hw : gx_isR ca w) (hR : gx_R z = rm_X11_shoot) (hr : (gx_me z).sig.returnType = (some .int))   {M : gx_M} {v1 : Int32} {v2 : Int32} {Q : Int32 → gx_M → Prop} (h : T_X11_shoot M v1 v2 Q) : GW z w 4 (gx_Qi w Q (gx_s z).heap.size) M 0 [(0, .ref (gx_ad w 0)), (1, .int v1), (2, .int v2)] [] := by
  unfold T_X11_shoot at h
  refine gw_iload_n hC dX11_shoot_0 rfl 1 rfl ?_
  refine gw_calli (gx_rS hC (n := 1) (As := [.int v1]) (rest := []) (fun sz => c_X11_isEnd hw  h sz) cs_X11_301_X11_isEnd (by rw [hR]; exact rr_X11_shoot_X11_isEnd) rfl rfl (Nat.le_of_ble_eq_true rfl) dX11_shoot_1) ?_
  intro r1 m2 ⟨hm2, h⟩
  rw [hm2]
  refine gw_if_eq (tgt := 14) hC dX11_shoot_4 (by decide) (fun hc => ?_) (fun hc => ?_)
  · have h := gx_t h hc
    refine gw_iconst (v := (-1)) hC dX11_shoot_14 (by decide) ?_
    exact gw_iret hC hr dX11_shoot_15 h
  · have h := gx_f h hc
    refine gw_iload_n hC dX11_shoot_7 rfl 2 rfl ?_
    refine gw_calli (gx_rS hC (n := 1) (As := [.int v2]) (rest := []) (fun sz => c_X11_isLight hw  h sz) cs_X11_328_X11_isLight (by rw [hR]; exact rr_X11_shoot_X11_isLight) rfl rfl (Nat.le_of_ble_eq_true rfl) dX11_shoot_8) ?_
    intro r3 m4 ⟨hm4, h⟩
    rw [hm4]
    refine gw_if_ne (tgt := 16) hC dX11_shoot_11 (by decide) (fun hc => ?_) (fun hc => ?_)
    · have h := gx_f h hc
      refine gw_aload_n hC dX11_shoot_16 rfl 0 rfl ?_
      refine gw_iload_n hC dX11_shoot_17 rfl 1 rfl ?_
      refine gw_callv (gx_rV hC (n := 1) (As := [.int v1]) (rest := []) (fun sz => c_X11_shows hw  h sz) cv_X11_325_X11_shows (by rw [hR]; exact rr_X11_shoot_X11_shows) ⟨(hw.lt (by decide)), _, _, _, _, gd_0 hw _, cl_X11.1⟩ rfl rfl (Nat.le_of_ble_eq_true rfl) dX11_shoot_18) ?_
      intro M5 h
      refine gw_iconst (v := 0) hC dX11_shoot_21 (by decide) ?_
      refine gw_istore_n (lv' := [(3, .int 0), (0, .ref (gx_ad w 0)), (1, .int v1), (2, .int v2)]) hC dX11_shoot_22 rfl (by decide) rfl ?_
      obtain ⟨k10, h⟩ := h
      refine gw_sub (lv' := [(0, .ref (gx_ad w 0)), (2, .int v2), (3, .int 0)]) [1, 3, 0] rfl ?_
      exact J_X11_shoot_23 hC hw hR hr (fun M12 v2_11 h => by
          refine gw_aload_n hC dX11_shoot_51 rfl 0 rfl ?_
          refine gw_iload_n hC dX11_shoot_52 rfl 1 rfl ?_
          refine gw_calli (gx_rV hC (n := 1) (As := [.int v2_11]) (rest := []) (fun sz => c_X11_dots hw  h sz) cv_X11_331_X11_dots (by rw [hR]; exact rr_X11_shoot_X11_dots) ⟨(hw.lt (by decide)), _, _, _, _, gd_0 hw _, cl_X11.1⟩ rfl rfl (Nat.le_of_ble_eq_true rfl) dX11_shoot_53) ?_
          intro r13 m14 ⟨hm14, h⟩
          rw [hm14]
          exact gw_iret hC hr dX11_shoot_56 h) k10 M5 v2 0 h
    · have h := gx_t h hc
      refine gw_iconst (v := (-1)) hC dX11_shoot_14 (by decide) ?_
      exact gw_iret hC hr dX11_shoot_15 h
theorem c_X11_shoot {l : Launch} {d : gx_D} {w : gx_V} {ca : Nat → ClassId} (hw : gx_isR ca w)   {M : gx_M} {v1 : Int32} {v2 : Int32} {Q : Int32 → gx_M → Prop} (h : T_X11_shoot M v1 v2 Q) : gx_Mi l d w yX11_shoot cX11_shoot 4 .int rm_X11_shoot [.ref (gx_ad w 0), .int v1, .int v2] M Q := fun sz =>
  gx_of (own := RX11) (by decide +kernel) rfl (Nat.le_of_ble_eq_true rfl) (fun z hC hl hR hsz hr => by subst hsz; exact J_X11_shoot hC hw hR hr  h) rfl
set_option maxRecDepth 20000 in
theorem J_X11_isPhoto_38 {z : gx_X} {d : gx_D} {w : gx_V} {ca : Nat → ClassId} (hC : gx_C z d w cX11_isPhoto 4 RX11) (hw : gx_isR ca w) (hR : gx_R z = rm_X11_isPhoto) (hr : (gx_me z).sig.returnType = (some .boolean)) {M : gx_M} {Q : Int32 → Prop} {K4 : Int32 → Int32 → Int32 → Prop} (hK4 : ∀ (v1 : Int32) (v2 : Int32) (v3 : Int32), K4 v1 v2 v3 → GW z w 4 (gx_Qi w (fun r M1 => M1 = M ∧ Q r) (gx_s z).heap.size) M 4 [(0, .ref (gx_ad w 0)), (1, .int v1), (2, .int v2), (3, .int v3)] []) (t0 : Int32) (v1 : Int32) (v3 : Int32)  (h : T_X11_isPhoto_38 M Q K4 t0 v1 v3) : GW z w 4 (gx_Qi w (fun r M1 => M1 = M ∧ Q r) (gx_s z).heap.size) M 38 [(0, .ref (gx_ad w 0)), (1, .int v1), (3, .int v3)] [.int t0] := by
  unfold T_X11_isPhoto_38 at h
  refine gw_istore_n (lv' := [(2, .int t0), (0, .ref (gx_ad w 0)), (1, .int v1), (3, .int v3)]) hC dX11_isPhoto_38 rfl (by decide) rfl ?_
  obtain ⟨x3, hx3⟩ : ∃ y : Int32, y = v3 + 1 := ⟨_, rfl⟩
  have h := h x3 hx3
  refine gw_iinc (v := x3) (lv' := [(3, .int x3), (2, .int t0), (0, .ref (gx_ad w 0)), (1, .int v1)]) hC dX11_isPhoto_39 (k := 3) rfl (by rw [hx3]; rfl) (by decide) rfl ?_
  refine gw_goto (tgt := 4) hC dX11_isPhoto_42 (by decide) ?_
  refine gw_sub (lv' := [(0, .ref (gx_ad w 0)), (1, .int v1), (2, .int t0), (3, .int x3)]) [2, 3, 1, 0] rfl ?_
  exact hK4 v1 t0 x3 h
set_option maxRecDepth 20000 in
theorem J_X11_isPhoto_4 {z : gx_X} {d : gx_D} {w : gx_V} {ca : Nat → ClassId} (hC : gx_C z d w cX11_isPhoto 4 RX11) (hw : gx_isR ca w) (hR : gx_R z = rm_X11_isPhoto) (hr : (gx_me z).sig.returnType = (some .boolean)) {M : gx_M} {Q : Int32 → Prop} {K45 : Int32 → Prop} (hK45 : ∀ (v2 : Int32), K45 v2 → GW z w 4 (gx_Qi w (fun r M1 => M1 = M ∧ Q r) (gx_s z).heap.size) M 45 [(2, .int v2)] []) : ∀ (n : Nat) (v1 : Int32) (v2 : Int32) (v3 : Int32) , T_X11_isPhoto_4 M Q K45 n v1 v2 v3 → GW z w 4 (gx_Qi w (fun r M1 => M1 = M ∧ Q r) (gx_s z).heap.size) M 4 [(0, .ref (gx_ad w 0)), (1, .int v1), (2, .int v2), (3, .int v3)] [] := by
  intro n
  induction n with
  | zero =>
    intro v1 v2 v3 h
    exact h.elim
  | succ n ih =>
    intro v1 v2 v3 h
    rw [T_X11_isPhoto_4] at h
    refine gw_iload_n hC dX11_isPhoto_4 rfl 3 rfl ?_
    refine gw_bipush (v := 20) hC dX11_isPhoto_5 (by decide) ?_
    refine gw_icmp_ge (tgt := 45) hC dX11_isPhoto_7 (by decide) (fun hc => ?_) (fun hc => ?_)
    · have h := gx_t h hc
      refine gw_sub (lv' := [(2, .int v2)]) [2] rfl ?_
      exact hK45 v2 h
    · have h := gx_f h hc
      refine gw_iload_n hC dX11_isPhoto_10 rfl 2 rfl ?_
      refine gw_if_eq (tgt := 45) hC dX11_isPhoto_11 (by decide) (fun hc => ?_) (fun hc => ?_)
      · have h := gx_t h hc
        refine gw_sub (lv' := [(2, .int v2)]) [2] rfl ?_
        exact hK45 v2 h
      · have h := gx_f h hc
        refine gw_aload_n hC dX11_isPhoto_14 rfl 0 rfl ?_
        refine gw_iload_n hC dX11_isPhoto_15 rfl 3 rfl ?_
        refine gw_iload_n hC dX11_isPhoto_16 rfl 1 rfl ?_
        refine gw_calli (gx_rV hC (n := 2) (As := [.int v3, .int v1]) (rest := []) (fun sz => c_X11_rowsOf hw  h sz) cv_X11_334_X11_rowsOf (by rw [hR]; exact rr_X11_isPhoto_X11_rowsOf) ⟨(hw.lt (by decide)), _, _, _, _, gd_0 hw _, cl_X11.1⟩ rfl rfl (Nat.le_of_ble_eq_true rfl) dX11_isPhoto_17) ?_
        intro r1 m2 ⟨hm2, h⟩
        rw [hm2]
        refine gw_aload_n hC dX11_isPhoto_20 rfl 0 rfl ?_
        refine gw_get hC cl_X11 fg_X11_7 (hw.lt (by decide)) (gd_0 hw _) (gv_X11_0 _ _ _) dX11_isPhoto_21 ?_
        refine gw_sipush (v := 150) hC dX11_isPhoto_24 (by decide) ?_
        refine gw_iload_n hC dX11_isPhoto_27 rfl 3 rfl ?_
        refine gw_iadd hC dX11_isPhoto_28 ?_
        obtain ⟨hi, h⟩ := h
        refine gw_iald hC (hw.lt (by decide)) (gd_1 hw _) (gu_0 hw) hi dX11_isPhoto_29 ?_
        refine gw_icmp_ne (tgt := 37) hC dX11_isPhoto_30 (by decide) (fun hc => ?_) (fun hc => ?_)
        · have h := gx_f h hc
          refine gw_iconst (v := 0) hC dX11_isPhoto_37 (by decide) ?_
          refine gw_sub (lv' := [(0, .ref (gx_ad w 0)), (1, .int v1), (3, .int v3)]) [0, 1, 3] rfl ?_
          exact J_X11_isPhoto_38 hC hw hR hr ih 0 v1 v3 h
        · have h := gx_t h hc
          refine gw_iconst (v := 1) hC dX11_isPhoto_33 (by decide) ?_
          refine gw_goto (tgt := 38) hC dX11_isPhoto_34 (by decide) ?_
          refine gw_sub (lv' := [(0, .ref (gx_ad w 0)), (1, .int v1), (3, .int v3)]) [0, 1, 3] rfl ?_
          exact J_X11_isPhoto_38 hC hw hR hr ih 1 v1 v3 h
set_option maxRecDepth 20000 in
theorem J_X11_isPhoto {z : gx_X} {d : gx_D} {w : gx_V} {ca : Nat → ClassId} (hC : gx_C z d w cX11_isPhoto 4 RX11) (hw : gx_isR ca w) (hR : gx_R z = rm_X11_isPhoto) (hr : (gx_me z).sig.returnType = (some .boolean))   {M : gx_M} {v1 : Int32} {Q : Int32 → Prop} (h : T_X11_isPhoto M v1 Q) : GW z w 4 (gx_Qi w (fun r M1 => M1 = M ∧ Q r) (gx_s z).heap.size) M 0 [(0, .ref (gx_ad w 0)), (1, .int v1)] [] := by
  unfold T_X11_isPhoto at h
  refine gw_iconst (v := 1) hC dX11_isPhoto_0 (by decide) ?_
  refine gw_istore_n (lv' := [(2, .int 1), (0, .ref (gx_ad w 0)), (1, .int v1)]) hC dX11_isPhoto_1 rfl (by decide) rfl ?_
  refine gw_iconst (v := 0) hC dX11_isPhoto_2 (by decide) ?_
  refine gw_istore_n (lv' := [(3, .int 0), (2, .int 1), (0, .ref (gx_ad w 0)), (1, .int v1)]) hC dX11_isPhoto_3 rfl (by decide) rfl ?_
  obtain ⟨k4, h⟩ := h
  refine gw_sub (lv' := [(0, .ref (gx_ad w 0)), (1, .int v1), (2, .int 1), (3, .int 0)]) [2, 3, 1, 0] rfl ?_
  exact J_X11_isPhoto_4 hC hw hR hr (fun v2_5 h => by
      refine gw_iload_n hC dX11_isPhoto_45 rfl 0 rfl ?_
      obtain ⟨hz, h⟩ := h
      exact gw_zret hC hr (gx_nz hz) dX11_isPhoto_46 ⟨rfl, h⟩) k4 v1 1 0 h
theorem c_X11_isPhoto {l : Launch} {d : gx_D} {w : gx_V} {ca : Nat → ClassId} (hw : gx_isR ca w)   {M : gx_M} {v1 : Int32} {Q : Int32 → Prop} (h : T_X11_isPhoto M v1 Q) : gx_Mi l d w yX11_isPhoto cX11_isPhoto 4 .boolean rm_X11_isPhoto [.ref (gx_ad w 0), .int v1] M (fun r M1 => M1 = M ∧ Q r) := fun sz =>
  gx_of (own := RX11) (by decide +kernel) rfl (Nat.le_of_ble_eq_true rfl) (fun z hC hl hR hsz hr => by subst hsz; exact J_X11_isPhoto hC hw hR hr  h) rfl
set_option maxRecDepth 20000 in
theorem J_X11_gainOf_24 {z : gx_X} {d : gx_D} {w : gx_V} {ca : Nat → ClassId} (hC : gx_C z d w cX11_gainOf 2 RX11) (hw : gx_isR ca w) (hR : gx_R z = rm_X11_gainOf) (hr : (gx_me z).sig.returnType = (some .int)) {M : gx_M} {Q : Int32 → Prop}   (t0 : Int32) (v0 : Int32)  (h : T_X11_gainOf_24 M Q  t0 v0) : GW z w 2 (gx_Qi w (fun r M1 => M1 = M ∧ Q r) (gx_s z).heap.size) M 24 [(0, .int v0)] [.int t0] := by
  unfold T_X11_gainOf_24 at h
  refine gw_istore_n (lv' := [(1, .int t0), (0, .int v0)]) hC dX11_gainOf_24 rfl (by decide) rfl ?_
  refine gw_iload_n hC dX11_gainOf_25 rfl 0 rfl ?_
  refine gw_iload_n hC dX11_gainOf_26 rfl 1 rfl ?_
  refine gw_iconst (v := 3) hC dX11_gainOf_27 (by decide) ?_
  refine gw_irem hC dX11_gainOf_28 (by decide) ?_
  refine gw_if_ne (tgt := 36) hC dX11_gainOf_29 (by decide) (fun hc => ?_) (fun hc => ?_)
  · have h := gx_f h hc
    refine gw_iload_n hC dX11_gainOf_36 rfl 1 rfl ?_
    refine gw_iconst (v := 3) hC dX11_gainOf_37 (by decide) ?_
    refine gw_irem hC dX11_gainOf_38 (by decide) ?_
    refine gw_iconst (v := 1) hC dX11_gainOf_39 (by decide) ?_
    refine gw_icmp_ne (tgt := 47) hC dX11_gainOf_40 (by decide) (fun hc => ?_) (fun hc => ?_)
    · have h := gx_f h hc
      refine gw_iconst (v := 5) hC dX11_gainOf_47 (by decide) ?_
      refine gw_imul hC dX11_gainOf_48 ?_
      exact gw_iret hC hr dX11_gainOf_49 ⟨rfl, h⟩
    · have h := gx_t h hc
      refine gw_iconst (v := 2) hC dX11_gainOf_43 (by decide) ?_
      refine gw_goto (tgt := 48) hC dX11_gainOf_44 (by decide) ?_
      refine gw_imul hC dX11_gainOf_48 ?_
      exact gw_iret hC hr dX11_gainOf_49 ⟨rfl, h⟩
  · have h := gx_t h hc
    refine gw_iconst (v := 1) hC dX11_gainOf_32 (by decide) ?_
    refine gw_goto (tgt := 48) hC dX11_gainOf_33 (by decide) ?_
    refine gw_imul hC dX11_gainOf_48 ?_
    exact gw_iret hC hr dX11_gainOf_49 ⟨rfl, h⟩
set_option maxRecDepth 20000 in
theorem J_X11_gainOf {z : gx_X} {d : gx_D} {w : gx_V} {ca : Nat → ClassId} (hC : gx_C z d w cX11_gainOf 2 RX11) (hw : gx_isR ca w) (hR : gx_R z = rm_X11_gainOf) (hr : (gx_me z).sig.returnType = (some .int))   {M : gx_M} {v0 : Int32} {Q : Int32 → Prop} (h : T_X11_gainOf M v0 Q) : GW z w 2 (gx_Qi w (fun r M1 => M1 = M ∧ Q r) (gx_s z).heap.size) M 0 [(0, .int v0)] [] := by
  unfold T_X11_gainOf at h
  refine gw_iload_n hC dX11_gainOf_0 rfl 0 rfl ?_
  refine gw_iconst (v := 3) hC dX11_gainOf_1 (by decide) ?_
  refine gw_idiv hC dX11_gainOf_2 (by decide) ?_
  refine gw_if_ne (tgt := 10) hC dX11_gainOf_3 (by decide) (fun hc => ?_) (fun hc => ?_)
  · have h := gx_f h hc
    refine gw_iload_n hC dX11_gainOf_10 rfl 0 rfl ?_
    refine gw_iconst (v := 3) hC dX11_gainOf_11 (by decide) ?_
    refine gw_idiv hC dX11_gainOf_12 (by decide) ?_
    refine gw_iconst (v := 1) hC dX11_gainOf_13 (by decide) ?_
    refine gw_icmp_ne (tgt := 22) hC dX11_gainOf_14 (by decide) (fun hc => ?_) (fun hc => ?_)
    · have h := gx_f h hc
      refine gw_bipush (v := 100) hC dX11_gainOf_22 (by decide) ?_
      exact J_X11_gainOf_24 hC hw hR hr  100 v0 h
    · have h := gx_t h hc
      refine gw_bipush (v := 10) hC dX11_gainOf_17 (by decide) ?_
      refine gw_goto (tgt := 24) hC dX11_gainOf_19 (by decide) ?_
      exact J_X11_gainOf_24 hC hw hR hr  10 v0 h
  · have h := gx_t h hc
    refine gw_iconst (v := 1) hC dX11_gainOf_6 (by decide) ?_
    refine gw_goto (tgt := 24) hC dX11_gainOf_7 (by decide) ?_
    exact J_X11_gainOf_24 hC hw hR hr  1 v0 h
theorem c_X11_gainOf {l : Launch} {d : gx_D} {w : gx_V} {ca : Nat → ClassId} (hw : gx_isR ca w)   {M : gx_M} {v0 : Int32} {Q : Int32 → Prop} (h : T_X11_gainOf M v0 Q) : gx_Mi l d w yX11_gainOf cX11_gainOf 2 .int rm_X11_gainOf [.int v0] M (fun r M1 => M1 = M ∧ Q r) := fun sz =>
  gx_of (own := RX11) (by decide +kernel) rfl (Nat.le_of_ble_eq_true rfl) (fun z hC hl hR hsz hr => by subst hsz; exact J_X11_gainOf hC hw hR hr  h) rfl
set_option maxRecDepth 20000 in
theorem J_X11_settings_134 {z : gx_X} {d : gx_D} {w : gx_V} {ca : Nat → ClassId} (hC : gx_C z d w cX11_settings 10 RX11) (hw : gx_isR ca w) (hR : gx_R z = rm_X11_settings) (hr : (gx_me z).sig.returnType = (some .int))  {Q : Int32 → gx_M → Prop} {K74 : gx_M → Int32 → Int32 → Int32 → Int32 → Int32 → Int32 → Int32 → Int32 → Int32 → Prop} (hK74 : ∀ (M : gx_M) (v1 : Int32) (v2 : Int32) (v3 : Int32) (v4 : Int32) (v5 : Int32) (v6 : Int32) (v7 : Int32) (v8 : Int32) (v9 : Int32), K74 M v1 v2 v3 v4 v5 v6 v7 v8 v9 → GW z w 10 (gx_Qi w Q (gx_s z).heap.size) M 74 [(0, .ref (gx_ad w 0)), (1, .int v1), (2, .int v2), (3, .int v3), (4, .int v4), (5, .int v5), (6, .int v6), (7, .int v7), (8, .int v8), (9, .int v9)] []) (M : gx_M) (v1 : Int32) (v2 : Int32) (v3 : Int32) (v4 : Int32) (v5 : Int32) (v6 : Int32) (v7 : Int32) (v8 : Int32) (v9 : Int32)  (h : T_X11_settings_134 Q K74 M v1 v2 v3 v4 v5 v6 v7 v8 v9) : GW z w 10 (gx_Qi w Q (gx_s z).heap.size) M 134 [(0, .ref (gx_ad w 0)), (1, .int v1), (2, .int v2), (3, .int v3), (4, .int v4), (5, .int v5), (6, .int v6), (7, .int v7), (8, .int v8), (9, .int v9)] [] := by
  unfold T_X11_settings_134 at h
  obtain ⟨x16, hx16⟩ : ∃ y : Int32, y = v9 + 1 := ⟨_, rfl⟩
  have h := h x16 hx16
  refine gw_iinc (v := x16) (lv' := [(9, .int x16), (0, .ref (gx_ad w 0)), (1, .int v1), (2, .int v2), (3, .int v3), (4, .int v4), (5, .int v5), (6, .int v6), (7, .int v7), (8, .int v8)]) hC dX11_settings_134 (k := 9) rfl (by rw [hx16]; rfl) (by decide) rfl ?_
  refine gw_goto (tgt := 74) hC dX11_settings_137 (by decide) ?_
  refine gw_sub (lv' := [(0, .ref (gx_ad w 0)), (1, .int v1), (2, .int v2), (3, .int v3), (4, .int v4), (5, .int v5), (6, .int v6), (7, .int v7), (8, .int v8), (9, .int x16)]) [1, 2, 3, 4, 5, 6, 7, 8, 9, 0] rfl ?_
  exact hK74 M v1 v2 v3 v4 v5 v6 v7 v8 x16 h
set_option maxRecDepth 20000 in
theorem J_X11_settings_129 {z : gx_X} {d : gx_D} {w : gx_V} {ca : Nat → ClassId} (hC : gx_C z d w cX11_settings 10 RX11) (hw : gx_isR ca w) (hR : gx_R z = rm_X11_settings) (hr : (gx_me z).sig.returnType = (some .int))  {Q : Int32 → gx_M → Prop} {K74 : gx_M → Int32 → Int32 → Int32 → Int32 → Int32 → Int32 → Int32 → Int32 → Int32 → Prop} (hK74 : ∀ (M : gx_M) (v1 : Int32) (v2 : Int32) (v3 : Int32) (v4 : Int32) (v5 : Int32) (v6 : Int32) (v7 : Int32) (v8 : Int32) (v9 : Int32), K74 M v1 v2 v3 v4 v5 v6 v7 v8 v9 → GW z w 10 (gx_Qi w Q (gx_s z).heap.size) M 74 [(0, .ref (gx_ad w 0)), (1, .int v1), (2, .int v2), (3, .int v3), (4, .int v4), (5, .int v5), (6, .int v6), (7, .int v7), (8, .int v8), (9, .int v9)] []) (M : gx_M) (t0 : Int32) (v1 : Int32) (v2 : Int32) (v3 : Int32) (v4 : Int32) (v5 : Int32) (v6 : Int32) (v8 : Int32) (v9 : Int32)  (h : T_X11_settings_129 Q K74 M t0 v1 v2 v3 v4 v5 v6 v8 v9) : GW z w 10 (gx_Qi w Q (gx_s z).heap.size) M 129 [(0, .ref (gx_ad w 0)), (1, .int v1), (2, .int v2), (3, .int v3), (4, .int v4), (5, .int v5), (6, .int v6), (8, .int v8), (9, .int v9)] [.int t0] := by
  unfold T_X11_settings_129 at h
  refine gw_istore (lv' := [(7, .int t0), (0, .ref (gx_ad w 0)), (1, .int v1), (2, .int v2), (3, .int v3), (4, .int v4), (5, .int v5), (6, .int v6), (8, .int v8), (9, .int v9)]) hC dX11_settings_129 (by decide) rfl ?_
  obtain ⟨x17, hx17⟩ : ∃ y : Int32, y = v6 + 1 := ⟨_, rfl⟩
  have h := h x17 hx17
  refine gw_iinc (v := x17) (lv' := [(6, .int x17), (7, .int t0), (0, .ref (gx_ad w 0)), (1, .int v1), (2, .int v2), (3, .int v3), (4, .int v4), (5, .int v5), (8, .int v8), (9, .int v9)]) hC dX11_settings_131 (k := 7) rfl (by rw [hx17]; rfl) (by decide) rfl ?_
  refine gw_sub (lv' := [(0, .ref (gx_ad w 0)), (1, .int v1), (2, .int v2), (3, .int v3), (4, .int v4), (5, .int v5), (6, .int x17), (7, .int t0), (8, .int v8), (9, .int v9)]) [2, 3, 4, 5, 6, 7, 0, 1, 8, 9] rfl ?_
  exact J_X11_settings_134 hC hw hR hr hK74 M v1 v2 v3 v4 v5 x17 t0 v8 v9 h
set_option maxRecDepth 20000 in
theorem J_X11_settings_74 {z : gx_X} {d : gx_D} {w : gx_V} {ca : Nat → ClassId} (hC : gx_C z d w cX11_settings 10 RX11) (hw : gx_isR ca w) (hR : gx_R z = rm_X11_settings) (hr : (gx_me z).sig.returnType = (some .int))  {Q : Int32 → gx_M → Prop} {K140 : gx_M → Int32 → Int32 → Int32 → Int32 → Int32 → Int32 → Int32 → Int32 → Prop} (hK140 : ∀ (M : gx_M) (v1 : Int32) (v2 : Int32) (v3 : Int32) (v4 : Int32) (v5 : Int32) (v6 : Int32) (v7 : Int32) (v8 : Int32), K140 M v1 v2 v3 v4 v5 v6 v7 v8 → GW z w 10 (gx_Qi w Q (gx_s z).heap.size) M 140 [(0, .ref (gx_ad w 0)), (1, .int v1), (2, .int v2), (3, .int v3), (4, .int v4), (5, .int v5), (6, .int v6), (7, .int v7), (8, .int v8)] []) : ∀ (n : Nat) (M : gx_M) (v1 : Int32) (v2 : Int32) (v3 : Int32) (v4 : Int32) (v5 : Int32) (v6 : Int32) (v7 : Int32) (v8 : Int32) (v9 : Int32) , T_X11_settings_74 Q K140 n M v1 v2 v3 v4 v5 v6 v7 v8 v9 → GW z w 10 (gx_Qi w Q (gx_s z).heap.size) M 74 [(0, .ref (gx_ad w 0)), (1, .int v1), (2, .int v2), (3, .int v3), (4, .int v4), (5, .int v5), (6, .int v6), (7, .int v7), (8, .int v8), (9, .int v9)] [] := by
  intro n
  induction n with
  | zero =>
    intro M v1 v2 v3 v4 v5 v6 v7 v8 v9 h
    exact h.elim
  | succ n ih =>
    intro M v1 v2 v3 v4 v5 v6 v7 v8 v9 h
    rw [T_X11_settings_74] at h
    refine gw_iload hC dX11_settings_74 9 rfl ?_
    refine gw_bipush (v := 8) hC dX11_settings_76 (by decide) ?_
    refine gw_icmp_ge (tgt := 140) hC dX11_settings_78 (by decide) (fun hc => ?_) (fun hc => ?_)
    · have h := gx_t h hc
      refine gw_sub (lv' := [(0, .ref (gx_ad w 0)), (1, .int v1), (2, .int v2), (3, .int v3), (4, .int v4), (5, .int v5), (6, .int v6), (7, .int v7), (8, .int v8)]) [0, 1, 2, 3, 4, 5, 6, 7, 8] rfl ?_
      exact hK140 M v1 v2 v3 v4 v5 v6 v7 v8 h
    · have h := gx_f h hc
      refine gw_aload_n hC dX11_settings_81 rfl 0 rfl ?_
      refine gw_get hC cl_X11 fg_X11_7 (hw.lt (by decide)) (gd_0 hw _) (gv_X11_0 _ _ _) dX11_settings_82 ?_
      refine gw_bipush (v := 12) hC dX11_settings_85 (by decide) ?_
      refine gw_iload hC dX11_settings_87 9 rfl ?_
      refine gw_calli (gx_rS hC (n := 1) (As := [.int v9]) (rest := [.int 12, .ref (gx_ad w 1)]) (fun sz => c_X11_gainOf hw  h sz) cs_X11_345_X11_gainOf (by rw [hR]; exact rr_X11_settings_X11_gainOf) rfl rfl (Nat.le_of_ble_eq_true rfl) dX11_settings_89) ?_
      intro r10 m11 ⟨hm11, h⟩
      rw [hm11]
      obtain ⟨hi, h⟩ := h
      refine gw_iast hC (hw.lt (by decide)) (gd_1 hw) (gu_0 hw) hi dX11_settings_92 ?_
      refine gw_nmM (fun M12 hM12 => ?_)
      have h := h M12 hM12
      refine gw_aload_n hC dX11_settings_93 rfl 0 rfl ?_
      refine gw_iload_n hC dX11_settings_94 rfl 1 rfl ?_
      refine gw_callv (gx_rV hC (n := 1) (As := [.int v1]) (rest := []) (fun sz => c_X11_draws hw  h sz) cv_X11_322_X11_draws (by rw [hR]; exact rr_X11_settings_X11_draws) ⟨(hw.lt (by decide)), _, _, _, _, gd_0 hw _, cl_X11.1⟩ rfl rfl (Nat.le_of_ble_eq_true rfl) dX11_settings_95) ?_
      intro M13 h
      refine gw_aload_n hC dX11_settings_98 rfl 0 rfl ?_
      refine gw_iload_n hC dX11_settings_99 rfl 2 rfl ?_
      refine gw_calli (gx_rV hC (n := 1) (As := [.int v2]) (rest := []) (fun sz => c_X11_isPhoto hw  h sz) cv_X11_348_X11_isPhoto (by rw [hR]; exact rr_X11_settings_X11_isPhoto) ⟨(hw.lt (by decide)), _, _, _, _, gd_0 hw _, cl_X11.1⟩ rfl rfl (Nat.le_of_ble_eq_true rfl) dX11_settings_100) ?_
      intro r14 m15 ⟨hm15, h⟩
      rw [hm15]
      refine gw_if_eq (tgt := 134) hC dX11_settings_103 (by decide) (fun hc => ?_) (fun hc => ?_)
      · have h := gx_t h hc
        exact J_X11_settings_134 hC hw hR hr ih M13 v1 v2 v3 v4 v5 v6 v7 v8 v9 h
      · have h := gx_f h hc
        refine gw_iload hC dX11_settings_106 6 rfl ?_
        refine gw_iload_n hC dX11_settings_108 rfl 3 rfl ?_
        refine gw_icmp_ne (tgt := 127) hC dX11_settings_109 (by decide) (fun hc => ?_) (fun hc => ?_)
        · have h := gx_f h hc
          refine gw_iload hC dX11_settings_127 7 rfl ?_
          refine gw_sub (lv' := [(0, .ref (gx_ad w 0)), (1, .int v1), (2, .int v2), (3, .int v3), (4, .int v4), (5, .int v5), (6, .int v6), (8, .int v8), (9, .int v9)]) [0, 1, 2, 3, 4, 5, 6, 8, 9] rfl ?_
          exact J_X11_settings_129 hC hw hR hr ih M13 v7 v1 v2 v3 v4 v5 v6 v8 v9 h
        · have h := gx_t h hc
          refine gw_sipush (v := 1000) hC dX11_settings_112 (by decide) ?_
          refine gw_iload hC dX11_settings_115 8 rfl ?_
          refine gw_imul hC dX11_settings_117 ?_
          refine gw_iload hC dX11_settings_118 9 rfl ?_
          refine gw_calli (gx_rS hC (n := 1) (As := [.int v9]) (rest := [.int (1000 * v8)]) (fun sz => c_X11_gainOf hw  h sz) cs_X11_345_X11_gainOf (by rw [hR]; exact rr_X11_settings_X11_gainOf) rfl rfl (Nat.le_of_ble_eq_true rfl) dX11_settings_120) ?_
          intro r18 m19 ⟨hm19, h⟩
          rw [hm19]
          refine gw_iadd hC dX11_settings_123 ?_
          refine gw_goto (tgt := 129) hC dX11_settings_124 (by decide) ?_
          refine gw_sub (lv' := [(0, .ref (gx_ad w 0)), (1, .int v1), (2, .int v2), (3, .int v3), (4, .int v4), (5, .int v5), (6, .int v6), (8, .int v8), (9, .int v9)]) [0, 1, 2, 3, 4, 5, 6, 8, 9] rfl ?_
          exact J_X11_settings_129 hC hw hR hr ih M13 ((1000 * v8) + r18) v1 v2 v3 v4 v5 v6 v8 v9 h
set_option maxRecDepth 20000 in
theorem J_X11_settings_51 {z : gx_X} {d : gx_D} {w : gx_V} {ca : Nat → ClassId} (hC : gx_C z d w cX11_settings 10 RX11) (hw : gx_isR ca w) (hR : gx_R z = rm_X11_settings) (hr : (gx_me z).sig.returnType = (some .int))  {Q : Int32 → gx_M → Prop} {K146 : gx_M → Int32 → Int32 → Int32 → Int32 → Int32 → Prop} (hK146 : ∀ (M : gx_M) (v3 : Int32) (v4 : Int32) (v5 : Int32) (v6 : Int32) (v7 : Int32), K146 M v3 v4 v5 v6 v7 → GW z w 10 (gx_Qi w Q (gx_s z).heap.size) M 146 [(0, .ref (gx_ad w 0)), (3, .int v3), (4, .int v4), (5, .int v5), (6, .int v6), (7, .int v7)] []) : ∀ (n : Nat) (M : gx_M) (v1 : Int32) (v2 : Int32) (v3 : Int32) (v4 : Int32) (v5 : Int32) (v6 : Int32) (v7 : Int32) (v8 : Int32) , T_X11_settings_51 Q K146 n M v1 v2 v3 v4 v5 v6 v7 v8 → GW z w 10 (gx_Qi w Q (gx_s z).heap.size) M 51 [(0, .ref (gx_ad w 0)), (1, .int v1), (2, .int v2), (3, .int v3), (4, .int v4), (5, .int v5), (6, .int v6), (7, .int v7), (8, .int v8)] [] := by
  intro n
  induction n with
  | zero =>
    intro M v1 v2 v3 v4 v5 v6 v7 v8 h
    exact h.elim
  | succ n ih =>
    intro M v1 v2 v3 v4 v5 v6 v7 v8 h
    rw [T_X11_settings_51] at h
    refine gw_iload hC dX11_settings_51 8 rfl ?_
    refine gw_bipush (v := 21) hC dX11_settings_53 (by decide) ?_
    refine gw_icmp_ge (tgt := 146) hC dX11_settings_55 (by decide) (fun hc => ?_) (fun hc => ?_)
    · have h := gx_t h hc
      refine gw_sub (lv' := [(0, .ref (gx_ad w 0)), (3, .int v3), (4, .int v4), (5, .int v5), (6, .int v6), (7, .int v7)]) [0, 3, 4, 5, 6, 7] rfl ?_
      exact hK146 M v3 v4 v5 v6 v7 h
    · have h := gx_f h hc
      refine gw_aload_n hC dX11_settings_58 rfl 0 rfl ?_
      refine gw_get hC cl_X11 fg_X11_7 (hw.lt (by decide)) (gd_0 hw _) (gv_X11_0 _ _ _) dX11_settings_59 ?_
      refine gw_iconst (v := 2) hC dX11_settings_62 (by decide) ?_
      refine gw_iload hC dX11_settings_63 8 rfl ?_
      obtain ⟨hi, h⟩ := h
      refine gw_iast hC (hw.lt (by decide)) (gd_1 hw) (gu_0 hw) hi dX11_settings_65 ?_
      refine gw_nmM (fun M8 hM8 => ?_)
      have h := h M8 hM8
      refine gw_aload_n hC dX11_settings_66 rfl 0 rfl ?_
      refine gw_iload_n hC dX11_settings_67 rfl 1 rfl ?_
      refine gw_callv (gx_rV hC (n := 1) (As := [.int v1]) (rest := []) (fun sz => c_X11_sweeps hw  h sz) cv_X11_307_X11_sweeps (by rw [hR]; exact rr_X11_settings_X11_sweeps) ⟨(hw.lt (by decide)), _, _, _, _, gd_0 hw _, cl_X11.1⟩ rfl rfl (Nat.le_of_ble_eq_true rfl) dX11_settings_68) ?_
      intro M9 h
      refine gw_iconst (v := 0) hC dX11_settings_71 (by decide) ?_
      refine gw_istore (lv' := [(9, .int 0), (0, .ref (gx_ad w 0)), (1, .int v1), (2, .int v2), (3, .int v3), (4, .int v4), (5, .int v5), (6, .int v6), (7, .int v7), (8, .int v8)]) hC dX11_settings_72 (by decide) rfl ?_
      obtain ⟨k20, h⟩ := h
      refine gw_sub (lv' := [(0, .ref (gx_ad w 0)), (1, .int v1), (2, .int v2), (3, .int v3), (4, .int v4), (5, .int v5), (6, .int v6), (7, .int v7), (8, .int v8), (9, .int 0)]) [1, 2, 3, 4, 5, 6, 7, 8, 9, 0] rfl ?_
      exact J_X11_settings_74 hC hw hR hr (fun M29 v1_21 v2_22 v3_23 v4_24 v5_25 v6_26 v7_27 v8_28 h => by
          obtain ⟨x30, hx30⟩ : ∃ y : Int32, y = v8_28 + 1 := ⟨_, rfl⟩
          have h := h x30 hx30
          refine gw_iinc (v := x30) (lv' := [(8, .int x30), (0, .ref (gx_ad w 0)), (1, .int v1_21), (2, .int v2_22), (3, .int v3_23), (4, .int v4_24), (5, .int v5_25), (6, .int v6_26), (7, .int v7_27)]) hC dX11_settings_140 (k := 8) rfl (by rw [hx30]; rfl) (by decide) rfl ?_
          refine gw_goto (tgt := 51) hC dX11_settings_143 (by decide) ?_
          refine gw_sub (lv' := [(0, .ref (gx_ad w 0)), (1, .int v1_21), (2, .int v2_22), (3, .int v3_23), (4, .int v4_24), (5, .int v5_25), (6, .int v6_26), (7, .int v7_27), (8, .int x30)]) [1, 2, 3, 4, 5, 6, 7, 8, 0] rfl ?_
          exact ih M29 v1_21 v2_22 v3_23 v4_24 v5_25 v6_26 v7_27 x30 h) k20 M9 v1 v2 v3 v4 v5 v6 v7 v8 0 h
