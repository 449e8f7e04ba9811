set_option maxRecDepth 20000 in
theorem J_X10_otherwise_55 {z : gx_X} {d : gx_D} {w : gx_V} {ca : Nat → ClassId} (hC : gx_C z d w cX10_otherwise 9 RX10) (hw : gx_isC ca w) (hR : gx_R z = rm_X10_otherwise) (hr : (gx_me z).sig.returnType = (some .int))  {Q : Int32 → gx_M → Prop} {K149 : gx_M → Int32 → Int32 → Prop} (hK149 : ∀ (M : gx_M) (v3 : Int32) (v5 : Int32), K149 M v3 v5 → GW z w 9 (gx_Qi w Q (gx_s z).heap.size) M 149 [(3, .int v3), (5, .int v5)] []) : ∀ (n : Nat) (M : gx_M) (v2 : Int32) (v3 : Int32) (v4 : Int32) (v5 : Int32) (v6 : Int32) , T_X10_otherwise_55 Q K149 n M v2 v3 v4 v5 v6 → GW z w 9 (gx_Qi w Q (gx_s z).heap.size) M 55 [(0, .ref (gx_ad w 0)), (2, .int v2), (3, .int v3), (4, .int v4), (5, .int v5), (6, .int v6)] [] := by
  intro n
  induction n with
  | zero =>
    intro M v2 v3 v4 v5 v6 h
    exact h.elim
  | succ n ih =>
    intro M v2 v3 v4 v5 v6 h
    rw [T_X10_otherwise_55] at h
    refine gw_iload hC dX10_otherwise_55 5 rfl ?_
    refine gw_bipush (v := 24) hC dX10_otherwise_57 (by decide) ?_
    refine gw_icmp_gt (tgt := 149) hC dX10_otherwise_59 (by decide) (fun hc => ?_) (fun hc => ?_)
    · have h := gx_t h hc
      refine gw_sub (lv' := [(3, .int v3), (5, .int v5)]) [2, 4] rfl ?_
      exact hK149 M v3 v5 h
    · have h := gx_f h hc
      refine gw_iconst (v := 1) hC dX10_otherwise_62 (by decide) ?_
      refine gw_istore (lv' := [(7, .int 1), (0, .ref (gx_ad w 0)), (2, .int v2), (3, .int v3), (4, .int v4), (5, .int v5), (6, .int v6)]) hC dX10_otherwise_63 (by decide) rfl ?_
      obtain ⟨k21, h⟩ := h
      refine gw_sub (lv' := [(0, .ref (gx_ad w 0)), (2, .int v2), (3, .int v3), (4, .int v4), (5, .int v5), (6, .int v6), (7, .int 1)]) [1, 2, 3, 4, 5, 6, 0] rfl ?_
      exact J_X10_otherwise_65 hC hw hR hr (fun M27 v2_22 v3_23 v4_24 v5_25 v6_26 h => by
          obtain ⟨x28, hx28⟩ : ∃ y : Int32, y = v6_26 + 1 := ⟨_, rfl⟩
          have h := h x28 hx28
          refine gw_iinc (v := x28) (lv' := [(6, .int x28), (0, .ref (gx_ad w 0)), (2, .int v2_22), (3, .int v3_23), (4, .int v4_24), (5, .int v5_25)]) hC dX10_otherwise_143 (k := 5) rfl (by rw [hx28]; rfl) (by decide) rfl ?_
          refine gw_goto (tgt := 55) hC dX10_otherwise_146 (by decide) ?_
          refine gw_sub (lv' := [(0, .ref (gx_ad w 0)), (2, .int v2_22), (3, .int v3_23), (4, .int v4_24), (5, .int v5_25), (6, .int x28)]) [1, 2, 3, 4, 5, 0] rfl ?_
          exact ih M27 v2_22 v3_23 v4_24 v5_25 x28 h) k21 M v2 v3 v4 v5 v6 1 h
set_option maxRecDepth 20000 in
theorem J_X10_otherwise {z : gx_X} {d : gx_D} {w : gx_V} {ca : Nat → ClassId} (hC : gx_C z d w cX10_otherwise 9 RX10) (hw : gx_isC ca w) (hR : gx_R z = rm_X10_otherwise) (hr : (gx_me z).sig.returnType = (some .int))   {M : gx_M} {v1 : Int32} {v2 : Int32} {v3 : Int32} {Q : Int32 → gx_M → Prop} (h : T_X10_otherwise M v1 v2 v3 Q) : GW z w 9 (gx_Qi w Q (gx_s z).heap.size) M 0 [(0, .ref (gx_ad w 0)), (1, .int v1), (2, .int v2), (3, .int v3)] [] := by
  unfold T_X10_otherwise at h
  refine gw_iload_n hC dX10_otherwise_0 rfl 1 rfl ?_
  refine gw_calli (gx_rS hC (n := 1) (As := [.int v1]) (rest := []) (fun sz => c_X10_isChannel hw  h sz) cs_X10_106_X10_isChannel (by rw [hR]; exact rr_X10_otherwise_X10_isChannel) rfl rfl (Nat.le_of_ble_eq_true rfl) dX10_otherwise_1) ?_
  intro r1 m2 ⟨hm2, h⟩
  rw [hm2]
  refine gw_if_eq (tgt := 23) hC dX10_otherwise_4 (by decide) (fun hc => ?_) (fun hc => ?_)
  · have h := gx_t h hc
    refine gw_iconst (v := (-1)) hC dX10_otherwise_23 (by decide) ?_
    exact gw_iret hC hr dX10_otherwise_24 h
  · have h := gx_f h hc
    refine gw_iload_n hC dX10_otherwise_7 rfl 2 rfl ?_
    refine gw_iconst (v := 0) hC dX10_otherwise_8 (by decide) ?_
    refine gw_sipush (v := 1000) hC dX10_otherwise_9 (by decide) ?_
    refine gw_calli (gx_rS hC (n := 3) (As := [.int v2, .int 0, .int 1000]) (rest := []) (fun sz => c_X10_within hw  h sz) cs_X10_81_X10_within (by rw [hR]; exact rr_X10_otherwise_X10_within) rfl rfl (Nat.le_of_ble_eq_true rfl) dX10_otherwise_12) ?_
    intro r3 m4 ⟨hm4, h⟩
    rw [hm4]
    refine gw_if_eq (tgt := 23) hC dX10_otherwise_15 (by decide) (fun hc => ?_) (fun hc => ?_)
    · have h := gx_t h hc
      refine gw_iconst (v := (-1)) hC dX10_otherwise_23 (by decide) ?_
      exact gw_iret hC hr dX10_otherwise_24 h
    · have h := gx_f h hc
      refine gw_iload_n hC dX10_otherwise_18 rfl 3 rfl ?_
      refine gw_iconst (v := (-1)) hC dX10_otherwise_19 (by decide) ?_
      refine gw_icmp_ge (tgt := 25) hC dX10_otherwise_20 (by decide) (fun hc => ?_) (fun hc => ?_)
      · have h := gx_t h hc
        refine gw_aload_n hC dX10_otherwise_25 rfl 0 rfl ?_
        refine gw_iload_n hC dX10_otherwise_26 rfl 1 rfl ?_
        refine gw_iload_n hC dX10_otherwise_27 rfl 2 rfl ?_
        refine gw_calli (gx_rV hC (n := 2) (As := [.int v1, .int v2]) (rest := []) (fun sz => c_X10_takeSamples hw  h sz) cv_X10_193_X10_takeSamples (by rw [hR]; exact rr_X10_otherwise_X10_takeSamples) ⟨(hw.lt (by decide)), _, _, _, _, gc_0 hw _, cl_X10.1⟩ rfl rfl (Nat.le_of_ble_eq_true rfl) dX10_otherwise_28) ?_
        intro r6 M5 h
        refine gw_istore (lv' := [(4, .int r6), (0, .ref (gx_ad w 0)), (1, .int v1), (2, .int v2), (3, .int v3)]) hC dX10_otherwise_31 (by decide) rfl ?_
        refine gw_iload hC dX10_otherwise_33 0 rfl ?_
        refine gw_if_gt (tgt := 49) hC dX10_otherwise_35 (by decide) (fun hc => ?_) (fun hc => ?_)
        · have h := gx_t h hc
          refine gw_iconst (v := 0) hC dX10_otherwise_49 (by decide) ?_
          refine gw_istore (lv' := [(5, .int 0), (4, .int r6), (0, .ref (gx_ad w 0)), (1, .int v1), (2, .int v2), (3, .int v3)]) hC dX10_otherwise_50 (by decide) rfl ?_
          refine gw_iconst (v := 2) hC dX10_otherwise_52 (by decide) ?_
          refine gw_istore (lv' := [(6, .int 2), (5, .int 0), (4, .int r6), (0, .ref (gx_ad w 0)), (1, .int v1), (2, .int v2), (3, .int v3)]) hC dX10_otherwise_53 (by decide) rfl ?_
          obtain ⟨k29, h⟩ := h
          refine gw_sub (lv' := [(0, .ref (gx_ad w 0)), (2, .int v2), (3, .int v3), (4, .int r6), (5, .int 0), (6, .int 2)]) [3, 5, 6, 2, 1, 0] rfl ?_
          exact J_X10_otherwise_55 hC hw hR hr (fun M32 v3_30 v5_31 h => by
              refine gw_iload_n hC dX10_otherwise_149 rfl 0 rfl ?_
              refine gw_iconst (v := (-1)) hC dX10_otherwise_150 (by decide) ?_
              refine gw_icmp_ne (tgt := 159) hC dX10_otherwise_151 (by decide) (fun hc => ?_) (fun hc => ?_)
              · have h := gx_f h hc
                refine gw_iconst (v := (-1)) hC dX10_otherwise_159 (by decide) ?_
                exact gw_iret hC hr dX10_otherwise_160 h
              · have h := gx_t h hc
                refine gw_iload hC dX10_otherwise_154 1 rfl ?_
                refine gw_goto (tgt := 160) hC dX10_otherwise_156 (by decide) ?_
                exact gw_iret hC hr dX10_otherwise_160 h) k29 M5 v2 v3 r6 0 2 h
        · have h := gx_f h hc
          refine gw_iload_n hC dX10_otherwise_38 rfl 4 rfl ?_
          refine gw_iconst (v := (-1)) hC dX10_otherwise_39 (by decide) ?_
          refine gw_icmp_ne (tgt := 47) hC dX10_otherwise_40 (by decide) (fun hc => ?_) (fun hc => ?_)
          · have h := gx_f h hc
            refine gw_iconst (v := (-1)) hC dX10_otherwise_47 (by decide) ?_
            exact gw_iret hC hr dX10_otherwise_48 h
          · have h := gx_t h hc
            refine gw_iconst (v := 0) hC dX10_otherwise_43 (by decide) ?_
            refine gw_goto (tgt := 48) hC dX10_otherwise_44 (by decide) ?_
            exact gw_iret hC hr dX10_otherwise_48 h
      · have h := gx_f h hc
        refine gw_iconst (v := (-1)) hC dX10_otherwise_23 (by decide) ?_
        exact gw_iret hC hr dX10_otherwise_24 h
theorem c_X10_otherwise {l : Launch} {d : gx_D} {w : gx_V} {ca : Nat → ClassId} (hw : gx_isC ca w)   {M : gx_M} {v1 : Int32} {v2 : Int32} {v3 : Int32} {Q : Int32 → gx_M → Prop} (h : T_X10_otherwise M v1 v2 v3 Q) : gx_Mi l d w yX10_otherwise cX10_otherwise 9 .int rm_X10_otherwise [.ref (gx_ad w 0), .int v1, .int v2, .int v3] M Q := fun sz =>
  gx_of (own := RX10) (by decide +kernel) rfl (Nat.le_of_ble_eq_true rfl) (fun z hC hl hR hsz hr => by subst hsz; exact J_X10_otherwise hC hw hR hr  h) rfl
set_option maxRecDepth 20000 in
theorem J_X10_caught_133 {z : gx_X} {d : gx_D} {w : gx_V} {ca : Nat → ClassId} (hC : gx_C z d w cX10_caught 8 RX10) (hw : gx_isC ca w) (hR : gx_R z = rm_X10_caught) (hr : (gx_me z).sig.returnType = (some .int))  {Q : Int32 → gx_M → Prop} {K92 : gx_M → Int32 → Int32 → Nat → Int32 → Int32 → Int32 → Prop} (hK92 : ∀ (M : gx_M) (v1 : Int32) (v2 : Int32) (o4 : Nat) (v5 : Int32) (v6 : Int32) (v7 : Int32) (ho4 : pk_Pt o4), K92 M v1 v2 o4 v5 v6 v7 → GW z w 8 (gx_Qi w Q (gx_s z).heap.size) M 92 [(0, .ref (gx_ad w 0)), (1, .int v1), (2, .int v2), (4, .ref (gx_ad w o4)), (5, .int v5), (6, .int v6), (7, .int v7)] []) (M : gx_M) (v1 : Int32) (v2 : Int32) (o4 : Nat) (v5 : Int32) (v6 : Int32) (v7 : Int32) (ho4 : pk_Pt o4) (h : T_X10_caught_133 Q K92 M v1 v2 o4 v5 v6 v7) : GW z w 8 (gx_Qi w Q (gx_s z).heap.size) M 133 [(0, .ref (gx_ad w 0)), (1, .int v1), (2, .int v2), (4, .ref (gx_ad w o4)), (5, .int v5), (6, .int v6), (7, .int v7)] [] := by
  unfold T_X10_caught_133 at h
  have ⟨ho4a, ho4b⟩ := ho4
  obtain ⟨x18, hx18⟩ : ∃ y : Int32, y = v7 + 1 := ⟨_, rfl⟩
  have h := h x18 hx18
  refine gw_iinc (v := x18) (lv' := [(7, .int x18), (0, .ref (gx_ad w 0)), (1, .int v1), (2, .int v2), (4, .ref (gx_ad w o4)), (5, .int v5), (6, .int v6)]) hC dX10_caught_133 (k := 6) rfl (by rw [hx18]; rfl) (by decide) rfl ?_
  refine gw_goto (tgt := 92) hC dX10_caught_136 (by decide) ?_
  refine gw_sub (lv' := [(0, .ref (gx_ad w 0)), (1, .int v1), (2, .int v2), (4, .ref (gx_ad w o4)), (5, .int v5), (6, .int v6), (7, .int x18)]) [1, 2, 3, 4, 5, 6, 0] rfl ?_
  exact hK92 M v1 v2 o4 v5 v6 x18 ⟨by omega, by omega⟩ h
set_option maxRecDepth 20000 in
theorem J_X10_caught_92 {z : gx_X} {d : gx_D} {w : gx_V} {ca : Nat → ClassId} (hC : gx_C z d w cX10_caught 8 RX10) (hw : gx_isC ca w) (hR : gx_R z = rm_X10_caught) (hr : (gx_me z).sig.returnType = (some .int))  {Q : Int32 → gx_M → Prop} {K139 : gx_M → Nat → Int32 → Int32 → Prop} (hK139 : ∀ (M : gx_M) (o4 : Nat) (v5 : Int32) (v6 : Int32) (ho4 : pk_Pt o4), K139 M o4 v5 v6 → GW z w 8 (gx_Qi w Q (gx_s z).heap.size) M 139 [(0, .ref (gx_ad w 0)), (4, .ref (gx_ad w o4)), (5, .int v5), (6, .int v6)] []) : ∀ (n : Nat) (M : gx_M) (v1 : Int32) (v2 : Int32) (o4 : Nat) (v5 : Int32) (v6 : Int32) (v7 : Int32) (ho4 : pk_Pt o4), T_X10_caught_92 Q K139 n M v1 v2 o4 v5 v6 v7 → GW z w 8 (gx_Qi w Q (gx_s z).heap.size) M 92 [(0, .ref (gx_ad w 0)), (1, .int v1), (2, .int v2), (4, .ref (gx_ad w o4)), (5, .int v5), (6, .int v6), (7, .int v7)] [] := by
  intro n
  induction n with
  | zero =>
    intro M v1 v2 o4 v5 v6 v7 ho4 h
    exact h.elim
  | succ n ih =>
    intro M v1 v2 o4 v5 v6 v7 ho4 h
    rw [T_X10_caught_92] at h
    have ⟨ho4a, ho4b⟩ := ho4
    refine gw_iload hC dX10_caught_92 6 rfl ?_
    refine gw_aload hC dX10_caught_94 3 rfl ?_
    refine gw_get hC cl_X3 fg_X10_218 (gn_Pt hw ⟨by omega, by omega⟩) (gc_Pt hw ⟨by omega, by omega⟩ _) (gv_X3_2 _ _ _) dX10_caught_96 ?_
    refine gw_icmp_ge (tgt := 139) hC dX10_caught_99 (by decide) (fun hc => ?_) (fun hc => ?_)
    · have h := gx_t h hc
      refine gw_sub (lv' := [(0, .ref (gx_ad w 0)), (4, .ref (gx_ad w o4)), (5, .int v5), (6, .int v6)]) [0, 3, 4, 5] rfl ?_
      exact hK139 M o4 v5 v6 ⟨by omega, by omega⟩ h
    · have h := gx_f h hc
      refine gw_aload hC dX10_caught_102 3 rfl ?_
      refine gw_iload hC dX10_caught_104 6 rfl ?_
      refine gw_put hC cl_X3 fp_X10_215 (gn_Pt hw ⟨by omega, by omega⟩) (gc_Pt hw ⟨by omega, by omega⟩ _) ((gc_Pt hw ⟨by omega, by omega⟩ _).trans (gs_X3_4 _ _ _ _)) rfl rfl (by simp [fs_X3]) dX10_caught_106 ?_
      refine gw_nmM (fun M14 hM14 => ?_)
      have h := h M14 hM14
      refine gw_aload_n hC dX10_caught_109 rfl 0 rfl ?_
      refine gw_get hC cl_X10 fg_X10_10 (hw.lt (by decide)) (gc_0 hw _) (gv_X10_0 _ _ _) dX10_caught_110 ?_
      refine gw_callv (gx_rV hC (n := 0) (As := []) (rest := []) (fun sz => c_X1_forget hw  h sz) cv_X10_98_X1_forget (by rw [hR]; exact rr_X10_caught_X1_forget) ⟨(hw.lt (by decide)), _, _, _, _, gc_1 hw _, cl_X1.1⟩ rfl rfl (Nat.le_of_ble_eq_true rfl) dX10_caught_113) ?_
      intro M15 h
      refine gw_aload_n hC dX10_caught_116 rfl 0 rfl ?_
      refine gw_get hC cl_X10 fg_X10_10 (hw.lt (by decide)) (gc_0 hw _) (gv_X10_0 _ _ _) dX10_caught_117 ?_
      refine gw_iload_n hC dX10_caught_120 rfl 1 rfl ?_
      refine gw_aload hC dX10_caught_121 3 rfl ?_
      refine gw_iload_n hC dX10_caught_123 rfl 2 rfl ?_
      refine gw_calli (gx_rV hC (n := 3) (As := [.int v1, .ref (gx_ad w o4), .int v2]) (rest := []) (fun sz => c_X1_catches hw ⟨by omega, by omega⟩ h sz) cv_X10_221_X1_catches (by rw [hR]; exact rr_X10_caught_X1_catches) ⟨(hw.lt (by decide)), _, _, _, _, gc_1 hw _, cl_X1.1⟩ rfl rfl (Nat.le_of_ble_eq_true rfl) dX10_caught_124) ?_
      intro r17 M16 h
      refine gw_if_eq (tgt := 133) hC dX10_caught_127 (by decide) (fun hc => ?_) (fun hc => ?_)
      · have h := gx_t h hc
        exact J_X10_caught_133 hC hw hR hr ih M16 v1 v2 o4 v5 v6 v7 ⟨by omega, by omega⟩ h
      · have h := gx_f h hc
        obtain ⟨x19, hx19⟩ : ∃ y : Int32, y = v6 + 1 := ⟨_, rfl⟩
        have h := h x19 hx19
        refine gw_iinc (v := x19) (lv' := [(6, .int x19), (0, .ref (gx_ad w 0)), (1, .int v1), (2, .int v2), (4, .ref (gx_ad w o4)), (5, .int v5), (7, .int v7)]) hC dX10_caught_130 (k := 5) rfl (by rw [hx19]; rfl) (by decide) rfl ?_
        refine gw_sub (lv' := [(0, .ref (gx_ad w 0)), (1, .int v1), (2, .int v2), (4, .ref (gx_ad w o4)), (5, .int v5), (6, .int x19), (7, .int v7)]) [1, 2, 3, 4, 5, 0, 6] rfl ?_
        exact J_X10_caught_133 hC hw hR hr ih M16 v1 v2 o4 v5 x19 v7 ⟨by omega, by omega⟩ h
set_option maxRecDepth 20000 in
theorem J_X10_caught {z : gx_X} {d : gx_D} {w : gx_V} {ca : Nat → ClassId} (hC : gx_C z d w cX10_caught 8 RX10) (hw : gx_isC ca w) (hR : gx_R z = rm_X10_caught) (hr : (gx_me z).sig.returnType = (some .int))   {M : gx_M} {v1 : Int32} {v2 : Int32} {Q : Int32 → gx_M → Prop} (h : T_X10_caught M v1 v2 Q) : GW z w 8 (gx_Qi w Q (gx_s z).heap.size) M 0 [(0, .ref (gx_ad w 0)), (1, .int v1), (2, .int v2)] [] := by
  unfold T_X10_caught at h
  refine gw_iload_n hC dX10_caught_0 rfl 1 rfl ?_
  refine gw_calli (gx_rS hC (n := 1) (As := [.int v1]) (rest := []) (fun sz => c_X10_isSignal hw  h sz) cs_X10_77_X10_isSignal (by rw [hR]; exact rr_X10_caught_X10_isSignal) rfl rfl (Nat.le_of_ble_eq_true rfl) dX10_caught_1) ?_
  intro r1 m2 ⟨hm2, h⟩
  rw [hm2]
  refine gw_if_eq (tgt := 14) hC dX10_caught_4 (by decide) (fun hc => ?_) (fun hc => ?_)
  · have h := gx_t h hc
    refine gw_iconst (v := (-1)) hC dX10_caught_14 (by decide) ?_
    exact gw_iret hC hr dX10_caught_15 h
  · have h := gx_f h hc
    refine gw_iload_n hC dX10_caught_7 rfl 2 rfl ?_
    refine gw_calli (gx_rS hC (n := 1) (As := [.int v2]) (rest := []) (fun sz => c_X10_isSpan hw  h sz) cs_X10_165_X10_isSpan (by rw [hR]; exact rr_X10_caught_X10_isSpan) rfl rfl (Nat.le_of_ble_eq_true rfl) dX10_caught_8) ?_
    intro r3 m4 ⟨hm4, h⟩
    rw [hm4]
    refine gw_if_ne (tgt := 16) hC dX10_caught_11 (by decide) (fun hc => ?_) (fun hc => ?_)
    · have h := gx_f h hc
      refine gw_aload_n hC dX10_caught_16 rfl 0 rfl ?_
      refine gw_get hC cl_X10 fg_X10_20 (hw.lt (by decide)) (gc_0 hw _) (gv_X10_1 _ _ _) dX10_caught_17 ?_
      refine gw_get hC cl_X8 fg_X10_85 (hw.lt (by decide)) (gc_Se hw (by decide) _) (gv_X8_0 _ _ _) dX10_caught_20 ?_
      refine gw_rr (o' := 36) (by omega) ?_
      refine gw_iload_n hC dX10_caught_23 rfl 1 rfl ?_
      obtain ⟨hi, h⟩ := h
      have hb5 := vp_lt hi
      refine gw_aald hC (hw.lt (by decide)) (gc_SA hw (by decide) _) (gt_3 hw) rfl hi dX10_caught_24 ?_
      refine gw_rr (o' := 42 + v1.toNatClampNeg) (by omega) ?_
      refine gw_get hC cl_X9 fg_X10_89 (gn_Si hw ⟨by omega, by omega⟩) (gc_Si hw ⟨by omega, by omega⟩ _) (gv_X9_1 _ _ _) dX10_caught_25 ?_
      refine gw_iconst (v := 1) hC dX10_caught_28 (by decide) ?_
      refine gw_isub hC dX10_caught_29 ?_
      refine gw_nm (fun x6 hx6 => ?_)
      have h := h x6 hx6
      refine gw_istore_n (lv' := [(3, .int x6), (0, .ref (gx_ad w 0)), (1, .int v1), (2, .int v2)]) hC dX10_caught_30 rfl (by decide) rfl ?_
      refine gw_iload_n hC dX10_caught_31 rfl 0 rfl ?_
      refine gw_iconst (v := 0) hC dX10_caught_32 (by decide) ?_
      refine gw_iconst (v := 5) hC dX10_caught_33 (by decide) ?_
      refine gw_calli (gx_rS hC (n := 3) (As := [.int x6, .int 0, .int 5]) (rest := []) (fun sz => c_X10_within hw  h sz) cs_X10_81_X10_within (by rw [hR]; exact rr_X10_caught_X10_within) rfl rfl (Nat.le_of_ble_eq_true rfl) dX10_caught_34) ?_
      intro r7 m8 ⟨hm8, h⟩
      rw [hm8]
      refine gw_if_eq (tgt := 61) hC dX10_caught_37 (by decide) (fun hc => ?_) (fun hc => ?_)
      · have h := gx_t h hc
        refine gw_iconst (v := (-1)) hC dX10_caught_61 (by decide) ?_
        exact gw_iret hC hr dX10_caught_62 h
      · have h := gx_f h hc
        refine gw_aload_n hC dX10_caught_40 rfl 1 rfl ?_
        refine gw_get hC cl_X10 fg_X10_20 (hw.lt (by decide)) (gc_0 hw _) (gv_X10_1 _ _ _) dX10_caught_41 ?_
        refine gw_get hC cl_X8 fg_X10_85 (hw.lt (by decide)) (gc_Se hw (by decide) _) (gv_X8_0 _ _ _) dX10_caught_44 ?_
        refine gw_rr (o' := 36) (by omega) ?_
        refine gw_iload_n hC dX10_caught_47 rfl 2 rfl ?_
        obtain ⟨hi, h⟩ := h
        have hb9 := vp_lt hi
        refine gw_aald hC (hw.lt (by decide)) (gc_SA hw (by decide) _) (gt_3 hw) rfl hi dX10_caught_48 ?_
        refine gw_rr (o' := 42 + v1.toNatClampNeg) (by omega) ?_
        refine gw_get hC cl_X9 fg_X10_208 (gn_Si hw ⟨by omega, by omega⟩) (gc_Si hw ⟨by omega, by omega⟩ _) (gv_X9_0 _ _ _) dX10_caught_49 ?_
        refine gw_rr (o' := 50 + v1.toNatClampNeg) (by omega) ?_
        refine gw_iload_n hC dX10_caught_52 rfl 0 rfl ?_
        obtain ⟨hi, h⟩ := h
        have hb10 := vp_lt hi
        refine gw_aald hC (gn_PA hw ⟨by omega, by omega⟩) (gc_PA hw ⟨by omega, by omega⟩ _) (gt_2 hw) rfl hi dX10_caught_53 ?_
        refine gw_rr (o' := 62 + x6.toNatClampNeg + 6 * v1.toNatClampNeg) (by omega) ?_
        refine gw_get hC cl_X3 fg_X10_212 (gn_Pt hw ⟨by omega, by omega⟩) (gc_Pt hw ⟨by omega, by omega⟩ _) (gv_X3_0 _ _ _) dX10_caught_54 ?_
        refine gw_iconst (v := 1) hC dX10_caught_57 (by decide) ?_
        refine gw_icmp_eq (tgt := 63) hC dX10_caught_58 (by decide) (fun hc => ?_) (fun hc => ?_)
        · have h := gx_t h hc
          refine gw_aload_n hC dX10_caught_63 rfl 1 rfl ?_
          refine gw_get hC cl_X10 fg_X10_20 (hw.lt (by decide)) (gc_0 hw _) (gv_X10_1 _ _ _) dX10_caught_64 ?_
          refine gw_get hC cl_X8 fg_X10_85 (hw.lt (by decide)) (gc_Se hw (by decide) _) (gv_X8_0 _ _ _) dX10_caught_67 ?_
          refine gw_rr (o' := 36) (by omega) ?_
          refine gw_iload_n hC dX10_caught_70 rfl 2 rfl ?_
          obtain ⟨hi, h⟩ := h
          have hb11 := vp_lt hi
          refine gw_aald hC (hw.lt (by decide)) (gc_SA hw (by decide) _) (gt_3 hw) rfl hi dX10_caught_71 ?_
          refine gw_rr (o' := 42 + v1.toNatClampNeg) (by omega) ?_
          refine gw_get hC cl_X9 fg_X10_208 (gn_Si hw ⟨by omega, by omega⟩) (gc_Si hw ⟨by omega, by omega⟩ _) (gv_X9_0 _ _ _) dX10_caught_72 ?_
          refine gw_rr (o' := 50 + v1.toNatClampNeg) (by omega) ?_
          refine gw_iload_n hC dX10_caught_75 rfl 0 rfl ?_
          obtain ⟨hi, h⟩ := h
          have hb12 := vp_lt hi
          refine gw_aald hC (gn_PA hw ⟨by omega, by omega⟩) (gc_PA hw ⟨by omega, by omega⟩ _) (gt_2 hw) rfl hi dX10_caught_76 ?_
          refine gw_rr (o' := 62 + x6.toNatClampNeg + 6 * v1.toNatClampNeg) (by omega) ?_
          refine gw_astore (lv' := [(4, .ref (gx_ad w (62 + x6.toNatClampNeg + 6 * v1.toNatClampNeg))), (3, .int x6), (0, .ref (gx_ad w 0)), (1, .int v1), (2, .int v2)]) hC dX10_caught_77 (by decide) rfl ?_
          refine gw_aload hC dX10_caught_79 0 rfl ?_
          refine gw_get hC cl_X3 fg_X10_215 (gn_Pt hw ⟨by omega, by omega⟩) (gc_Pt hw ⟨by omega, by omega⟩ _) (gv_X3_4 _ _ _) dX10_caught_81 ?_
          refine gw_nm (fun x13 hx13 => ?_)
          have h := h x13 hx13
          refine gw_istore (lv' := [(5, .int x13), (4, .ref (gx_ad w (62 + x6.toNatClampNeg + 6 * v1.toNatClampNeg))), (3, .int x6), (0, .ref (gx_ad w 0)), (1, .int v1), (2, .int v2)]) hC dX10_caught_84 (by decide) rfl ?_
          refine gw_iconst (v := 0) hC dX10_caught_86 (by decide) ?_
          refine gw_istore (lv' := [(6, .int 0), (5, .int x13), (4, .ref (gx_ad w (62 + x6.toNatClampNeg + 6 * v1.toNatClampNeg))), (3, .int x6), (0, .ref (gx_ad w 0)), (1, .int v1), (2, .int v2)]) hC dX10_caught_87 (by decide) rfl ?_
          refine gw_iconst (v := 0) hC dX10_caught_89 (by decide) ?_
          refine gw_istore (lv' := [(7, .int 0), (6, .int 0), (5, .int x13), (4, .ref (gx_ad w (62 + x6.toNatClampNeg + 6 * v1.toNatClampNeg))), (3, .int x6), (0, .ref (gx_ad w 0)), (1, .int v1), (2, .int v2)]) hC dX10_caught_90 (by decide) rfl ?_
          obtain ⟨k20, h⟩ := h
          refine gw_sub (lv' := [(0, .ref (gx_ad w 0)), (1, .int v1), (2, .int v2), (4, .ref (gx_ad w (62 + x6.toNatClampNeg + 6 * v1.toNatClampNeg))), (5, .int x13), (6, .int 0), (7, .int 0)]) [5, 6, 7, 3, 2, 1, 0] rfl ?_
          exact J_X10_caught_92 hC hw hR hr (fun M24 o4_21 v5_22 v6_23 ho4_21 h => by
              have ⟨ho4_21a, ho4_21b⟩ := ho4_21
              refine gw_aload hC dX10_caught_139 1 rfl ?_
              refine gw_iload hC dX10_caught_141 2 rfl ?_
              refine gw_put hC cl_X3 fp_X10_215 (gn_Pt hw ⟨by omega, by omega⟩) (gc_Pt hw ⟨by omega, by omega⟩ _) ((gc_Pt hw ⟨by omega, by omega⟩ _).trans (gs_X3_4 _ _ _ _)) rfl rfl (by simp [fs_X3]) dX10_caught_143 ?_
              refine gw_nmM (fun M25 hM25 => ?_)
              have h := h M25 hM25
              refine gw_aload_n hC dX10_caught_146 rfl 0 rfl ?_
              refine gw_get hC cl_X10 fg_X10_10 (hw.lt (by decide)) (gc_0 hw _) (gv_X10_0 _ _ _) dX10_caught_147 ?_
              refine gw_callv (gx_rV hC (n := 0) (As := []) (rest := []) (fun sz => c_X1_forget hw  h sz) cv_X10_98_X1_forget (by rw [hR]; exact rr_X10_caught_X1_forget) ⟨(hw.lt (by decide)), _, _, _, _, gc_1 hw _, cl_X1.1⟩ rfl rfl (Nat.le_of_ble_eq_true rfl) dX10_caught_150) ?_
              intro M26 h
              refine gw_iload hC dX10_caught_153 3 rfl ?_
              exact gw_iret hC hr dX10_caught_155 h) k20 M v1 v2 (62 + x6.toNatClampNeg + 6 * v1.toNatClampNeg) x13 0 0 ⟨by omega, by omega⟩ h
        · have h := gx_f h hc
          refine gw_iconst (v := (-1)) hC dX10_caught_61 (by decide) ?_
          exact gw_iret hC hr dX10_caught_62 h
    · have h := gx_t h hc
      refine gw_iconst (v := (-1)) hC dX10_caught_14 (by decide) ?_
      exact gw_iret hC hr dX10_caught_15 h
theorem c_X10_caught {l : Launch} {d : gx_D} {w : gx_V} {ca : Nat → ClassId} (hw : gx_isC ca w)   {M : gx_M} {v1 : Int32} {v2 : Int32} {Q : Int32 → gx_M → Prop} (h : T_X10_caught M v1 v2 Q) : gx_Mi l d w yX10_caught cX10_caught 8 .int rm_X10_caught [.ref (gx_ad w 0), .int v1, .int v2] M Q := fun sz =>
  gx_of (own := RX10) (by decide +kernel) rfl (Nat.le_of_ble_eq_true rfl) (fun z hC hl hR hsz hr => by subst hsz; exact J_X10_caught hC hw hR hr  h) rfl
set_option maxRecDepth 20000 in
theorem J_X10_photo {z : gx_X} {d : gx_D} {w : gx_V} {ca : Nat → ClassId} (hC : gx_C z d w cX10_photo 3 RX10) (hw : gx_isC ca w) (hR : gx_R z = rm_X10_photo) (hr : (gx_me z).sig.returnType = (some .boolean))   {M : gx_M} {v1 : Int32} {v2 : Int32} {Q : Int32 → gx_M → Prop} (h : T_X10_photo M v1 v2 Q) : GW z w 3 (gx_Qi w Q (gx_s z).heap.size) M 0 [(0, .ref (gx_ad w 0)), (1, .int v1), (2, .int v2)] [] := by
  unfold T_X10_photo at h
  refine gw_iload_n hC dX10_photo_0 rfl 1 rfl ?_
  refine gw_iconst (v := 0) hC dX10_photo_1 (by decide) ?_
  refine gw_bipush (v := 19) hC dX10_photo_2 (by decide) ?_
  refine gw_calli (gx_rS hC (n := 3) (As := [.int v1, .int 0, .int 19]) (rest := []) (fun sz => c_X10_within hw  h sz) cs_X10_81_X10_within (by rw [hR]; exact rr_X10_photo_X10_within) rfl rfl (Nat.le_of_ble_eq_true rfl) dX10_photo_4) ?_
  intro r1 m2 ⟨hm2, h⟩
  rw [hm2]
  refine gw_if_eq (tgt := 20) hC dX10_photo_7 (by decide) (fun hc => ?_) (fun hc => ?_)
  · have h := gx_t h hc
    refine gw_iconst (v := 0) hC dX10_photo_20 (by decide) ?_
    exact gw_zret hC hr rfl dX10_photo_21 h
  · have h := gx_f h hc
    refine gw_iload_n hC dX10_photo_10 rfl 2 rfl ?_
    refine gw_iconst (v := 0) hC dX10_photo_11 (by decide) ?_
    refine gw_ldc hC kc_X10_225 dX10_photo_12 ?_
    refine gw_calli (gx_rS hC (n := 3) (As := [.int v2, .int 0, .int 65535]) (rest := []) (fun sz => c_X10_within hw  h sz) cs_X10_81_X10_within (by rw [hR]; exact rr_X10_photo_X10_within) rfl rfl (Nat.le_of_ble_eq_true rfl) dX10_photo_14) ?_
    intro r3 m4 ⟨hm4, h⟩
    rw [hm4]
    refine gw_if_ne (tgt := 22) hC dX10_photo_17 (by decide) (fun hc => ?_) (fun hc => ?_)
    · have h := gx_f h hc
      refine gw_aload_n hC dX10_photo_22 rfl 0 rfl ?_
      refine gw_get hC cl_X10 fg_X10_20 (hw.lt (by decide)) (gc_0 hw _) (gv_X10_1 _ _ _) dX10_photo_23 ?_
      refine gw_get hC cl_X8 fg_X10_226 (hw.lt (by decide)) (gc_Se hw (by decide) _) (gv_X8_2 _ _ _) dX10_photo_26 ?_
      refine gw_rr (o' := 40) (by omega) ?_
      refine gw_iload_n hC dX10_photo_29 rfl 1 rfl ?_
      refine gw_iload_n hC dX10_photo_30 rfl 2 rfl ?_
      obtain ⟨hi, h⟩ := h
      refine gw_iast hC (hw.lt (by decide)) (gc_a2 hw (by decide)) (gt_0 hw) hi dX10_photo_31 ?_
      refine gw_nmM (fun M5 hM5 => ?_)
      have h := h M5 hM5
      refine gw_iconst (v := 1) hC dX10_photo_32 (by decide) ?_
      exact gw_zret hC hr rfl dX10_photo_33 h
    · have h := gx_t h hc
      refine gw_iconst (v := 0) hC dX10_photo_20 (by decide) ?_
      exact gw_zret hC hr rfl dX10_photo_21 h
theorem c_X10_photo {l : Launch} {d : gx_D} {w : gx_V} {ca : Nat → ClassId} (hw : gx_isC ca w)   {M : gx_M} {v1 : Int32} {v2 : Int32} {Q : Int32 → gx_M → Prop} (h : T_X10_photo M v1 v2 Q) : gx_Mi l d w yX10_photo cX10_photo 3 .boolean rm_X10_photo [.ref (gx_ad w 0), .int v1, .int v2] M Q := fun sz =>
  gx_of (own := RX10) (by decide +kernel) rfl (Nat.le_of_ble_eq_true rfl) (fun z hC hl hR hsz hr => by subst hsz; exact J_X10_photo hC hw hR hr  h) rfl
set_option maxRecDepth 20000 in
theorem J_X10_copyBits_2 {z : gx_X} {d : gx_D} {w : gx_V} {ca : Nat → ClassId} (hC : gx_C z d w cX10_copyBits 4 RX10) (hw : gx_isC ca w) (hR : gx_R z = rm_X10_copyBits) (hr : (gx_me z).sig.returnType = none)  {Q : gx_M → Prop}   : ∀ (n : Nat) (M : gx_M) (v1 : Int32) (o2 : Nat) (v3 : Int32) (ho2 : pk_a2 o2), T_X10_copyBits_2 Q  n M v1 o2 v3 → GW z w 4 (gx_Qv w Q (gx_s z).heap.size) M 2 [(0, .ref (gx_ad w 0)), (1, .int v1), (2, .ref (gx_ad w o2)), (3, .int v3)] [] := by
  intro n
  induction n with
  | zero =>
    intro M v1 o2 v3 ho2 h
    exact h.elim
  | succ n ih =>
    intro M v1 o2 v3 ho2 h
    rw [T_X10_copyBits_2] at h
    refine gw_iload_n hC dX10_copyBits_2 rfl 3 rfl ?_
    refine gw_aload_n hC dX10_copyBits_3 rfl 2 rfl ?_
    refine gw_alen (v := 20) hC (gn_a2 hw ho2) (gc_a2 hw ho2 _) (gt_0 hw) rfl dX10_copyBits_4 ?_
    refine gw_icmp_ge (tgt := 26) hC dX10_copyBits_5 (by decide) (fun hc => ?_) (fun hc => ?_)
    · have h := gx_t h hc
      exact gw_vret hC hr dX10_copyBits_26 h
    · have h := gx_f h hc
      refine gw_aload_n hC dX10_copyBits_8 rfl 2 rfl ?_
      refine gw_iload_n hC dX10_copyBits_9 rfl 3 rfl ?_
      refine gw_aload_n hC dX10_copyBits_10 rfl 0 rfl ?_
      refine gw_get hC cl_X10 fg_X10_50 (hw.lt (by decide)) (gc_0 hw _) (gv_X10_5 _ _ _) dX10_copyBits_11 ?_
      refine gw_iload_n hC dX10_copyBits_14 rfl 3 rfl ?_
      refine gw_iload_n hC dX10_copyBits_15 rfl 1 rfl ?_
      refine gw_calli (gx_rV hC (n := 2) (As := [.int v3, .int v1]) (rest := [.int v3, .ref (gx_ad w o2)]) (fun sz => c_X7_bits hw  h sz) cv_X10_190_X7_bits (by rw [hR]; exact rr_X10_copyBits_X7_bits) ⟨(hw.lt (by decide)), _, _, _, _, gc_8 hw _, cl_X7.1⟩ rfl rfl (Nat.le_of_ble_eq_true rfl) dX10_copyBits_16) ?_
      intro r1 m2 ⟨hm2, h⟩
      rw [hm2]
      obtain ⟨hi, h⟩ := h
      refine gw_iast hC (gn_a2 hw ho2) (gc_a2 hw ho2) (gt_0 hw) hi dX10_copyBits_19 ?_
      refine gw_nmM (fun M3 hM3 => ?_)
      have h := h M3 hM3
      obtain ⟨x4, hx4⟩ : ∃ y : Int32, y = v3 + 1 := ⟨_, rfl⟩
      have h := h x4 hx4
      refine gw_iinc (v := x4) (lv' := [(3, .int x4), (0, .ref (gx_ad w 0)), (1, .int v1), (2, .ref (gx_ad w o2))]) hC dX10_copyBits_20 (k := 3) rfl (by rw [hx4]; rfl) (by decide) rfl ?_
      refine gw_goto (tgt := 2) hC dX10_copyBits_23 (by decide) ?_
      refine gw_sub (lv' := [(0, .ref (gx_ad w 0)), (1, .int v1), (2, .ref (gx_ad w o2)), (3, .int x4)]) [1, 2, 3, 0] rfl ?_
      exact ih M3 v1 o2 x4 ho2 h
set_option maxRecDepth 20000 in
theorem J_X10_copyBits {z : gx_X} {d : gx_D} {w : gx_V} {ca : Nat → ClassId} (hC : gx_C z d w cX10_copyBits 4 RX10) (hw : gx_isC ca w) (hR : gx_R z = rm_X10_copyBits) (hr : (gx_me z).sig.returnType = none) {o2 : Nat} (ho2 : pk_a2 o2) {M : gx_M} {v1 : Int32} {Q : gx_M → Prop} (h : T_X10_copyBits M o2 v1 Q) : GW z w 4 (gx_Qv w Q (gx_s z).heap.size) M 0 [(0, .ref (gx_ad w 0)), (1, .int v1), (2, .ref (gx_ad w o2))] [] := by
  unfold T_X10_copyBits at h
  refine gw_iconst (v := 0) hC dX10_copyBits_0 (by decide) ?_
  refine gw_istore_n (lv' := [(3, .int 0), (0, .ref (gx_ad w 0)), (1, .int v1), (2, .ref (gx_ad w o2))]) hC dX10_copyBits_1 rfl (by decide) rfl ?_
  obtain ⟨k5, h⟩ := h
  refine gw_sub (lv' := [(0, .ref (gx_ad w 0)), (1, .int v1), (2, .ref (gx_ad w o2)), (3, .int 0)]) [1, 2, 3, 0] rfl ?_
  exact J_X10_copyBits_2 hC hw hR hr  k5 M v1 o2 0 ho2 h
theorem c_X10_copyBits {l : Launch} {d : gx_D} {w : gx_V} {ca : Nat → ClassId} (hw : gx_isC ca w) {o2 : Nat} (ho2 : pk_a2 o2) {M : gx_M} {v1 : Int32} {Q : gx_M → Prop} (h : T_X10_copyBits M o2 v1 Q) : gx_Mv l d w yX10_copyBits cX10_copyBits 4 rm_X10_copyBits [.ref (gx_ad w 0), .int v1, .ref (gx_ad w o2)] M Q := fun sz =>
  gx_of (own := RX10) (by decide +kernel) rfl (Nat.le_of_ble_eq_true rfl) (fun z hC hl hR hsz hr => by subst hsz; exact J_X10_copyBits hC hw hR hr ho2 h) rfl
set_option maxRecDepth 20000 in
theorem J_X10_shoot {z : gx_X} {d : gx_D} {w : gx_V} {ca : Nat → ClassId} (hC : gx_C z d w cX10_shoot 3 RX10) (hw : gx_isC ca w) (hR : gx_R z = rm_X10_shoot) (hr : (gx_me z).sig.returnType = (some .int))   {M : gx_M} {v1 : Int32} {v2 : Int32} {Q : Int32 → gx_M → Prop} (h : T_X10_shoot M v1 v2 Q) : GW z w 3 (gx_Qi w Q (gx_s z).heap.size) M 0 [(0, .ref (gx_ad w 0)), (1, .int v1), (2, .int v2)] [] := by
  unfold T_X10_shoot at h
  refine gw_iload_n hC dX10_shoot_0 rfl 1 rfl ?_
  refine gw_calli (gx_rS hC (n := 1) (As := [.int v1]) (rest := []) (fun sz => c_X10_isSpan hw  h sz) cs_X10_165_X10_isSpan (by rw [hR]; exact rr_X10_shoot_X10_isSpan) rfl rfl (Nat.le_of_ble_eq_true rfl) dX10_shoot_1) ?_
  intro r1 m2 ⟨hm2, h⟩
  rw [hm2]
  refine gw_if_eq (tgt := 18) hC dX10_shoot_4 (by decide) (fun hc => ?_) (fun hc => ?_)
  · have h := gx_t h hc
    refine gw_iconst (v := (-1)) hC dX10_shoot_18 (by decide) ?_
    exact gw_iret hC hr dX10_shoot_19 h
  · have h := gx_f h hc
    refine gw_iload_n hC dX10_shoot_7 rfl 2 rfl ?_
    refine gw_iconst (v := 1) hC dX10_shoot_8 (by decide) ?_
    refine gw_sipush (v := 999) hC dX10_shoot_9 (by decide) ?_
    refine gw_calli (gx_rS hC (n := 3) (As := [.int v2, .int 1, .int 999]) (rest := []) (fun sz => c_X10_within hw  h sz) cs_X10_81_X10_within (by rw [hR]; exact rr_X10_shoot_X10_within) rfl rfl (Nat.le_of_ble_eq_true rfl) dX10_shoot_12) ?_
    intro r3 m4 ⟨hm4, h⟩
    rw [hm4]
    refine gw_if_ne (tgt := 20) hC dX10_shoot_15 (by decide) (fun hc => ?_) (fun hc => ?_)
    · have h := gx_f h hc
      refine gw_aload_n hC dX10_shoot_20 rfl 0 rfl ?_
      refine gw_get hC cl_X10 fg_X10_10 (hw.lt (by decide)) (gc_0 hw _) (gv_X10_0 _ _ _) dX10_shoot_21 ?_
      refine gw_aload_n hC dX10_shoot_24 rfl 0 rfl ?_
      refine gw_get hC cl_X10 fg_X10_50 (hw.lt (by decide)) (gc_0 hw _) (gv_X10_5 _ _ _) dX10_shoot_25 ?_
      refine gw_iload_n hC dX10_shoot_28 rfl 1 rfl ?_
      refine gw_callv (gx_rV hC (n := 2) (As := [.ref (gx_ad w 8), .int v1]) (rest := []) (fun sz => c_X1_draw hw  h sz) cv_X10_180_X1_draw (by rw [hR]; exact rr_X10_shoot_X1_draw) ⟨(hw.lt (by decide)), _, _, _, _, gc_1 hw _, cl_X1.1⟩ rfl rfl (Nat.le_of_ble_eq_true rfl) dX10_shoot_29) ?_
      intro M5 h
      refine gw_aload_n hC dX10_shoot_32 rfl 0 rfl ?_
      refine gw_iload_n hC dX10_shoot_33 rfl 2 rfl ?_
      refine gw_aload_n hC dX10_shoot_34 rfl 0 rfl ?_
      refine gw_get hC cl_X10 fg_X10_20 (hw.lt (by decide)) (gc_0 hw _) (gv_X10_1 _ _ _) dX10_shoot_35 ?_
      refine gw_get hC cl_X8 fg_X10_226 (hw.lt (by decide)) (gc_Se hw (by decide) _) (gv_X8_2 _ _ _) dX10_shoot_38 ?_
      refine gw_rr (o' := 40) (by omega) ?_
      refine gw_callv (gx_rV hC (n := 2) (As := [.int v2, .ref (gx_ad w 40)]) (rest := []) (fun sz => c_X10_copyBits hw (by decide) h sz) cv_X10_229_X10_copyBits (by rw [hR]; exact rr_X10_shoot_X10_copyBits) ⟨(hw.lt (by decide)), _, _, _, _, gc_0 hw _, cl_X10.1⟩ rfl rfl (Nat.le_of_ble_eq_true rfl) dX10_shoot_41) ?_
      intro M6 h
      refine gw_aload_n hC dX10_shoot_44 rfl 0 rfl ?_
      refine gw_get hC cl_X10 fg_X10_50 (hw.lt (by decide)) (gc_0 hw _) (gv_X10_5 _ _ _) dX10_shoot_45 ?_
      refine gw_iload_n hC dX10_shoot_48 rfl 2 rfl ?_
      refine gw_calli (gx_rV hC (n := 1) (As := [.int v2]) (rest := []) (fun sz => c_X7_dots hw  h sz) cv_X10_187_X7_dots (by rw [hR]; exact rr_X10_shoot_X7_dots) ⟨(hw.lt (by decide)), _, _, _, _, gc_8 hw _, cl_X7.1⟩ rfl rfl (Nat.le_of_ble_eq_true rfl) dX10_shoot_49) ?_
      intro r7 m8 ⟨hm8, h⟩
      rw [hm8]
      exact gw_iret hC hr dX10_shoot_52 h
    · have h := gx_t h hc
      refine gw_iconst (v := (-1)) hC dX10_shoot_18 (by decide) ?_
      exact gw_iret hC hr dX10_shoot_19 h
theorem c_X10_shoot {l : Launch} {d : gx_D} {w : gx_V} {ca : Nat → ClassId} (hw : gx_isC ca w)   {M : gx_M} {v1 : Int32} {v2 : Int32} {Q : Int32 → gx_M → Prop} (h : T_X10_shoot M v1 v2 Q) : gx_Mi l d w yX10_shoot cX10_shoot 3 .int rm_X10_shoot [.ref (gx_ad w 0), .int v1, .int v2] M Q := fun sz =>
  gx_of (own := RX10) (by decide +kernel) rfl (Nat.le_of_ble_eq_true rfl) (fun z hC hl hR hsz hr => by subst hsz; exact J_X10_shoot hC hw hR hr  h) rfl
set_option maxRecDepth 20000 in
theorem J_X10_unlike_5 {z : gx_X} {d : gx_D} {w : gx_V} {ca : Nat → ClassId} (hC : gx_C z d w cX10_unlike 5 RX10) (hw : gx_isC ca w) (hR : gx_R z = rm_X10_unlike) (hr : (gx_me z).sig.returnType = (some .int)) {M : gx_M} {Q : Int32 → Prop}   : ∀ (n : Nat) (o1 : Nat) (v2 : Int32) (v3 : Int32) (v4 : Int32) (ho1 : pk_a2 o1), T_X10_unlike_5 M Q  n o1 v2 v3 v4 → GW z w 5 (gx_Qi w (fun r M1 => M1 = M ∧ Q r) (gx_s z).heap.size) M 5 [(0, .ref (gx_ad w 0)), (1, .ref (gx_ad w o1)), (2, .int v2), (3, .int v3), (4, .int v4)] [] := by
  intro n
  induction n with
  | zero =>
    intro o1 v2 v3 v4 ho1 h
    exact h.elim
  | succ n ih =>
    intro o1 v2 v3 v4 ho1 h
    rw [T_X10_unlike_5] at h
    refine gw_iload hC dX10_unlike_5 4 rfl ?_
    refine gw_aload_n hC dX10_unlike_7 rfl 1 rfl ?_
    refine gw_alen (v := 20) hC (gn_a2 hw ho1) (gc_a2 hw ho1 _) (gt_0 hw) rfl dX10_unlike_8 ?_
    refine gw_icmp_ge (tgt := 39) hC dX10_unlike_9 (by decide) (fun hc => ?_) (fun hc => ?_)
    · have h := gx_t h hc
      refine gw_iload_n hC dX10_unlike_39 rfl 3 rfl ?_
      exact gw_iret hC hr dX10_unlike_40 ⟨rfl, h⟩
    · have h := gx_f h hc
      refine gw_iload_n hC dX10_unlike_12 rfl 3 rfl ?_
      refine gw_aload_n hC dX10_unlike_13 rfl 1 rfl ?_
      refine gw_iload hC dX10_unlike_14 4 rfl ?_
      obtain ⟨hi, h⟩ := h
      refine gw_iald hC (gn_a2 hw ho1) (gc_a2 hw ho1 _) (gt_0 hw) hi dX10_unlike_16 ?_
      refine gw_aload_n hC dX10_unlike_17 rfl 0 rfl ?_
      refine gw_get hC cl_X10 fg_X10_50 (hw.lt (by decide)) (gc_0 hw _) (gv_X10_5 _ _ _) dX10_unlike_18 ?_
      refine gw_iload hC dX10_unlike_21 4 rfl ?_
      refine gw_iload_n hC dX10_unlike_23 rfl 2 rfl ?_
      refine gw_calli (gx_rV hC (n := 2) (As := [.int v4, .int v2]) (rest := [.int (M o1 v4.toNatClampNeg), .int v3]) (fun sz => c_X7_bits hw  h sz) cv_X10_190_X7_bits (by rw [hR]; exact rr_X10_unlike_X7_bits) ⟨(hw.lt (by decide)), _, _, _, _, gc_8 hw _, cl_X7.1⟩ rfl rfl (Nat.le_of_ble_eq_true rfl) dX10_unlike_24) ?_
      intro r1 m2 ⟨hm2, h⟩
      rw [hm2]
      refine gw_ixor hC dX10_unlike_27 ?_
      refine gw_calli (gx_rS hC (n := 1) (As := [.int ((M o1 v4.toNatClampNeg) ^^^ r1)]) (rest := [.int v3]) (fun sz => c_J6_bitCount_0f7a4 hw  h sz) cs_X10_243_J6_bitCount_0f7a4 (by rw [hR]; exact rr_X10_unlike_J6_bitCount_0f7a4) rfl rfl (Nat.le_of_ble_eq_true rfl) dX10_unlike_28) ?_
      intro r3 m4 ⟨hm4, h⟩
      rw [hm4]
      refine gw_iadd hC dX10_unlike_31 ?_
      refine gw_nm (fun x5 hx5 => ?_)
      have h := h x5 hx5
      refine gw_istore_n (lv' := [(3, .int x5), (0, .ref (gx_ad w 0)), (1, .ref (gx_ad w o1)), (2, .int v2), (4, .int v4)]) hC dX10_unlike_32 rfl (by decide) rfl ?_
      obtain ⟨x6, hx6⟩ : ∃ y : Int32, y = v4 + 1 := ⟨_, rfl⟩
      have h := h x6 hx6
      refine gw_iinc (v := x6) (lv' := [(4, .int x6), (3, .int x5), (0, .ref (gx_ad w 0)), (1, .ref (gx_ad w o1)), (2, .int v2)]) hC dX10_unlike_33 (k := 4) rfl (by rw [hx6]; rfl) (by decide) rfl ?_
      refine gw_goto (tgt := 5) hC dX10_unlike_36 (by decide) ?_
      refine gw_sub (lv' := [(0, .ref (gx_ad w 0)), (1, .ref (gx_ad w o1)), (2, .int v2), (3, .int x5), (4, .int x6)]) [2, 3, 4, 1, 0] rfl ?_
      exact ih o1 v2 x5 x6 ho1 h
set_option maxRecDepth 20000 in
theorem J_X10_unlike {z : gx_X} {d : gx_D} {w : gx_V} {ca : Nat → ClassId} (hC : gx_C z d w cX10_unlike 5 RX10) (hw : gx_isC ca w) (hR : gx_R z = rm_X10_unlike) (hr : (gx_me z).sig.returnType = (some .int)) {o1 : Nat} (ho1 : pk_a2 o1) {M : gx_M} {v2 : Int32} {Q : Int32 → Prop} (h : T_X10_unlike M o1 v2 Q) : GW z w 5 (gx_Qi w (fun r M1 => M1 = M ∧ Q r) (gx_s z).heap.size) M 0 [(0, .ref (gx_ad w 0)), (1, .ref (gx_ad w o1)), (2, .int v2)] [] := by
  unfold T_X10_unlike at h
  refine gw_iconst (v := 0) hC dX10_unlike_0 (by decide) ?_
  refine gw_istore_n (lv' := [(3, .int 0), (0, .ref (gx_ad w 0)), (1, .ref (gx_ad w o1)), (2, .int v2)]) hC dX10_unlike_1 rfl (by decide) rfl ?_
  refine gw_iconst (v := 0) hC dX10_unlike_2 (by decide) ?_
  refine gw_istore (lv' := [(4, .int 0), (3, .int 0), (0, .ref (gx_ad w 0)), (1, .ref (gx_ad w o1)), (2, .int v2)]) hC dX10_unlike_3 (by decide) rfl ?_
  obtain ⟨k7, h⟩ := h
  refine gw_sub (lv' := [(0, .ref (gx_ad w 0)), (1, .ref (gx_ad w o1)), (2, .int v2), (3, .int 0), (4, .int 0)]) [2, 3, 4, 1, 0] rfl ?_
  exact J_X10_unlike_5 hC hw hR hr  k7 o1 v2 0 0 ho1 h
theorem c_X10_unlike {l : Launch} {d : gx_D} {w : gx_V} {ca : Nat → ClassId} (hw : gx_isC ca w) {o1 : Nat} (ho1 : pk_a2 o1) {M : gx_M} {v2 : Int32} {Q : Int32 → Prop} (h : T_X10_unlike M o1 v2 Q) : gx_Mi l d w yX10_unlike cX10_unlike 5 .int rm_X10_unlike [.ref (gx_ad w 0), .ref (gx_ad w o1), .int v2] M (fun r M1 => M1 = M ∧ Q r) := fun sz =>
  gx_of (own := RX10) (by decide +kernel) rfl (Nat.le_of_ble_eq_true rfl) (fun z hC hl hR hsz hr => by subst hsz; exact J_X10_unlike hC hw hR hr ho1 h) rfl
set_option maxRecDepth 20000 in
theorem J_X10_settings_154 {z : gx_X} {d : gx_D} {w : gx_V} {ca : Nat → ClassId} (hC : gx_C z d w cX10_settings 10 RX10) (hw : gx_isC ca w) (hR : gx_R z = rm_X10_settings) (hr : (gx_me z).sig.returnType = (some .int))  {Q : Int32 → gx_M → Prop} {K67 : gx_M → Int32 → Int32 → Int32 → Int32 → Int32 → Int32 → Int32 → Int32 → Int32 → Prop} (hK67 : ∀ (M : gx_M) (v1 : Int32) (v2 : Int32) (v3 : Int32) (v4 : Int32) (v5 : Int32) (v6 : Int32) (v7 : Int32) (v8 : Int32) (v9 : Int32), K67 M v1 v2 v3 v4 v5 v6 v7 v8 v9 → GW z w 10 (gx_Qi w Q (gx_s z).heap.size) M 67 [(0, .ref (gx_ad w 0)), (1, .int v1), (2, .int v2), (3, .int v3), (4, .int v4), (5, .int v5), (6, .int v6), (7, .int v7), (8, .int v8), (9, .int v9)] []) (M : gx_M) (v1 : Int32) (v2 : Int32) (v3 : Int32) (v4 : Int32) (v5 : Int32) (v6 : Int32) (v7 : Int32) (v8 : Int32) (v9 : Int32)  (h : T_X10_settings_154 Q K67 M v1 v2 v3 v4 v5 v6 v7 v8 v9) : GW z w 10 (gx_Qi w Q (gx_s z).heap.size) M 154 [(0, .ref (gx_ad w 0)), (1, .int v1), (2, .int v2), (3, .int v3), (4, .int v4), (5, .int v5), (6, .int v6), (7, .int v7), (8, .int v8), (9, .int v9)] [] := by
  unfold T_X10_settings_154 at h
  obtain ⟨x12, hx12⟩ : ∃ y : Int32, y = v9 + 1 := ⟨_, rfl⟩
  have h := h x12 hx12
  refine gw_iinc (v := x12) (lv' := [(9, .int x12), (0, .ref (gx_ad w 0)), (1, .int v1), (2, .int v2), (3, .int v3), (4, .int v4), (5, .int v5), (6, .int v6), (7, .int v7), (8, .int v8)]) hC dX10_settings_154 (k := 9) rfl (by rw [hx12]; rfl) (by decide) rfl ?_
  refine gw_goto (tgt := 67) hC dX10_settings_157 (by decide) ?_
  refine gw_sub (lv' := [(0, .ref (gx_ad w 0)), (1, .int v1), (2, .int v2), (3, .int v3), (4, .int v4), (5, .int v5), (6, .int v6), (7, .int v7), (8, .int v8), (9, .int x12)]) [1, 2, 3, 4, 5, 6, 7, 8, 9, 0] rfl ?_
  exact hK67 M v1 v2 v3 v4 v5 v6 v7 v8 x12 h
set_option maxRecDepth 20000 in
theorem J_X10_settings_151 {z : gx_X} {d : gx_D} {w : gx_V} {ca : Nat → ClassId} (hC : gx_C z d w cX10_settings 10 RX10) (hw : gx_isC ca w) (hR : gx_R z = rm_X10_settings) (hr : (gx_me z).sig.returnType = (some .int))  {Q : Int32 → gx_M → Prop} {K67 : gx_M → Int32 → Int32 → Int32 → Int32 → Int32 → Int32 → Int32 → Int32 → Int32 → Prop} (hK67 : ∀ (M : gx_M) (v1 : Int32) (v2 : Int32) (v3 : Int32) (v4 : Int32) (v5 : Int32) (v6 : Int32) (v7 : Int32) (v8 : Int32) (v9 : Int32), K67 M v1 v2 v3 v4 v5 v6 v7 v8 v9 → GW z w 10 (gx_Qi w Q (gx_s z).heap.size) M 67 [(0, .ref (gx_ad w 0)), (1, .int v1), (2, .int v2), (3, .int v3), (4, .int v4), (5, .int v5), (6, .int v6), (7, .int v7), (8, .int v8), (9, .int v9)] []) (M : gx_M) (v1 : Int32) (v2 : Int32) (v3 : Int32) (v4 : Int32) (v5 : Int32) (v6 : Int32) (v7 : Int32) (v8 : Int32) (v9 : Int32)  (h : T_X10_settings_151 Q K67 M v1 v2 v3 v4 v5 v6 v7 v8 v9) : GW z w 10 (gx_Qi w Q (gx_s z).heap.size) M 151 [(0, .ref (gx_ad w 0)), (1, .int v1), (2, .int v2), (3, .int v3), (4, .int v4), (5, .int v5), (6, .int v6), (7, .int v7), (8, .int v8), (9, .int v9)] [] := by
  unfold T_X10_settings_151 at h
  obtain ⟨x13, hx13⟩ : ∃ y : Int32, y = v6 + 1 := ⟨_, rfl⟩
  have h := h x13 hx13
  refine gw_iinc (v := x13) (lv' := [(6, .int x13), (0, .ref (gx_ad w 0)), (1, .int v1), (2, .int v2), (3, .int v3), (4, .int v4), (5, .int v5), (7, .int v7), (8, .int v8), (9, .int v9)]) hC dX10_settings_151 (k := 6) rfl (by rw [hx13]; rfl) (by decide) rfl ?_
  refine gw_sub (lv' := [(0, .ref (gx_ad w 0)), (1, .int v1), (2, .int v2), (3, .int v3), (4, .int v4), (5, .int v5), (6, .int x13), (7, .int v7), (8, .int v8), (9, .int v9)]) [1, 2, 3, 4, 5, 6, 0, 7, 8, 9] rfl ?_
  exact J_X10_settings_154 hC hw hR hr hK67 M v1 v2 v3 v4 v5 x13 v7 v8 v9 h
set_option maxRecDepth 20000 in
theorem J_X10_settings_67 {z : gx_X} {d : gx_D} {w : gx_V} {ca : Nat → ClassId} (hC : gx_C z d w cX10_settings 10 RX10) (hw : gx_isC ca w) (hR : gx_R z = rm_X10_settings) (hr : (gx_me z).sig.returnType = (some .int))  {Q : Int32 → gx_M → Prop} {K160 : gx_M → Int32 → Int32 → Int32 → Int32 → Int32 → Int32 → Int32 → Int32 → Prop} (hK160 : ∀ (M : gx_M) (v1 : Int32) (v2 : Int32) (v3 : Int32) (v4 : Int32) (v5 : Int32) (v6 : Int32) (v7 : Int32) (v8 : Int32), K160 M v1 v2 v3 v4 v5 v6 v7 v8 → GW z w 10 (gx_Qi w Q (gx_s z).heap.size) M 160 [(0, .ref (gx_ad w 0)), (1, .int v1), (2, .int v2), (3, .int v3), (4, .int v4), (5, .int v5), (6, .int v6), (7, .int v7), (8, .int v8)] []) : ∀ (n : Nat) (M : gx_M) (v1 : Int32) (v2 : Int32) (v3 : Int32) (v4 : Int32) (v5 : Int32) (v6 : Int32) (v7 : Int32) (v8 : Int32) (v9 : Int32) , T_X10_settings_67 Q K160 n M v1 v2 v3 v4 v5 v6 v7 v8 v9 → GW z w 10 (gx_Qi w Q (gx_s z).heap.size) M 67 [(0, .ref (gx_ad w 0)), (1, .int v1), (2, .int v2), (3, .int v3), (4, .int v4), (5, .int v5), (6, .int v6), (7, .int v7), (8, .int v8), (9, .int v9)] [] := by
  intro n
  induction n with
  | zero =>
    intro M v1 v2 v3 v4 v5 v6 v7 v8 v9 h
    exact h.elim
  | succ n ih =>
    intro M v1 v2 v3 v4 v5 v6 v7 v8 v9 h
    rw [T_X10_settings_67] at h
    refine gw_iload hC dX10_settings_67 9 rfl ?_
    refine gw_gains hC fs_X10_236 dX10_settings_69 ?_
    refine gw_glen hC dX10_settings_72 ?_
    refine gw_icmp_ge (tgt := 160) hC dX10_settings_73 (by decide) (fun hc => ?_) (fun hc => ?_)
    · have h := gx_t h hc
      refine gw_sub (lv' := [(0, .ref (gx_ad w 0)), (1, .int v1), (2, .int v2), (3, .int v3), (4, .int v4), (5, .int v5), (6, .int v6), (7, .int v7), (8, .int v8)]) [0, 1, 2, 3, 4, 5, 6, 7, 8] rfl ?_
      exact hK160 M v1 v2 v3 v4 v5 v6 v7 v8 h
    · have h := gx_f h hc
      refine gw_aload_n hC dX10_settings_76 rfl 0 rfl ?_
      refine gw_get hC cl_X10 fg_X10_20 (hw.lt (by decide)) (gc_0 hw _) (gv_X10_1 _ _ _) dX10_settings_77 ?_
      refine gw_iload hC dX10_settings_80 8 rfl ?_
      refine gw_put hC cl_X8 fp_X10_126 (hw.lt (by decide)) (gc_Se hw (by decide) _) ((gc_Se hw (by decide) _).trans (gs_X8_3 _ _ _ _)) rfl rfl (by simp [fs_X8]) dX10_settings_82 ?_
      refine gw_nmM (fun M7 hM7 => ?_)
      have h := h M7 hM7
      refine gw_aload_n hC dX10_settings_85 rfl 0 rfl ?_
      refine gw_get hC cl_X10 fg_X10_20 (hw.lt (by decide)) (gc_0 hw _) (gv_X10_1 _ _ _) dX10_settings_86 ?_
      refine gw_get hC cl_X8 fg_X10_109 (hw.lt (by decide)) (gc_Se hw (by decide) _) (gv_X8_1 _ _ _) dX10_settings_89 ?_
      refine gw_rr (o' := 38) (by omega) ?_
      refine gw_iconst (v := 0) hC dX10_settings_92 (by decide) ?_
      refine gw_aald hC (hw.lt (by decide)) (gc_CA hw (by decide) _) (gt_4 hw) rfl (i := 0) (by unfold vp_in; decide) dX10_settings_93 ?_
      refine gw_rr (o' := 58) (by decide) ?_
      refine gw_gains hC fs_X10_236 dX10_settings_94 ?_
      refine gw_iload hC dX10_settings_97 9 rfl ?_
      obtain ⟨hi, h⟩ := h
      refine gw_gld hC hi dX10_settings_99 ?_
      refine gw_put hC cl_X2 fp_X10_233 (hw.lt (by decide)) (gc_Ch hw (by decide) _) ((gc_Ch hw (by decide) _).trans (gs_X2_4 _ _ _ _)) rfl rfl (by simp [fs_X2]) dX10_settings_100 ?_
      refine gw_nmM (fun M8 hM8 => ?_)
      have h := h M8 hM8
      refine gw_aload_n hC dX10_settings_103 rfl 0 rfl ?_
      refine gw_get hC cl_X10 fg_X10_10 (hw.lt (by decide)) (gc_0 hw _) (gv_X10_0 _ _ _) dX10_settings_104 ?_
      refine gw_aload_n hC dX10_settings_107 rfl 0 rfl ?_
      refine gw_get hC cl_X10 fg_X10_50 (hw.lt (by decide)) (gc_0 hw _) (gv_X10_5 _ _ _) dX10_settings_108 ?_
      refine gw_iload_n hC dX10_settings_111 rfl 1 rfl ?_
      refine gw_callv (gx_rV hC (n := 2) (As := [.ref (gx_ad w 8), .int v1]) (rest := []) (fun sz => c_X1_draw hw  h sz) cv_X10_180_X1_draw (by rw [hR]; exact rr_X10_settings_X1_draw) ⟨(hw.lt (by decide)), _, _, _, _, gc_1 hw _, cl_X1.1⟩ rfl rfl (Nat.le_of_ble_eq_true rfl) dX10_settings_112) ?_
      intro M9 h
      refine gw_aload_n hC dX10_settings_115 rfl 0 rfl ?_
      refine gw_aload_n hC dX10_settings_116 rfl 0 rfl ?_
      refine gw_get hC cl_X10 fg_X10_20 (hw.lt (by decide)) (gc_0 hw _) (gv_X10_1 _ _ _) dX10_settings_117 ?_
      refine gw_get hC cl_X8 fg_X10_226 (hw.lt (by decide)) (gc_Se hw (by decide) _) (gv_X8_2 _ _ _) dX10_settings_120 ?_
      refine gw_rr (o' := 40) (by omega) ?_
      refine gw_iload_n hC dX10_settings_123 rfl 2 rfl ?_
      refine gw_calli (gx_rV hC (n := 2) (As := [.ref (gx_ad w 40), .int v2]) (rest := []) (fun sz => c_X10_unlike hw (by decide) h sz) cv_X10_239_X10_unlike (by rw [hR]; exact rr_X10_settings_X10_unlike) ⟨(hw.lt (by decide)), _, _, _, _, gc_0 hw _, cl_X10.1⟩ rfl rfl (Nat.le_of_ble_eq_true rfl) dX10_settings_124) ?_
      intro r10 m11 ⟨hm11, h⟩
      rw [hm11]
      refine gw_if_ne (tgt := 154) hC dX10_settings_127 (by decide) (fun hc => ?_) (fun hc => ?_)
      · have h := gx_f h hc
        exact J_X10_settings_154 hC hw hR hr ih M9 v1 v2 v3 v4 v5 v6 v7 v8 v9 h
      · have h := gx_t h hc
        refine gw_iload hC dX10_settings_130 6 rfl ?_
        refine gw_iload_n hC dX10_settings_132 rfl 3 rfl ?_
        refine gw_icmp_ne (tgt := 151) hC dX10_settings_133 (by decide) (fun hc => ?_) (fun hc => ?_)
        · have h := gx_f h hc
          exact J_X10_settings_151 hC hw hR hr ih M9 v1 v2 v3 v4 v5 v6 v7 v8 v9 h
        · have h := gx_t h hc
          refine gw_sipush (v := 1000) hC dX10_settings_136 (by decide) ?_
          refine gw_iload hC dX10_settings_139 8 rfl ?_
          refine gw_imul hC dX10_settings_141 ?_
          refine gw_gains hC fs_X10_236 dX10_settings_142 ?_
          refine gw_iload hC dX10_settings_145 9 rfl ?_
          obtain ⟨hi, h⟩ := h
          refine gw_gld hC hi dX10_settings_147 ?_
          refine gw_iadd hC dX10_settings_148 ?_
          refine gw_nm (fun x14 hx14 => ?_)
          have h := h x14 hx14
          refine gw_istore (lv' := [(7, .int x14), (0, .ref (gx_ad w 0)), (1, .int v1), (2, .int v2), (3, .int v3), (4, .int v4), (5, .int v5), (6, .int v6), (8, .int v8), (9, .int v9)]) hC dX10_settings_149 (by decide) rfl ?_
          refine gw_sub (lv' := [(0, .ref (gx_ad w 0)), (1, .int v1), (2, .int v2), (3, .int v3), (4, .int v4), (5, .int v5), (6, .int v6), (7, .int x14), (8, .int v8), (9, .int v9)]) [1, 2, 3, 4, 5, 6, 7, 0, 8, 9] rfl ?_
          exact J_X10_settings_151 hC hw hR hr ih M9 v1 v2 v3 v4 v5 v6 x14 v8 v9 h
set_option maxRecDepth 20000 in
theorem J_X10_settings_57 {z : gx_X} {d : gx_D} {w : gx_V} {ca : Nat → ClassId} (hC : gx_C z d w cX10_settings 10 RX10) (hw : gx_isC ca w) (hR : gx_R z = rm_X10_settings) (hr : (gx_me z).sig.returnType = (some .int))  {Q : Int32 → gx_M → Prop} {K166 : gx_M → Int32 → Int32 → Int32 → Int32 → Int32 → Prop} (hK166 : ∀ (M : gx_M) (v3 : Int32) (v4 : Int32) (v5 : Int32) (v6 : Int32) (v7 : Int32), K166 M v3 v4 v5 v6 v7 → GW z w 10 (gx_Qi w Q (gx_s z).heap.size) M 166 [(0, .ref (gx_ad w 0)), (3, .int v3), (4, .int v4), (5, .int v5), (6, .int v6), (7, .int v7)] []) : ∀ (n : Nat) (M : gx_M) (v1 : Int32) (v2 : Int32) (v3 : Int32) (v4 : Int32) (v5 : Int32) (v6 : Int32) (v7 : Int32) (v8 : Int32) , T_X10_settings_57 Q K166 n M v1 v2 v3 v4 v5 v6 v7 v8 → GW z w 10 (gx_Qi w Q (gx_s z).heap.size) M 57 [(0, .ref (gx_ad w 0)), (1, .int v1), (2, .int v2), (3, .int v3), (4, .int v4), (5, .int v5), (6, .int v6), (7, .int v7), (8, .int v8)] [] := by
  intro n
  induction n with
  | zero =>
    intro M v1 v2 v3 v4 v5 v6 v7 v8 h
    exact h.elim
  | succ n ih =>
    intro M v1 v2 v3 v4 v5 v6 v7 v8 h
    rw [T_X10_settings_57] at h
    refine gw_iload hC dX10_settings_57 8 rfl ?_
    refine gw_bipush (v := 20) hC dX10_settings_59 (by decide) ?_
    refine gw_icmp_gt (tgt := 166) hC dX10_settings_61 (by decide) (fun hc => ?_) (fun hc => ?_)
    · have h := gx_t h hc
      refine gw_sub (lv' := [(0, .ref (gx_ad w 0)), (3, .int v3), (4, .int v4), (5, .int v5), (6, .int v6), (7, .int v7)]) [0, 3, 4, 5, 6, 7] rfl ?_
      exact hK166 M v3 v4 v5 v6 v7 h
    · have h := gx_f h hc
      refine gw_iconst (v := 0) hC dX10_settings_64 (by decide) ?_
      refine gw_istore (lv' := [(9, .int 0), (0, .ref (gx_ad w 0)), (1, .int v1), (2, .int v2), (3, .int v3), (4, .int v4), (5, .int v5), (6, .int v6), (7, .int v7), (8, .int v8)]) hC dX10_settings_65 (by decide) rfl ?_
      obtain ⟨k15, h⟩ := h
      refine gw_sub (lv' := [(0, .ref (gx_ad w 0)), (1, .int v1), (2, .int v2), (3, .int v3), (4, .int v4), (5, .int v5), (6, .int v6), (7, .int v7), (8, .int v8), (9, .int 0)]) [1, 2, 3, 4, 5, 6, 7, 8, 9, 0] rfl ?_
      exact J_X10_settings_67 hC hw hR hr (fun M24 v1_16 v2_17 v3_18 v4_19 v5_20 v6_21 v7_22 v8_23 h => by
          obtain ⟨x25, hx25⟩ : ∃ y : Int32, y = v8_23 + 1 := ⟨_, rfl⟩
          have h := h x25 hx25
          refine gw_iinc (v := x25) (lv' := [(8, .int x25), (0, .ref (gx_ad w 0)), (1, .int v1_16), (2, .int v2_17), (3, .int v3_18), (4, .int v4_19), (5, .int v5_20), (6, .int v6_21), (7, .int v7_22)]) hC dX10_settings_160 (k := 8) rfl (by rw [hx25]; rfl) (by decide) rfl ?_
          refine gw_goto (tgt := 57) hC dX10_settings_163 (by decide) ?_
          refine gw_sub (lv' := [(0, .ref (gx_ad w 0)), (1, .int v1_16), (2, .int v2_17), (3, .int v3_18), (4, .int v4_19), (5, .int v5_20), (6, .int v6_21), (7, .int v7_22), (8, .int x25)]) [1, 2, 3, 4, 5, 6, 7, 8, 0] rfl ?_
          exact ih M24 v1_16 v2_17 v3_18 v4_19 v5_20 v6_21 v7_22 x25 h) k15 M v1 v2 v3 v4 v5 v6 v7 v8 0 h
set_option maxRecDepth 20000 in
theorem J_X10_settings {z : gx_X} {d : gx_D} {w : gx_V} {ca : Nat → ClassId} (hC : gx_C z d w cX10_settings 10 RX10) (hw : gx_isC ca w) (hR : gx_R z = rm_X10_settings) (hr : (gx_me z).sig.returnType = (some .int))   {M : gx_M} {v1 : Int32} {v2 : Int32} {v3 : Int32} {Q : Int32 → gx_M → Prop} (h : T_X10_settings M v1 v2 v3 Q) : GW z w 10 (gx_Qi w Q (gx_s z).heap.size) M 0 [(0, .ref (gx_ad w 0)), (1, .int v1), (2, .int v2), (3, .int v3)] [] := by
  unfold T_X10_settings at h
  refine gw_iload_n hC dX10_settings_0 rfl 1 rfl ?_
  refine gw_calli (gx_rS hC (n := 1) (As := [.int v1]) (rest := []) (fun sz => c_X10_isSpan hw  h sz) cs_X10_165_X10_isSpan (by rw [hR]; exact rr_X10_settings_X10_isSpan) rfl rfl (Nat.le_of_ble_eq_true rfl) dX10_settings_1) ?_
  intro r1 m2 ⟨hm2, h⟩
  rw [hm2]
  refine gw_if_eq (tgt := 23) hC dX10_settings_4 (by decide) (fun hc => ?_) (fun hc => ?_)
  · have h := gx_t h hc
    refine gw_iconst (v := (-1)) hC dX10_settings_23 (by decide) ?_
    exact gw_iret hC hr dX10_settings_24 h
  · have h := gx_f h hc
    refine gw_iload_n hC dX10_settings_7 rfl 2 rfl ?_
    refine gw_iconst (v := 1) hC dX10_settings_8 (by decide) ?_
    refine gw_sipush (v := 999) hC dX10_settings_9 (by decide) ?_
    refine gw_calli (gx_rS hC (n := 3) (As := [.int v2, .int 1, .int 999]) (rest := []) (fun sz => c_X10_within hw  h sz) cs_X10_81_X10_within (by rw [hR]; exact rr_X10_settings_X10_within) rfl rfl (Nat.le_of_ble_eq_true rfl) dX10_settings_12) ?_
    intro r3 m4 ⟨hm4, h⟩
    rw [hm4]
    refine gw_if_eq (tgt := 23) hC dX10_settings_15 (by decide) (fun hc => ?_) (fun hc => ?_)
    · have h := gx_t h hc
      refine gw_iconst (v := (-1)) hC dX10_settings_23 (by decide) ?_
      exact gw_iret hC hr dX10_settings_24 h
    · have h := gx_f h hc
      refine gw_iload_n hC dX10_settings_18 rfl 3 rfl ?_
      refine gw_iconst (v := (-1)) hC dX10_settings_19 (by decide) ?_
      refine gw_icmp_ge (tgt := 25) hC dX10_settings_20 (by decide) (fun hc => ?_) (fun hc => ?_)
      · have h := gx_t h hc
        refine gw_aload_n hC dX10_settings_25 rfl 0 rfl ?_
        refine gw_get hC cl_X10 fg_X10_20 (hw.lt (by decide)) (gc_0 hw _) (gv_X10_1 _ _ _) dX10_settings_26 ?_
        refine gw_get hC cl_X8 fg_X10_126 (hw.lt (by decide)) (gc_Se hw (by decide) _) (gv_X8_3 _ _ _) dX10_settings_29 ?_
        refine gw_nm (fun x5 hx5 => ?_)
        have h := h x5 hx5
        refine gw_istore (lv' := [(4, .int x5), (0, .ref (gx_ad w 0)), (1, .int v1), (2, .int v2), (3, .int v3)]) hC dX10_settings_32 (by decide) rfl ?_
        refine gw_aload_n hC dX10_settings_34 rfl 1 rfl ?_
        refine gw_get hC cl_X10 fg_X10_20 (hw.lt (by decide)) (gc_0 hw _) (gv_X10_1 _ _ _) dX10_settings_35 ?_
        refine gw_get hC cl_X8 fg_X10_109 (hw.lt (by decide)) (gc_Se hw (by decide) _) (gv_X8_1 _ _ _) dX10_settings_38 ?_
        refine gw_rr (o' := 38) (by omega) ?_
        refine gw_iconst (v := 0) hC dX10_settings_41 (by decide) ?_
        refine gw_aald hC (hw.lt (by decide)) (gc_CA hw (by decide) _) (gt_4 hw) rfl (i := 0) (by unfold vp_in; decide) dX10_settings_42 ?_
        refine gw_rr (o' := 58) (by decide) ?_
        refine gw_get hC cl_X2 fg_X10_233 (hw.lt (by decide)) (gc_Ch hw (by decide) _) (gv_X2_4 _ _ _) dX10_settings_43 ?_
        refine gw_nm (fun x6 hx6 => ?_)
        have h := h x6 hx6
        refine gw_istore (lv' := [(5, .int x6), (4, .int x5), (0, .ref (gx_ad w 0)), (1, .int v1), (2, .int v2), (3, .int v3)]) hC dX10_settings_46 (by decide) rfl ?_
        refine gw_iconst (v := 0) hC dX10_settings_48 (by decide) ?_
        refine gw_istore (lv' := [(6, .int 0), (5, .int x6), (4, .int x5), (0, .ref (gx_ad w 0)), (1, .int v1), (2, .int v2), (3, .int v3)]) hC dX10_settings_49 (by decide) rfl ?_
        refine gw_iconst (v := (-1)) hC dX10_settings_51 (by decide) ?_
        refine gw_istore (lv' := [(7, .int (-1)), (6, .int 0), (5, .int x6), (4, .int x5), (0, .ref (gx_ad w 0)), (1, .int v1), (2, .int v2), (3, .int v3)]) hC dX10_settings_52 (by decide) rfl ?_
        refine gw_iconst (v := 1) hC dX10_settings_54 (by decide) ?_
        refine gw_istore (lv' := [(8, .int 1), (7, .int (-1)), (6, .int 0), (5, .int x6), (4, .int x5), (0, .ref (gx_ad w 0)), (1, .int v1), (2, .int v2), (3, .int v3)]) hC dX10_settings_55 (by decide) rfl ?_
        obtain ⟨k26, h⟩ := h
        refine gw_sub (lv' := [(0, .ref (gx_ad w 0)), (1, .int v1), (2, .int v2), (3, .int v3), (4, .int x5), (5, .int x6), (6, .int 0), (7, .int (-1)), (8, .int 1)]) [5, 6, 7, 8, 4, 3, 2, 1, 0] rfl ?_
        exact J_X10_settings_57 hC hw hR hr (fun M32 v3_27 v4_28 v5_29 v6_30 v7_31 h => by
            refine gw_aload_n hC dX10_settings_166 rfl 0 rfl ?_
            refine gw_get hC cl_X10 fg_X10_20 (hw.lt (by decide)) (gc_0 hw _) (gv_X10_1 _ _ _) dX10_settings_167 ?_
            refine gw_iload hC dX10_settings_170 2 rfl ?_
            refine gw_put hC cl_X8 fp_X10_126 (hw.lt (by decide)) (gc_Se hw (by decide) _) ((gc_Se hw (by decide) _).trans (gs_X8_3 _ _ _ _)) rfl rfl (by simp [fs_X8]) dX10_settings_172 ?_
            refine gw_nmM (fun M33 hM33 => ?_)
            have h := h M33 hM33
            refine gw_aload_n hC dX10_settings_175 rfl 0 rfl ?_
            refine gw_get hC cl_X10 fg_X10_20 (hw.lt (by decide)) (gc_0 hw _) (gv_X10_1 _ _ _) dX10_settings_176 ?_
            refine gw_get hC cl_X8 fg_X10_109 (hw.lt (by decide)) (gc_Se hw (by decide) _) (gv_X8_1 _ _ _) dX10_settings_179 ?_
            refine gw_rr (o' := 38) (by omega) ?_
            refine gw_iconst (v := 0) hC dX10_settings_182 (by decide) ?_
            refine gw_aald hC (hw.lt (by decide)) (gc_CA hw (by decide) _) (gt_4 hw) rfl (i := 0) (by unfold vp_in; decide) dX10_settings_183 ?_
            refine gw_rr (o' := 58) (by decide) ?_
            refine gw_iload hC dX10_settings_184 3 rfl ?_
            refine gw_put hC cl_X2 fp_X10_233 (hw.lt (by decide)) (gc_Ch hw (by decide) _) ((gc_Ch hw (by decide) _).trans (gs_X2_4 _ _ _ _)) rfl rfl (by simp [fs_X2]) dX10_settings_186 ?_
            refine gw_nmM (fun M34 hM34 => ?_)
            have h := h M34 hM34
            refine gw_iload_n hC dX10_settings_189 rfl 1 rfl ?_
            refine gw_iconst (v := (-1)) hC dX10_settings_190 (by decide) ?_
            refine gw_icmp_ne (tgt := 199) hC dX10_settings_191 (by decide) (fun hc => ?_) (fun hc => ?_)
            · have h := gx_f h hc
              refine gw_iload hC dX10_settings_199 5 rfl ?_
              exact gw_iret hC hr dX10_settings_201 h
            · have h := gx_t h hc
              refine gw_iload hC dX10_settings_194 4 rfl ?_
              refine gw_goto (tgt := 201) hC dX10_settings_196 (by decide) ?_
              exact gw_iret hC hr dX10_settings_201 h) k26 M v1 v2 v3 x5 x6 0 (-1) 1 h
      · have h := gx_f h hc
        refine gw_iconst (v := (-1)) hC dX10_settings_23 (by decide) ?_
        exact gw_iret hC hr dX10_settings_24 h
theorem c_X10_settings {l : Launch} {d : gx_D} {w : gx_V} {ca : Nat → ClassId} (hw : gx_isC ca w)   {M : gx_M} {v1 : Int32} {v2 : Int32} {v3 : Int32} {Q : Int32 → gx_M → Prop} (h : T_X10_settings M v1 v2 v3 Q) : gx_Mi l d w yX10_settings cX10_settings 10 .int rm_X10_settings [.ref (gx_ad w 0), .int v1, .int v2, .int v3] M Q := fun sz =>
  gx_of (own := RX10) (by decide +kernel) rfl (Nat.le_of_ble_eq_true rfl) (fun z hC hl hR hsz hr => by subst hsz; exact J_X10_settings hC hw hR hr  h) rfl
set_option maxRecDepth 20000 in
theorem J_X10_lowest_14 {z : gx_X} {d : gx_D} {w : gx_V} {ca : Nat → ClassId} (hC : gx_C z d w cX10_lowest 6 RX10) (hw : gx_isC ca w) (hR : gx_R z = rm_X10_lowest) (hr : (gx_me z).sig.returnType = (some .int))  {Q : Int32 → gx_M → Prop}   : ∀ (n : Nat) (M : gx_M) (v1 : Int32) (v3 : Int32) (v4 : Int32) (v5 : Int32) , T_X10_lowest_14 Q  n M v1 v3 v4 v5 → GW z w 6 (gx_Qi w Q (gx_s z).heap.size) M 14 [(0, .ref (gx_ad w 0)), (1, .int v1), (3, .int v3), (4, .int v4), (5, .int v5)] [] := by
  intro n
  induction n with
  | zero =>
    intro M v1 v3 v4 v5 h
    exact h.elim
  | succ n ih =>
    intro M v1 v3 v4 v5 h
    rw [T_X10_lowest_14] at h
    refine gw_iload hC dX10_lowest_14 4 rfl ?_
    refine gw_iload_n hC dX10_lowest_16 rfl 2 rfl ?_
    refine gw_icmp_ge (tgt := 43) hC dX10_lowest_17 (by decide) (fun hc => ?_) (fun hc => ?_)
    · have h := gx_t h hc
      refine gw_iload hC dX10_lowest_43 3 rfl ?_
      exact gw_iret hC hr dX10_lowest_45 h
    · have h := gx_f h hc
      refine gw_iload hC dX10_lowest_20 3 rfl ?_
      refine gw_aload_n hC dX10_lowest_22 rfl 0 rfl ?_
      refine gw_get hC cl_X10 fg_X10_10 (hw.lt (by decide)) (gc_0 hw _) (gv_X10_0 _ _ _) dX10_lowest_23 ?_
      refine gw_iload_n hC dX10_lowest_26 rfl 1 rfl ?_
      refine gw_iload hC dX10_lowest_27 4 rfl ?_
      refine gw_calli (gx_rV hC (n := 2) (As := [.int v1, .int v5]) (rest := [.int v4]) (fun sz => c_X1_outAt hw  h sz) cv_X10_122_X1_outAt (by rw [hR]; exact rr_X10_lowest_X1_outAt) ⟨(hw.lt (by decide)), _, _, _, _, gc_1 hw _, cl_X1.1⟩ rfl rfl (Nat.le_of_ble_eq_true rfl) dX10_lowest_29) ?_
      intro r4 M3 h
      refine gw_mmin hC cm_X10_269 cm_st_min cm_ini cm_co_min (by rw [hR]; decide) (by rw [hR]; exact Nat.le_of_ble_eq_true rfl) dX10_lowest_32 ?_
      refine gw_nm (fun x5 hx5 => ?_)
      have h := h x5 hx5
      refine gw_istore (lv' := [(4, .int x5), (0, .ref (gx_ad w 0)), (1, .int v1), (3, .int v3), (5, .int v5)]) hC dX10_lowest_35 (by decide) rfl ?_
      obtain ⟨x6, hx6⟩ : ∃ y : Int32, y = v5 + 1 := ⟨_, rfl⟩
      have h := h x6 hx6
      refine gw_iinc (v := x6) (lv' := [(5, .int x6), (4, .int x5), (0, .ref (gx_ad w 0)), (1, .int v1), (3, .int v3)]) hC dX10_lowest_37 (k := 4) rfl (by rw [hx6]; rfl) (by decide) rfl ?_
      refine gw_goto (tgt := 14) hC dX10_lowest_40 (by decide) ?_
      refine gw_sub (lv' := [(0, .ref (gx_ad w 0)), (1, .int v1), (3, .int v3), (4, .int x5), (5, .int x6)]) [2, 3, 4, 1, 0] rfl ?_
      exact ih M3 v1 v3 x5 x6 h
set_option maxRecDepth 20000 in
theorem J_X10_lowest {z : gx_X} {d : gx_D} {w : gx_V} {ca : Nat → ClassId} (hC : gx_C z d w cX10_lowest 6 RX10) (hw : gx_isC ca w) (hR : gx_R z = rm_X10_lowest) (hr : (gx_me z).sig.returnType = (some .int))   {M : gx_M} {v1 : Int32} {v2 : Int32} {v3 : Int32} {Q : Int32 → gx_M → Prop} (h : T_X10_lowest M v1 v2 v3 Q) : GW z w 6 (gx_Qi w Q (gx_s z).heap.size) M 0 [(0, .ref (gx_ad w 0)), (1, .int v1), (2, .int v2), (3, .int v3)] [] := by
  unfold T_X10_lowest at h
  refine gw_aload_n hC dX10_lowest_0 rfl 0 rfl ?_
  refine gw_get hC cl_X10 fg_X10_10 (hw.lt (by decide)) (gc_0 hw _) (gv_X10_0 _ _ _) dX10_lowest_1 ?_
  refine gw_iload_n hC dX10_lowest_4 rfl 1 rfl ?_
  refine gw_iload_n hC dX10_lowest_5 rfl 2 rfl ?_
  refine gw_calli (gx_rV hC (n := 2) (As := [.int v1, .int v2]) (rest := []) (fun sz => c_X1_outAt hw  h sz) cv_X10_122_X1_outAt (by rw [hR]; exact rr_X10_lowest_X1_outAt) ⟨(hw.lt (by decide)), _, _, _, _, gc_1 hw _, cl_X1.1⟩ rfl rfl (Nat.le_of_ble_eq_true rfl) dX10_lowest_6) ?_
  intro r2 M1 h
  refine gw_istore (lv' := [(4, .int r2), (0, .ref (gx_ad w 0)), (1, .int v1), (2, .int v2), (3, .int v3)]) hC dX10_lowest_9 (by decide) rfl ?_
  refine gw_iload_n hC dX10_lowest_11 rfl 3 rfl ?_
  refine gw_istore (lv' := [(5, .int v2), (4, .int r2), (0, .ref (gx_ad w 0)), (1, .int v1), (2, .int v2), (3, .int v3)]) hC dX10_lowest_12 (by decide) rfl ?_
  obtain ⟨k7, h⟩ := h
  refine gw_sub (lv' := [(0, .ref (gx_ad w 0)), (1, .int v1), (3, .int v3), (4, .int r2), (5, .int v2)]) [2, 3, 5, 1, 0] rfl ?_
  exact J_X10_lowest_14 hC hw hR hr  k7 M1 v1 v3 r2 v2 h
theorem c_X10_lowest {l : Launch} {d : gx_D} {w : gx_V} {ca : Nat → ClassId} (hw : gx_isC ca w)   {M : gx_M} {v1 : Int32} {v2 : Int32} {v3 : Int32} {Q : Int32 → gx_M → Prop} (h : T_X10_lowest M v1 v2 v3 Q) : gx_Mi l d w yX10_lowest cX10_lowest 6 .int rm_X10_lowest [.ref (gx_ad w 0), .int v1, .int v2, .int v3] M Q := fun sz =>
  gx_of (own := RX10) (by decide +kernel) rfl (Nat.le_of_ble_eq_true rfl) (fun z hC hl hR hsz hr => by subst hsz; exact J_X10_lowest hC hw hR hr  h) rfl
set_option maxRecDepth 20000 in
theorem J_X10_highest_14 {z : gx_X} {d : gx_D} {w : gx_V} {ca : Nat → ClassId} (hC : gx_C z d w cX10_highest 6 RX10) (hw : gx_isC ca w) (hR : gx_R z = rm_X10_highest) (hr : (gx_me z).sig.returnType = (some .int))  {Q : Int32 → gx_M → Prop}   : ∀ (n : Nat) (M : gx_M) (v1 : Int32) (v3 : Int32) (v4 : Int32) (v5 : Int32) , T_X10_highest_14 Q  n M v1 v3 v4 v5 → GW z w 6 (gx_Qi w Q (gx_s z).heap.size) M 14 [(0, .ref (gx_ad w 0)), (1, .int v1), (3, .int v3), (4, .int v4), (5, .int v5)] [] := by
  intro n
  induction n with
  | zero =>
    intro M v1 v3 v4 v5 h
    exact h.elim
  | succ n ih =>
    intro M v1 v3 v4 v5 h
    rw [T_X10_highest_14] at h
    refine gw_iload hC dX10_highest_14 4 rfl ?_
    refine gw_iload_n hC dX10_highest_16 rfl 2 rfl ?_
    refine gw_icmp_ge (tgt := 43) hC dX10_highest_17 (by decide) (fun hc => ?_) (fun hc => ?_)
    · have h := gx_t h hc
      refine gw_iload hC dX10_highest_43 3 rfl ?_
      exact gw_iret hC hr dX10_highest_45 h
    · have h := gx_f h hc
      refine gw_iload hC dX10_highest_20 3 rfl ?_
      refine gw_aload_n hC dX10_highest_22 rfl 0 rfl ?_
      refine gw_get hC cl_X10 fg_X10_10 (hw.lt (by decide)) (gc_0 hw _) (gv_X10_0 _ _ _) dX10_highest_23 ?_
      refine gw_iload_n hC dX10_highest_26 rfl 1 rfl ?_
      refine gw_iload hC dX10_highest_27 4 rfl ?_
      refine gw_calli (gx_rV hC (n := 2) (As := [.int v1, .int v5]) (rest := [.int v4]) (fun sz => c_X1_outAt hw  h sz) cv_X10_122_X1_outAt (by rw [hR]; exact rr_X10_highest_X1_outAt) ⟨(hw.lt (by decide)), _, _, _, _, gc_1 hw _, cl_X1.1⟩ rfl rfl (Nat.le_of_ble_eq_true rfl) dX10_highest_29) ?_
      intro r4 M3 h
      refine gw_mmax hC cm_X10_202 cm_st_max cm_ini cm_co_max (by rw [hR]; decide) (by rw [hR]; exact Nat.le_of_ble_eq_true rfl) dX10_highest_32 ?_
      refine gw_nm (fun x5 hx5 => ?_)
      have h := h x5 hx5
      refine gw_istore (lv' := [(4, .int x5), (0, .ref (gx_ad w 0)), (1, .int v1), (3, .int v3), (5, .int v5)]) hC dX10_highest_35 (by decide) rfl ?_
      obtain ⟨x6, hx6⟩ : ∃ y : Int32, y = v5 + 1 := ⟨_, rfl⟩
      have h := h x6 hx6
      refine gw_iinc (v := x6) (lv' := [(5, .int x6), (4, .int x5), (0, .ref (gx_ad w 0)), (1, .int v1), (3, .int v3)]) hC dX10_highest_37 (k := 4) rfl (by rw [hx6]; rfl) (by decide) rfl ?_
      refine gw_goto (tgt := 14) hC dX10_highest_40 (by decide) ?_
      refine gw_sub (lv' := [(0, .ref (gx_ad w 0)), (1, .int v1), (3, .int v3), (4, .int x5), (5, .int x6)]) [2, 3, 4, 1, 0] rfl ?_
      exact ih M3 v1 v3 x5 x6 h
set_option maxRecDepth 20000 in
theorem J_X10_highest {z : gx_X} {d : gx_D} {w : gx_V} {ca : Nat → ClassId} (hC : gx_C z d w cX10_highest 6 RX10) (hw : gx_isC ca w) (hR : gx_R z = rm_X10_highest) (hr : (gx_me z).sig.returnType = (some .int))   {M : gx_M} {v1 : Int32} {v2 : Int32} {v3 : Int32} {Q : Int32 → gx_M → Prop} (h : T_X10_highest M v1 v2 v3 Q) : GW z w 6 (gx_Qi w Q (gx_s z).heap.size) M 0 [(0, .ref (gx_ad w 0)), (1, .int v1), (2, .int v2), (3, .int v3)] [] := by
  unfold T_X10_highest at h
  refine gw_aload_n hC dX10_highest_0 rfl 0 rfl ?_
  refine gw_get hC cl_X10 fg_X10_10 (hw.lt (by decide)) (gc_0 hw _) (gv_X10_0 _ _ _) dX10_highest_1 ?_
  refine gw_iload_n hC dX10_highest_4 rfl 1 rfl ?_
  refine gw_iload_n hC dX10_highest_5 rfl 2 rfl ?_
  refine gw_calli (gx_rV hC (n := 2) (As := [.int v1, .int v2]) (rest := []) (fun sz => c_X1_outAt hw  h sz) cv_X10_122_X1_outAt (by rw [hR]; exact rr_X10_highest_X1_outAt) ⟨(hw.lt (by decide)), _, _, _, _, gc_1 hw _, cl_X1.1⟩ rfl rfl (Nat.le_of_ble_eq_true rfl) dX10_highest_6) ?_
  intro r2 M1 h
  refine gw_istore (lv' := [(4, .int r2), (0, .ref (gx_ad w 0)), (1, .int v1), (2, .int v2), (3, .int v3)]) hC dX10_highest_9 (by decide) rfl ?_
  refine gw_iload_n hC dX10_highest_11 rfl 3 rfl ?_
  refine gw_istore (lv' := [(5, .int v2), (4, .int r2), (0, .ref (gx_ad w 0)), (1, .int v1), (2, .int v2), (3, .int v3)]) hC dX10_highest_12 (by decide) rfl ?_
  obtain ⟨k7, h⟩ := h
  refine gw_sub (lv' := [(0, .ref (gx_ad w 0)), (1, .int v1), (3, .int v3), (4, .int r2), (5, .int v2)]) [2, 3, 5, 1, 0] rfl ?_
  exact J_X10_highest_14 hC hw hR hr  k7 M1 v1 v3 r2 v2 h
theorem c_X10_highest {l : Launch} {d : gx_D} {w : gx_V} {ca : Nat → ClassId} (hw : gx_isC ca w)   {M : gx_M} {v1 : Int32} {v2 : Int32} {v3 : Int32} {Q : Int32 → gx_M → Prop} (h : T_X10_highest M v1 v2 v3 Q) : gx_Mi l d w yX10_highest cX10_highest 6 .int rm_X10_highest [.ref (gx_ad w 0), .int v1, .int v2, .int v3] M Q := fun sz =>
  gx_of (own := RX10) (by decide +kernel) rfl (Nat.le_of_ble_eq_true rfl) (fun z hC hl hR hsz hr => by subst hsz; exact J_X10_highest hC hw hR hr  h) rfl
set_option maxRecDepth 20000 in
theorem J_X10_rise_55 {z : gx_X} {d : gx_D} {w : gx_V} {ca : Nat → ClassId} (hC : gx_C z d w cX10_rise 10 RX10) (hw : gx_isC ca w) (hR : gx_R z = rm_X10_rise) (hr : (gx_me z).sig.returnType = (some .int))  {Q : Int32 → gx_M → Prop} {K6 : gx_M → Int32 → Int32 → Int32 → Int32 → Int32 → Int32 → Int32 → Prop} (hK6 : ∀ (M : gx_M) (v1 : Int32) (v3 : Int32) (v4 : Int32) (v5 : Int32) (v6 : Int32) (v7 : Int32) (v8 : Int32), K6 M v1 v3 v4 v5 v6 v7 v8 → GW z w 10 (gx_Qi w Q (gx_s z).heap.size) M 6 [(0, .ref (gx_ad w 0)), (1, .int v1), (3, .int v3), (4, .int v4), (5, .int v5), (6, .int v6), (7, .int v7), (8, .int v8)] []) (M : gx_M) (v1 : Int32) (v3 : Int32) (v4 : Int32) (v5 : Int32) (v6 : Int32) (v7 : Int32) (v8 : Int32) (v9 : Int32)  (h : T_X10_rise_55 Q K6 M v1 v3 v4 v5 v6 v7 v8 v9) : GW z w 10 (gx_Qi w Q (gx_s z).heap.size) M 55 [(0, .ref (gx_ad w 0)), (1, .int v1), (3, .int v3), (4, .int v4), (5, .int v5), (6, .int v6), (7, .int v7), (8, .int v8), (9, .int v9)] [] := by
  unfold T_X10_rise_55 at h
  refine gw_iload hC dX10_rise_55 8 rfl ?_
  refine gw_bipush (v := 9) hC dX10_rise_57 (by decide) ?_
  refine gw_iload hC dX10_rise_59 5 rfl ?_
  refine gw_iload hC dX10_rise_61 4 rfl ?_
  refine gw_isub hC dX10_rise_63 ?_
  refine gw_imul hC dX10_rise_64 ?_
  refine gw_icmp_lt (tgt := 74) hC dX10_rise_65 (by decide) (fun hc => ?_) (fun hc => ?_)
  · have h := gx_t h hc
    refine gw_iload hC dX10_rise_74 7 rfl ?_
    refine gw_iload hC dX10_rise_76 3 rfl ?_
    refine gw_iadd hC dX10_rise_78 ?_
    refine gw_nm (fun x4 hx4 => ?_)
    have h := h x4 hx4
    refine gw_istore (lv' := [(8, .int x4), (0, .ref (gx_ad w 0)), (1, .int v1), (3, .int v3), (4, .int v4), (5, .int v5), (6, .int v6), (7, .int v7), (9, .int v9)]) hC dX10_rise_79 (by decide) rfl ?_
    refine gw_goto (tgt := 6) hC dX10_rise_81 (by decide) ?_
    refine gw_sub (lv' := [(0, .ref (gx_ad w 0)), (1, .int v1), (3, .int v3), (4, .int v4), (5, .int v5), (6, .int v6), (7, .int v7), (8, .int x4)]) [1, 2, 3, 4, 5, 6, 7, 0] rfl ?_
    exact hK6 M v1 v3 v4 v5 v6 v7 x4 h
  · have h := gx_f h hc
    refine gw_iload hC dX10_rise_68 7 rfl ?_
    refine gw_iload hC dX10_rise_70 6 rfl ?_
    refine gw_isub hC dX10_rise_72 ?_
    exact gw_iret hC hr dX10_rise_73 h
set_option maxRecDepth 20000 in
theorem J_X10_rise_6 {z : gx_X} {d : gx_D} {w : gx_V} {ca : Nat → ClassId} (hC : gx_C z d w cX10_rise 10 RX10) (hw : gx_isC ca w) (hR : gx_R z = rm_X10_rise) (hr : (gx_me z).sig.returnType = (some .int))  {Q : Int32 → gx_M → Prop} {K84 : gx_M → Prop} (hK84 : ∀ (M : gx_M), K84 M → GW z w 10 (gx_Qi w Q (gx_s z).heap.size) M 84 [] []) : ∀ (n : Nat) (M : gx_M) (v1 : Int32) (v3 : Int32) (v4 : Int32) (v5 : Int32) (v6 : Int32) (v7 : Int32) (v8 : Int32) , T_X10_rise_6 Q K84 n M v1 v3 v4 v5 v6 v7 v8 → GW z w 10 (gx_Qi w Q (gx_s z).heap.size) M 6 [(0, .ref (gx_ad w 0)), (1, .int v1), (3, .int v3), (4, .int v4), (5, .int v5), (6, .int v6), (7, .int v7), (8, .int v8)] [] := by
  intro n
  induction n with
  | zero =>
    intro M v1 v3 v4 v5 v6 v7 v8 h
    exact h.elim
  | succ n ih =>
    intro M v1 v3 v4 v5 v6 v7 v8 h
    rw [T_X10_rise_6] at h
    refine gw_iload hC dX10_rise_6 7 rfl ?_
    refine gw_iload_n hC dX10_rise_8 rfl 2 rfl ?_
    refine gw_icmp_ge (tgt := 84) hC dX10_rise_9 (by decide) (fun hc => ?_) (fun hc => ?_)
    · have h := gx_t h hc
      refine gw_sub (lv' := []) [] rfl ?_
      exact hK84 M h
    · have h := gx_f h hc
      refine gw_iload hC dX10_rise_12 3 rfl ?_
      refine gw_if_le (tgt := 84) hC dX10_rise_14 (by decide) (fun hc => ?_) (fun hc => ?_)
      · have h := gx_t h hc
        refine gw_sub (lv' := []) [] rfl ?_
        exact hK84 M h
      · have h := gx_f h hc
        refine gw_bipush (v := 10) hC dX10_rise_17 (by decide) ?_
        refine gw_aload_n hC dX10_rise_19 rfl 0 rfl ?_
        refine gw_get hC cl_X10 fg_X10_10 (hw.lt (by decide)) (gc_0 hw _) (gv_X10_0 _ _ _) dX10_rise_20 ?_
        refine gw_iload_n hC dX10_rise_23 rfl 1 rfl ?_
        refine gw_iload hC dX10_rise_24 7 rfl ?_
        refine gw_calli (gx_rV hC (n := 2) (As := [.int v1, .int v8]) (rest := [.int 10]) (fun sz => c_X1_outAt hw  h sz) cv_X10_122_X1_outAt (by rw [hR]; exact rr_X10_rise_X1_outAt) ⟨(hw.lt (by decide)), _, _, _, _, gc_1 hw _, cl_X1.1⟩ rfl rfl (Nat.le_of_ble_eq_true rfl) dX10_rise_26) ?_
        intro r2 M1 h
        refine gw_iload hC dX10_rise_29 4 rfl ?_
        refine gw_isub hC dX10_rise_31 ?_
        refine gw_imul hC dX10_rise_32 ?_
        refine gw_nm (fun x3 hx3 => ?_)
        have h := h x3 hx3
        refine gw_istore (lv' := [(9, .int x3), (0, .ref (gx_ad w 0)), (1, .int v1), (3, .int v3), (4, .int v4), (5, .int v5), (6, .int v6), (7, .int v7), (8, .int v8)]) hC dX10_rise_33 (by decide) rfl ?_
        refine gw_iload hC dX10_rise_35 7 rfl ?_
        refine gw_iconst (v := (-1)) hC dX10_rise_37 (by decide) ?_
        refine gw_icmp_ne (tgt := 55) hC dX10_rise_38 (by decide) (fun hc => ?_) (fun hc => ?_)
        · have h := gx_f h hc
          refine gw_sub (lv' := [(0, .ref (gx_ad w 0)), (1, .int v1), (3, .int v3), (4, .int v4), (5, .int v5), (6, .int v6), (7, .int v7), (8, .int v8), (9, .int x3)]) [1, 2, 3, 4, 5, 6, 7, 8, 0] rfl ?_
          exact J_X10_rise_55 hC hw hR hr ih M1 v1 v3 v4 v5 v6 v7 v8 x3 h
        · have h := gx_t h hc
          refine gw_iload hC dX10_rise_41 0 rfl ?_
          refine gw_iload hC dX10_rise_43 6 rfl ?_
          refine gw_iload hC dX10_rise_45 5 rfl ?_
          refine gw_isub hC dX10_rise_47 ?_
          refine gw_icmp_lt (tgt := 55) hC dX10_rise_48 (by decide) (fun hc => ?_) (fun hc => ?_)
          · have h := gx_t h hc
            refine gw_sub (lv' := [(0, .ref (gx_ad w 0)), (1, .int v1), (3, .int v3), (4, .int v4), (5, .int v5), (6, .int v6), (7, .int v7), (8, .int v8), (9, .int x3)]) [1, 2, 3, 4, 5, 6, 7, 8, 0] rfl ?_
            exact J_X10_rise_55 hC hw hR hr ih M1 v1 v3 v4 v5 v6 v7 v8 x3 h
          · have h := gx_f h hc
            refine gw_iload hC dX10_rise_51 8 rfl ?_
            refine gw_istore (lv' := [(7, .int v8), (9, .int x3), (0, .ref (gx_ad w 0)), (1, .int v1), (3, .int v3), (4, .int v4), (5, .int v5), (6, .int v6), (8, .int v8)]) hC dX10_rise_53 (by decide) rfl ?_
            refine gw_sub (lv' := [(0, .ref (gx_ad w 0)), (1, .int v1), (3, .int v3), (4, .int v4), (5, .int v5), (6, .int v6), (7, .int v8), (8, .int v8), (9, .int x3)]) [2, 3, 4, 5, 6, 7, 0, 8, 1] rfl ?_
            exact J_X10_rise_55 hC hw hR hr ih M1 v1 v3 v4 v5 v6 v8 v8 x3 h
set_option maxRecDepth 20000 in
theorem J_X10_rise {z : gx_X} {d : gx_D} {w : gx_V} {ca : Nat → ClassId} (hC : gx_C z d w cX10_rise 10 RX10) (hw : gx_isC ca w) (hR : gx_R z = rm_X10_rise) (hr : (gx_me z).sig.returnType = (some .int))   {M : gx_M} {v1 : Int32} {v2 : Int32} {v3 : Int32} {v4 : Int32} {v5 : Int32} {v6 : Int32} {Q : Int32 → gx_M → Prop} (h : T_X10_rise M v1 v2 v3 v4 v5 v6 Q) : GW z w 10 (gx_Qi w Q (gx_s z).heap.size) M 0 [(0, .ref (gx_ad w 0)), (1, .int v1), (2, .int v2), (3, .int v3), (4, .int v4), (5, .int v5), (6, .int v6)] [] := by
  unfold T_X10_rise at h
  refine gw_iconst (v := (-1)) hC dX10_rise_0 (by decide) ?_
  refine gw_istore (lv' := [(7, .int (-1)), (0, .ref (gx_ad w 0)), (1, .int v1), (2, .int v2), (3, .int v3), (4, .int v4), (5, .int v5), (6, .int v6)]) hC dX10_rise_1 (by decide) rfl ?_
  refine gw_iload_n hC dX10_rise_3 rfl 3 rfl ?_
  refine gw_istore (lv' := [(8, .int v2), (7, .int (-1)), (0, .ref (gx_ad w 0)), (1, .int v1), (2, .int v2), (3, .int v3), (4, .int v4), (5, .int v5), (6, .int v6)]) hC dX10_rise_4 (by decide) rfl ?_
  obtain ⟨k5, h⟩ := h
  refine gw_sub (lv' := [(0, .ref (gx_ad w 0)), (1, .int v1), (3, .int v3), (4, .int v4), (5, .int v5), (6, .int v6), (7, .int (-1)), (8, .int v2)]) [2, 3, 5, 6, 7, 8, 1, 0] rfl ?_
  exact J_X10_rise_6 hC hw hR hr (fun M6 h => by
      refine gw_ldc hC kc_X10_101 dX10_rise_84 ?_
      exact gw_iret hC hr dX10_rise_86 h) k5 M v1 v3 v4 v5 v6 (-1) v2 h
theorem c_X10_rise {l : Launch} {d : gx_D} {w : gx_V} {ca : Nat → ClassId} (hw : gx_isC ca w)   {M : gx_M} {v1 : Int32} {v2 : Int32} {v3 : Int32} {v4 : Int32} {v5 : Int32} {v6 : Int32} {Q : Int32 → gx_M → Prop} (h : T_X10_rise M v1 v2 v3 v4 v5 v6 Q) : gx_Mi l d w yX10_rise cX10_rise 10 .int rm_X10_rise [.ref (gx_ad w 0), .int v1, .int v2, .int v3, .int v4, .int v5, .int v6] M Q := fun sz =>
  gx_of (own := RX10) (by decide +kernel) rfl (Nat.le_of_ble_eq_true rfl) (fun z hC hl hR hsz hr => by subst hsz; exact J_X10_rise hC hw hR hr  h) rfl
set_option maxRecDepth 20000 in
theorem J_X10_wide_32 {z : gx_X} {d : gx_D} {w : gx_V} {ca : Nat → ClassId} (hC : gx_C z d w cX10_wide 7 RX10) (hw : gx_isC ca w) (hR : gx_R z = rm_X10_wide) (hr : (gx_me z).sig.returnType = (some .int))  {Q : Int32 → gx_M → Prop} {K6 : gx_M → Int32 → Int32 → Int32 → Int32 → Int32 → Prop} (hK6 : ∀ (M : gx_M) (v1 : Int32) (v3 : Int32) (v4 : Int32) (v5 : Int32) (v6 : Int32), K6 M v1 v3 v4 v5 v6 → GW z w 7 (gx_Qi w Q (gx_s z).heap.size) M 6 [(0, .ref (gx_ad w 0)), (1, .int v1), (3, .int v3), (4, .int v4), (5, .int v5), (6, .int v6)] []) (M : gx_M) (v1 : Int32) (v3 : Int32) (v4 : Int32) (v5 : Int32) (v6 : Int32)  (h : T_X10_wide_32 Q K6 M v1 v3 v4 v5 v6) : GW z w 7 (gx_Qi w Q (gx_s z).heap.size) M 32 [(0, .ref (gx_ad w 0)), (1, .int v1), (3, .int v3), (4, .int v4), (5, .int v5), (6, .int v6)] [] := by
  unfold T_X10_wide_32 at h
  obtain ⟨x3, hx3⟩ : ∃ y : Int32, y = v6 + 1 := ⟨_, rfl⟩
  have h := h x3 hx3
  refine gw_iinc (v := x3) (lv' := [(6, .int x3), (0, .ref (gx_ad w 0)), (1, .int v1), (3, .int v3), (4, .int v4), (5, .int v5)]) hC dX10_wide_32 (k := 5) rfl (by rw [hx3]; rfl) (by decide) rfl ?_
  refine gw_goto (tgt := 6) hC dX10_wide_35 (by decide) ?_
  refine gw_sub (lv' := [(0, .ref (gx_ad w 0)), (1, .int v1), (3, .int v3), (4, .int v4), (5, .int v5), (6, .int x3)]) [1, 2, 3, 4, 5, 0] rfl ?_
  exact hK6 M v1 v3 v4 v5 x3 h
set_option maxRecDepth 20000 in
theorem J_X10_wide_6 {z : gx_X} {d : gx_D} {w : gx_V} {ca : Nat → ClassId} (hC : gx_C z d w cX10_wide 7 RX10) (hw : gx_isC ca w) (hR : gx_R z = rm_X10_wide) (hr : (gx_me z).sig.returnType = (some .int))  {Q : Int32 → gx_M → Prop}   : ∀ (n : Nat) (M : gx_M) (v1 : Int32) (v3 : Int32) (v4 : Int32) (v5 : Int32) (v6 : Int32) , T_X10_wide_6 Q  n M v1 v3 v4 v5 v6 → GW z w 7 (gx_Qi w Q (gx_s z).heap.size) M 6 [(0, .ref (gx_ad w 0)), (1, .int v1), (3, .int v3), (4, .int v4), (5, .int v5), (6, .int v6)] [] := by
  intro n
  induction n with
  | zero =>
    intro M v1 v3 v4 v5 v6 h
    exact h.elim
  | succ n ih =>
    intro M v1 v3 v4 v5 v6 h
    rw [T_X10_wide_6] at h
    refine gw_iload hC dX10_wide_6 5 rfl ?_
    refine gw_iload_n hC dX10_wide_8 rfl 2 rfl ?_
    refine gw_icmp_ge (tgt := 38) hC dX10_wide_9 (by decide) (fun hc => ?_) (fun hc => ?_)
    · have h := gx_t h hc
      refine gw_iload hC dX10_wide_38 4 rfl ?_
      exact gw_iret hC hr dX10_wide_40 h
    · have h := gx_f h hc
      refine gw_iconst (v := 2) hC dX10_wide_12 (by decide) ?_
      refine gw_aload_n hC dX10_wide_13 rfl 0 rfl ?_
      refine gw_get hC cl_X10 fg_X10_10 (hw.lt (by decide)) (gc_0 hw _) (gv_X10_0 _ _ _) dX10_wide_14 ?_
      refine gw_iload_n hC dX10_wide_17 rfl 1 rfl ?_
      refine gw_iload hC dX10_wide_18 5 rfl ?_
      refine gw_calli (gx_rV hC (n := 2) (As := [.int v1, .int v6]) (rest := [.int 2]) (fun sz => c_X1_outAt hw  h sz) cv_X10_122_X1_outAt (by rw [hR]; exact rr_X10_wide_X1_outAt) ⟨(hw.lt (by decide)), _, _, _, _, gc_1 hw _, cl_X1.1⟩ rfl rfl (Nat.le_of_ble_eq_true rfl) dX10_wide_20) ?_
      intro r2 M1 h
      refine gw_imul hC dX10_wide_23 ?_
      refine gw_iload hC dX10_wide_24 3 rfl ?_
      refine gw_icmp_lt (tgt := 32) hC dX10_wide_26 (by decide) (fun hc => ?_) (fun hc => ?_)
      · have h := gx_t h hc
        exact J_X10_wide_32 hC hw hR hr ih M1 v1 v3 v4 v5 v6 h
      · have h := gx_f h hc
        obtain ⟨x4, hx4⟩ : ∃ y : Int32, y = v5 + 1 := ⟨_, rfl⟩
        have h := h x4 hx4
        refine gw_iinc (v := x4) (lv' := [(5, .int x4), (0, .ref (gx_ad w 0)), (1, .int v1), (3, .int v3), (4, .int v4), (6, .int v6)]) hC dX10_wide_29 (k := 4) rfl (by rw [hx4]; rfl) (by decide) rfl ?_
        refine gw_sub (lv' := [(0, .ref (gx_ad w 0)), (1, .int v1), (3, .int v3), (4, .int v4), (5, .int x4), (6, .int v6)]) [1, 2, 3, 4, 0, 5] rfl ?_
        exact J_X10_wide_32 hC hw hR hr ih M1 v1 v3 v4 x4 v6 h
set_option maxRecDepth 20000 in
theorem J_X10_wide {z : gx_X} {d : gx_D} {w : gx_V} {ca : Nat → ClassId} (hC : gx_C z d w cX10_wide 7 RX10) (hw : gx_isC ca w) (hR : gx_R z = rm_X10_wide) (hr : (gx_me z).sig.returnType = (some .int))   {M : gx_M} {v1 : Int32} {v2 : Int32} {v3 : Int32} {v4 : Int32} {Q : Int32 → gx_M → Prop} (h : T_X10_wide M v1 v2 v3 v4 Q) : GW z w 7 (gx_Qi w Q (gx_s z).heap.size) M 0 [(0, .ref (gx_ad w 0)), (1, .int v1), (2, .int v2), (3, .int v3), (4, .int v4)] [] := by
  unfold T_X10_wide at h
  refine gw_iconst (v := 0) hC dX10_wide_0 (by decide) ?_
  refine gw_istore (lv' := [(5, .int 0), (0, .ref (gx_ad w 0)), (1, .int v1), (2, .int v2), (3, .int v3), (4, .int v4)]) hC dX10_wide_1 (by decide) rfl ?_
  refine gw_iload_n hC dX10_wide_3 rfl 3 rfl ?_
  refine gw_istore (lv' := [(6, .int v2), (5, .int 0), (0, .ref (gx_ad w 0)), (1, .int v1), (2, .int v2), (3, .int v3), (4, .int v4)]) hC dX10_wide_4 (by decide) rfl ?_
  obtain ⟨k5, h⟩ := h
  refine gw_sub (lv' := [(0, .ref (gx_ad w 0)), (1, .int v1), (3, .int v3), (4, .int v4), (5, .int 0), (6, .int v2)]) [2, 3, 5, 6, 1, 0] rfl ?_
  exact J_X10_wide_6 hC hw hR hr  k5 M v1 v3 v4 0 v2 h
theorem c_X10_wide {l : Launch} {d : gx_D} {w : gx_V} {ca : Nat → ClassId} (hw : gx_isC ca w)   {M : gx_M} {v1 : Int32} {v2 : Int32} {v3 : Int32} {v4 : Int32} {Q : Int32 → gx_M → Prop} (h : T_X10_wide M v1 v2 v3 v4 Q) : gx_Mi l d w yX10_wide cX10_wide 7 .int rm_X10_wide [.ref (gx_ad w 0), .int v1, .int v2, .int v3, .int v4] M Q := fun sz =>
  gx_of (own := RX10) (by decide +kernel) rfl (Nat.le_of_ble_eq_true rfl) (fun z hC hl hR hsz hr => by subst hsz; exact J_X10_wide hC hw hR hr  h) rfl
set_option maxRecDepth 20000 in
theorem J_X10_leastRise {z : gx_X} {d : gx_D} {w : gx_V} {ca : Nat → ClassId} (hC : gx_C z d w cX10_leastRise 2 RX10) (hw : gx_isC ca w) (hR : gx_R z = rm_X10_leastRise) (hr : (gx_me z).sig.returnType = (some .int))   {M : gx_M} {v1 : Int32} {Q : Int32 → Prop} (h : T_X10_leastRise M v1 Q) : GW z w 2 (gx_Qi w (fun r M1 => M1 = M ∧ Q r) (gx_s z).heap.size) M 0 [(0, .ref (gx_ad w 0)), (1, .int v1)] [] := by
  unfold T_X10_leastRise at h
  refine gw_iload_n hC dX10_leastRise_0 rfl 1 rfl ?_
  refine gw_ldc hC kc_X10_101 dX10_leastRise_1 ?_
  refine gw_icmp_ne (tgt := 11) hC dX10_leastRise_3 (by decide) (fun hc => ?_) (fun hc => ?_)
  · have h := gx_f h hc
    refine gw_iconst (v := 0) hC dX10_leastRise_11 (by decide) ?_
    refine gw_iload_n hC dX10_leastRise_12 rfl 1 rfl ?_
    refine gw_aload_n hC dX10_leastRise_13 rfl 0 rfl ?_
    refine gw_get hC cl_X10 fg_X10_20 (hw.lt (by decide)) (gc_0 hw _) (gv_X10_1 _ _ _) dX10_leastRise_14 ?_
    refine gw_get hC cl_X8 fg_X10_126 (hw.lt (by decide)) (gc_Se hw (by decide) _) (gv_X8_3 _ _ _) dX10_leastRise_17 ?_
    refine gw_isub hC dX10_leastRise_20 ?_
    refine gw_iconst (v := 1) hC dX10_leastRise_21 (by decide) ?_
    refine gw_iadd hC dX10_leastRise_22 ?_
    refine gw_mmax hC cm_X10_202 cm_st_max cm_ini cm_co_max (by rw [hR]; decide) (by rw [hR]; exact Nat.le_of_ble_eq_true rfl) dX10_leastRise_23 ?_
    exact gw_iret hC hr dX10_leastRise_26 ⟨rfl, h⟩
  · have h := gx_t h hc
    refine gw_ldc hC kc_X10_101 dX10_leastRise_6 ?_
    refine gw_goto (tgt := 26) hC dX10_leastRise_8 (by decide) ?_
    exact gw_iret hC hr dX10_leastRise_26 ⟨rfl, h⟩
theorem c_X10_leastRise {l : Launch} {d : gx_D} {w : gx_V} {ca : Nat → ClassId} (hw : gx_isC ca w)   {M : gx_M} {v1 : Int32} {Q : Int32 → Prop} (h : T_X10_leastRise M v1 Q) : gx_Mi l d w yX10_leastRise cX10_leastRise 2 .int rm_X10_leastRise [.ref (gx_ad w 0), .int v1] M (fun r M1 => M1 = M ∧ Q r) := fun sz =>
  gx_of (own := RX10) (by decide +kernel) rfl (Nat.le_of_ble_eq_true rfl) (fun z hC hl hR hsz hr => by subst hsz; exact J_X10_leastRise hC hw hR hr  h) rfl
set_option maxRecDepth 20000 in
theorem J_X10_greatestRise {z : gx_X} {d : gx_D} {w : gx_V} {ca : Nat → ClassId} (hC : gx_C z d w cX10_greatestRise 2 RX10) (hw : gx_isC ca w) (hR : gx_R z = rm_X10_greatestRise) (hr : (gx_me z).sig.returnType = (some .int))   {M : gx_M} {v1 : Int32} {Q : Int32 → Prop} (h : T_X10_greatestRise M v1 Q) : GW z w 2 (gx_Qi w (fun r M1 => M1 = M ∧ Q r) (gx_s z).heap.size) M 0 [(0, .ref (gx_ad w 0)), (1, .int v1)] [] := by
  unfold T_X10_greatestRise at h
  refine gw_iload_n hC dX10_greatestRise_0 rfl 1 rfl ?_
  refine gw_ldc hC kc_X10_101 dX10_greatestRise_1 ?_
  refine gw_icmp_ne (tgt := 11) hC dX10_greatestRise_3 (by decide) (fun hc => ?_) (fun hc => ?_)
  · have h := gx_f h hc
    refine gw_iload_n hC dX10_greatestRise_11 rfl 1 rfl ?_
    refine gw_aload_n hC dX10_greatestRise_12 rfl 0 rfl ?_
    refine gw_get hC cl_X10 fg_X10_20 (hw.lt (by decide)) (gc_0 hw _) (gv_X10_1 _ _ _) dX10_greatestRise_13 ?_
    refine gw_get hC cl_X8 fg_X10_126 (hw.lt (by decide)) (gc_Se hw (by decide) _) (gv_X8_3 _ _ _) dX10_greatestRise_16 ?_
    refine gw_iadd hC dX10_greatestRise_19 ?_
    refine gw_iconst (v := 1) hC dX10_greatestRise_20 (by decide) ?_
    refine gw_isub hC dX10_greatestRise_21 ?_
    exact gw_iret hC hr dX10_greatestRise_22 ⟨rfl, h⟩
  · have h := gx_t h hc
    refine gw_ldc hC kc_X10_101 dX10_greatestRise_6 ?_
    refine gw_goto (tgt := 22) hC dX10_greatestRise_8 (by decide) ?_
    exact gw_iret hC hr dX10_greatestRise_22 ⟨rfl, h⟩
theorem c_X10_greatestRise {l : Launch} {d : gx_D} {w : gx_V} {ca : Nat → ClassId} (hw : gx_isC ca w)   {M : gx_M} {v1 : Int32} {Q : Int32 → Prop} (h : T_X10_greatestRise M v1 Q) : gx_Mi l d w yX10_greatestRise cX10_greatestRise 2 .int rm_X10_greatestRise [.ref (gx_ad w 0), .int v1] M (fun r M1 => M1 = M ∧ Q r) := fun sz =>
  gx_of (own := RX10) (by decide +kernel) rfl (Nat.le_of_ble_eq_true rfl) (fun z hC hl hR hsz hr => by subst hsz; exact J_X10_greatestRise hC hw hR hr  h) rfl
set_option maxRecDepth 20000 in
theorem J_X10_measure {z : gx_X} {d : gx_D} {w : gx_V} {ca : Nat → ClassId} (hC : gx_C z d w cX10_measure 7 RX10) (hw : gx_isC ca w) (hR : gx_R z = rm_X10_measure) (hr : (gx_me z).sig.returnType = (some .int))   {M : gx_M} {v1 : Int32} {v2 : Int32} {v3 : Int32} {v4 : Int32} {Q : Int32 → gx_M → Prop} (h : T_X10_measure M v1 v2 v3 v4 Q) : GW z w 7 (gx_Qi w Q (gx_s z).heap.size) M 0 [(0, .ref (gx_ad w 0)), (1, .int v1), (2, .int v2), (3, .int v3), (4, .int v4)] [] := by
  unfold T_X10_measure at h
  refine gw_iload_n hC dX10_measure_0 rfl 1 rfl ?_
  refine gw_calli (gx_rS hC (n := 1) (As := [.int v1]) (rest := []) (fun sz => c_X10_isChannel hw  h sz) cs_X10_106_X10_isChannel (by rw [hR]; exact rr_X10_measure_X10_isChannel) rfl rfl (Nat.le_of_ble_eq_true rfl) dX10_measure_1) ?_
  intro r1 m2 ⟨hm2, h⟩
  rw [hm2]
  refine gw_if_eq (tgt := 23) hC dX10_measure_4 (by decide) (fun hc => ?_) (fun hc => ?_)
  · have h := gx_t h hc
    refine gw_ldc hC kc_X10_101 dX10_measure_23 ?_
    exact gw_iret hC hr dX10_measure_25 h
  · have h := gx_f h hc
    refine gw_iload_n hC dX10_measure_7 rfl 2 rfl ?_
    refine gw_if_lt (tgt := 23) hC dX10_measure_8 (by decide) (fun hc => ?_) (fun hc => ?_)
    · have h := gx_t h hc
      refine gw_ldc hC kc_X10_101 dX10_measure_23 ?_
      exact gw_iret hC hr dX10_measure_25 h
    · have h := gx_f h hc
      refine gw_iload_n hC dX10_measure_11 rfl 2 rfl ?_
      refine gw_iload_n hC dX10_measure_12 rfl 3 rfl ?_
      refine gw_icmp_ge (tgt := 23) hC dX10_measure_13 (by decide) (fun hc => ?_) (fun hc => ?_)
      · have h := gx_t h hc
        refine gw_ldc hC kc_X10_101 dX10_measure_23 ?_
        exact gw_iret hC hr dX10_measure_25 h
      · have h := gx_f h hc
        refine gw_iload_n hC dX10_measure_16 rfl 3 rfl ?_
        refine gw_sipush (v := 2000) hC dX10_measure_17 (by decide) ?_
        refine gw_icmp_le (tgt := 26) hC dX10_measure_20 (by decide) (fun hc => ?_) (fun hc => ?_)
        · have h := gx_t h hc
          refine gw_aload_n hC dX10_measure_26 rfl 0 rfl ?_
          refine gw_iload_n hC dX10_measure_27 rfl 1 rfl ?_
          refine gw_iload_n hC dX10_measure_28 rfl 2 rfl ?_
          refine gw_iload_n hC dX10_measure_29 rfl 3 rfl ?_
          refine gw_calli (gx_rV hC (n := 3) (As := [.int v1, .int v2, .int v3]) (rest := []) (fun sz => c_X10_lowest hw  h sz) cv_X10_248_X10_lowest (by rw [hR]; exact rr_X10_measure_X10_lowest) ⟨(hw.lt (by decide)), _, _, _, _, gc_0 hw _, cl_X10.1⟩ rfl rfl (Nat.le_of_ble_eq_true rfl) dX10_measure_30) ?_
          intro r4 M3 h
          refine gw_istore (lv' := [(5, .int r4), (0, .ref (gx_ad w 0)), (1, .int v1), (2, .int v2), (3, .int v3), (4, .int v4)]) hC dX10_measure_33 (by decide) rfl ?_
          refine gw_aload_n hC dX10_measure_35 rfl 1 rfl ?_
          refine gw_iload_n hC dX10_measure_36 rfl 2 rfl ?_
          refine gw_iload_n hC dX10_measure_37 rfl 3 rfl ?_
          refine gw_iload_n hC dX10_measure_38 rfl 4 rfl ?_
          refine gw_calli (gx_rV hC (n := 3) (As := [.int v1, .int v2, .int v3]) (rest := []) (fun sz => c_X10_highest hw  h sz) cv_X10_252_X10_highest (by rw [hR]; exact rr_X10_measure_X10_highest) ⟨(hw.lt (by decide)), _, _, _, _, gc_0 hw _, cl_X10.1⟩ rfl rfl (Nat.le_of_ble_eq_true rfl) dX10_measure_39) ?_
          intro r6 M5 h
          refine gw_istore (lv' := [(6, .int r6), (5, .int r4), (0, .ref (gx_ad w 0)), (1, .int v1), (2, .int v2), (3, .int v3), (4, .int v4)]) hC dX10_measure_42 (by decide) rfl ?_
          refine gw_iload hC dX10_measure_44 6 rfl ?_
          by_cases hs7 : v4 = 0
          · have h := gx_t h hs7
            refine gw_tabIn (tgt := 84) (off := 38) (v := 0) hC dX10_measure_46 hs7 (by decide) (by decide) (by decide) (by decide) ?_
            refine gw_iload hC dX10_measure_84 1 rfl ?_
            exact gw_iret hC hr dX10_measure_86 h
          have h := gx_f h hs7
          by_cases hs8 : v4 = 1
          · have h := gx_t h hs8
            refine gw_tabIn (tgt := 87) (off := 41) (v := 1) hC dX10_measure_46 hs8 (by decide) (by decide) (by decide) (by decide) ?_
            refine gw_iload hC dX10_measure_87 0 rfl ?_
            exact gw_iret hC hr dX10_measure_89 h
          have h := gx_f h hs8
          by_cases hs11 : v4 = 2
          · have h := gx_t h hs11
            refine gw_tabIn (tgt := 90) (off := 44) (v := 2) hC dX10_measure_46 hs11 (by decide) (by decide) (by decide) (by decide) ?_
            refine gw_aload_n hC dX10_measure_90 rfl 2 rfl ?_
            refine gw_iload_n hC dX10_measure_91 rfl 3 rfl ?_
            refine gw_iload_n hC dX10_measure_92 rfl 4 rfl ?_
            refine gw_iload_n hC dX10_measure_93 rfl 5 rfl ?_
            refine gw_iconst (v := 1) hC dX10_measure_94 (by decide) ?_
            refine gw_iload hC dX10_measure_95 1 rfl ?_
            refine gw_iload hC dX10_measure_97 0 rfl ?_
            refine gw_calli (gx_rV hC (n := 6) (As := [.int v1, .int v2, .int v3, .int 1, .int r4, .int r6]) (rest := []) (fun sz => c_X10_rise hw  h sz) cv_X10_255_X10_rise (by rw [hR]; exact rr_X10_measure_X10_rise) ⟨(hw.lt (by decide)), _, _, _, _, gc_0 hw _, cl_X10.1⟩ rfl rfl (Nat.le_of_ble_eq_true rfl) dX10_measure_99) ?_
            intro r10 M9 h
            exact gw_iret hC hr dX10_measure_102 h
          have h := gx_f h hs11
          by_cases hs14 : v4 = 3
          · have h := gx_t h hs14
            refine gw_tabIn (tgt := 103) (off := 57) (v := 3) hC dX10_measure_46 hs14 (by decide) (by decide) (by decide) (by decide) ?_
            refine gw_aload_n hC dX10_measure_103 rfl 2 rfl ?_
            refine gw_iload_n hC dX10_measure_104 rfl 3 rfl ?_
            refine gw_iload_n hC dX10_measure_105 rfl 4 rfl ?_
            refine gw_iload_n hC dX10_measure_106 rfl 5 rfl ?_
            refine gw_iload hC dX10_measure_107 1 rfl ?_
            refine gw_iload hC dX10_measure_109 0 rfl ?_
            refine gw_iadd hC dX10_measure_111 ?_
            refine gw_calli (gx_rV hC (n := 4) (As := [.int v1, .int v2, .int v3, .int (r4 + r6)]) (rest := []) (fun sz => c_X10_wide hw  h sz) cv_X10_259_X10_wide (by rw [hR]; exact rr_X10_measure_X10_wide) ⟨(hw.lt (by decide)), _, _, _, _, gc_0 hw _, cl_X10.1⟩ rfl rfl (Nat.le_of_ble_eq_true rfl) dX10_measure_112) ?_
            intro r13 M12 h
            exact gw_iret hC hr dX10_measure_115 h
          have h := gx_f h hs14
          by_cases hs19 : v4 = 4
          · have h := gx_t h hs19
            refine gw_tabIn (tgt := 116) (off := 70) (v := 4) hC dX10_measure_46 hs19 (by decide) (by decide) (by decide) (by decide) ?_
            refine gw_aload_n hC dX10_measure_116 rfl 2 rfl ?_
            refine gw_aload_n hC dX10_measure_117 rfl 2 rfl ?_
            refine gw_iload_n hC dX10_measure_118 rfl 3 rfl ?_
            refine gw_iload_n hC dX10_measure_119 rfl 4 rfl ?_
            refine gw_iload_n hC dX10_measure_120 rfl 5 rfl ?_
            refine gw_aload_n hC dX10_measure_121 rfl 2 rfl ?_
            refine gw_get hC cl_X10 fg_X10_20 (hw.lt (by decide)) (gc_0 hw _) (gv_X10_1 _ _ _) dX10_measure_122 ?_
            refine gw_get hC cl_X8 fg_X10_126 (hw.lt (by decide)) (gc_Se hw (by decide) _) (gv_X8_3 _ _ _) dX10_measure_125 ?_
            refine gw_iload hC dX10_measure_128 1 rfl ?_
            refine gw_iload hC dX10_measure_130 0 rfl ?_
            refine gw_calli (gx_rV hC (n := 6) (As := [.int v1, .int v2, .int v3, .int (M5 34 3), .int r4, .int r6]) (rest := [.ref (gx_ad w 0)]) (fun sz => c_X10_rise hw  h sz) cv_X10_255_X10_rise (by rw [hR]; exact rr_X10_measure_X10_rise) ⟨(hw.lt (by decide)), _, _, _, _, gc_0 hw _, cl_X10.1⟩ rfl rfl (Nat.le_of_ble_eq_true rfl) dX10_measure_132) ?_
            intro r16 M15 h
            refine gw_calli (gx_rV hC (n := 1) (As := [.int r16]) (rest := []) (fun sz => c_X10_leastRise hw  h sz) cv_X10_263_X10_leastRise (by rw [hR]; exact rr_X10_measure_X10_leastRise) ⟨(hw.lt (by decide)), _, _, _, _, gc_0 hw _, cl_X10.1⟩ rfl rfl (Nat.le_of_ble_eq_true rfl) dX10_measure_135) ?_
            intro r17 m18 ⟨hm18, h⟩
            rw [hm18]
            exact gw_iret hC hr dX10_measure_138 h
          have h := gx_f h hs19
          by_cases hs24 : v4 = 5
          · have h := gx_t h hs24
            refine gw_tabIn (tgt := 139) (off := 93) (v := 5) hC dX10_measure_46 hs24 (by decide) (by decide) (by decide) (by decide) ?_
            refine gw_aload_n hC dX10_measure_139 rfl 2 rfl ?_
            refine gw_aload_n hC dX10_measure_140 rfl 2 rfl ?_
            refine gw_iload_n hC dX10_measure_141 rfl 3 rfl ?_
            refine gw_iload_n hC dX10_measure_142 rfl 4 rfl ?_
            refine gw_iload_n hC dX10_measure_143 rfl 5 rfl ?_
            refine gw_aload_n hC dX10_measure_144 rfl 2 rfl ?_
            refine gw_get hC cl_X10 fg_X10_20 (hw.lt (by decide)) (gc_0 hw _) (gv_X10_1 _ _ _) dX10_measure_145 ?_
            refine gw_get hC cl_X8 fg_X10_126 (hw.lt (by decide)) (gc_Se hw (by decide) _) (gv_X8_3 _ _ _) dX10_measure_148 ?_
            refine gw_iload hC dX10_measure_151 1 rfl ?_
            refine gw_iload hC dX10_measure_153 0 rfl ?_
            refine gw_calli (gx_rV hC (n := 6) (As := [.int v1, .int v2, .int v3, .int (M5 34 3), .int r4, .int r6]) (rest := [.ref (gx_ad w 0)]) (fun sz => c_X10_rise hw  h sz) cv_X10_255_X10_rise (by rw [hR]; exact rr_X10_measure_X10_rise) ⟨(hw.lt (by decide)), _, _, _, _, gc_0 hw _, cl_X10.1⟩ rfl rfl (Nat.le_of_ble_eq_true rfl) dX10_measure_155) ?_
            intro r21 M20 h
            refine gw_calli (gx_rV hC (n := 1) (As := [.int r21]) (rest := []) (fun sz => c_X10_greatestRise hw  h sz) cv_X10_266_X10_greatestRise (by rw [hR]; exact rr_X10_measure_X10_greatestRise) ⟨(hw.lt (by decide)), _, _, _, _, gc_0 hw _, cl_X10.1⟩ rfl rfl (Nat.le_of_ble_eq_true rfl) dX10_measure_158) ?_
            intro r22 m23 ⟨hm23, h⟩
            rw [hm23]
            exact gw_iret hC hr dX10_measure_161 h
          have h := gx_f h hs24
          refine gw_tabOut (tgt := 162) 6 hC dX10_measure_46 (by decide) (fun j hj => match j, hj with | 0, _ => fun e => hs7 (e.trans (by decide)) | 1, _ => fun e => hs8 (e.trans (by decide)) | 2, _ => fun e => hs11 (e.trans (by decide)) | 3, _ => fun e => hs14 (e.trans (by decide)) | 4, _ => fun e => hs19 (e.trans (by decide)) | 5, _ => fun e => hs24 (e.trans (by decide)) | n + 6, hj => absurd hj (by omega)) (by decide) ?_
          refine gw_ldc hC kc_X10_101 dX10_measure_162 ?_
          exact gw_iret hC hr dX10_measure_164 h
        · have h := gx_f h hc
          refine gw_ldc hC kc_X10_101 dX10_measure_23 ?_
          exact gw_iret hC hr dX10_measure_25 h
theorem c_X10_measure {l : Launch} {d : gx_D} {w : gx_V} {ca : Nat → ClassId} (hw : gx_isC ca w)   {M : gx_M} {v1 : Int32} {v2 : Int32} {v3 : Int32} {v4 : Int32} {Q : Int32 → gx_M → Prop} (h : T_X10_measure M v1 v2 v3 v4 Q) : gx_Mi l d w yX10_measure cX10_measure 7 .int rm_X10_measure [.ref (gx_ad w 0), .int v1, .int v2, .int v3, .int v4] M Q := fun sz =>
  gx_of (own := RX10) (by decide +kernel) rfl (Nat.le_of_ble_eq_true rfl) (fun z hC hl hR hsz hr => by subst hsz; exact J_X10_measure hC hw hR hr  h) rfl
set_option maxRecDepth 20000 in
theorem J_X10_parting_180 {z : gx_X} {d : gx_D} {w : gx_V} {ca : Nat → ClassId} (hC : gx_C z d w cX10_parting 11 RX10) (hw : gx_isC ca w) (hR : gx_R z = rm_X10_parting) (hr : (gx_me z).sig.returnType = (some .int))  {Q : Int32 → gx_M → Prop} {K65 : gx_M → Int32 → Int32 → Int32 → Int32 → Int32 → Int32 → Int32 → Int32 → Int32 → Prop} (hK65 : ∀ (M : gx_M) (v1 : Int32) (v2 : Int32) (v3 : Int32) (v4 : Int32) (v5 : Int32) (v6 : Int32) (v7 : Int32) (v8 : Int32) (v9 : Int32), K65 M v1 v2 v3 v4 v5 v6 v7 v8 v9 → GW z w 11 (gx_Qi w Q (gx_s z).heap.size) M 65 [(0, .ref (gx_ad w 0)), (1, .int v1), (2, .int v2), (3, .int v3), (4, .int v4), (5, .int v5), (6, .int v6), (7, .int v7), (8, .int v8), (9, .int v9)] []) (M : gx_M) (v1 : Int32) (v2 : Int32) (v3 : Int32) (v4 : Int32) (v5 : Int32) (v6 : Int32) (v7 : Int32) (v8 : Int32) (v9 : Int32)  (h : T_X10_parting_180 Q K65 M v1 v2 v3 v4 v5 v6 v7 v8 v9) : GW z w 11 (gx_Qi w Q (gx_s z).heap.size) M 180 [(0, .ref (gx_ad w 0)), (1, .int v1), (2, .int v2), (3, .int v3), (4, .int v4), (5, .int v5), (6, .int v6), (7, .int v7), (8, .int v8), (9, .int v9)] [] := by
  unfold T_X10_parting_180 at h
  obtain ⟨x21, hx21⟩ : ∃ y : Int32, y = v9 + 1 := ⟨_, rfl⟩
  have h := h x21 hx21
  refine gw_iinc (v := x21) (lv' := [(9, .int x21), (0, .ref (gx_ad w 0)), (1, .int v1), (2, .int v2), (3, .int v3), (4, .int v4), (5, .int v5), (6, .int v6), (7, .int v7), (8, .int v8)]) hC dX10_parting_180 (k := 9) rfl (by rw [hx21]; rfl) (by decide) rfl ?_
  refine gw_goto (tgt := 65) hC dX10_parting_183 (by decide) ?_
  refine gw_sub (lv' := [(0, .ref (gx_ad w 0)), (1, .int v1), (2, .int v2), (3, .int v3), (4, .int v4), (5, .int v5), (6, .int v6), (7, .int v7), (8, .int v8), (9, .int x21)]) [1, 2, 3, 4, 5, 6, 7, 8, 9, 0] rfl ?_
  exact hK65 M v1 v2 v3 v4 v5 v6 v7 v8 x21 h
set_option maxRecDepth 20000 in
theorem J_X10_parting_65 {z : gx_X} {d : gx_D} {w : gx_V} {ca : Nat → ClassId} (hC : gx_C z d w cX10_parting 11 RX10) (hw : gx_isC ca w) (hR : gx_R z = rm_X10_parting) (hr : (gx_me z).sig.returnType = (some .int))  {Q : Int32 → gx_M → Prop} {K186 : gx_M → Int32 → Int32 → Int32 → Int32 → Int32 → Prop} (hK186 : ∀ (M : gx_M) (v4 : Int32) (v5 : Int32) (v6 : Int32) (v7 : Int32) (v8 : Int32), K186 M v4 v5 v6 v7 v8 → GW z w 11 (gx_Qi w Q (gx_s z).heap.size) M 186 [(0, .ref (gx_ad w 0)), (4, .int v4), (5, .int v5), (6, .int v6), (7, .int v7), (8, .int v8)] []) : ∀ (n : Nat) (M : gx_M) (v1 : Int32) (v2 : Int32) (v3 : Int32) (v4 : Int32) (v5 : Int32) (v6 : Int32) (v7 : Int32) (v8 : Int32) (v9 : Int32) , T_X10_parting_65 Q K186 n M v1 v2 v3 v4 v5 v6 v7 v8 v9 → GW z w 11 (gx_Qi w Q (gx_s z).heap.size) M 65 [(0, .ref (gx_ad w 0)), (1, .int v1), (2, .int v2), (3, .int v3), (4, .int v4), (5, .int v5), (6, .int v6), (7, .int v7), (8, .int v8), (9, .int v9)] [] := by
  intro n
  induction n with
  | zero =>
    intro M v1 v2 v3 v4 v5 v6 v7 v8 v9 h
    exact h.elim
  | succ n ih =>
    intro M v1 v2 v3 v4 v5 v6 v7 v8 v9 h
    rw [T_X10_parting_65] at h
    refine gw_iload hC dX10_parting_65 9 rfl ?_
    refine gw_bipush (v := 20) hC dX10_parting_67 (by decide) ?_
    refine gw_icmp_gt (tgt := 186) hC dX10_parting_69 (by decide) (fun hc => ?_) (fun hc => ?_)
    · have h := gx_t h hc
      refine gw_sub (lv' := [(0, .ref (gx_ad w 0)), (4, .int v4), (5, .int v5), (6, .int v6), (7, .int v7), (8, .int v8)]) [0, 4, 5, 6, 7, 8] rfl ?_
      exact hK186 M v4 v5 v6 v7 v8 h
    · have h := gx_f h hc
      refine gw_aload_n hC dX10_parting_72 rfl 0 rfl ?_
      refine gw_get hC cl_X10 fg_X10_20 (hw.lt (by decide)) (gc_0 hw _) (gv_X10_1 _ _ _) dX10_parting_73 ?_
      refine gw_iload hC dX10_parting_76 9 rfl ?_
      refine gw_put hC cl_X8 fp_X10_126 (hw.lt (by decide)) (gc_Se hw (by decide) _) ((gc_Se hw (by decide) _).trans (gs_X8_3 _ _ _ _)) rfl rfl (by simp [fs_X8]) dX10_parting_78 ?_
      refine gw_nmM (fun M11 hM11 => ?_)
      have h := h M11 hM11
      refine gw_aload_n hC dX10_parting_81 rfl 0 rfl ?_
      refine gw_get hC cl_X10 fg_X10_20 (hw.lt (by decide)) (gc_0 hw _) (gv_X10_1 _ _ _) dX10_parting_82 ?_
      refine gw_get hC cl_X8 fg_X10_109 (hw.lt (by decide)) (gc_Se hw (by decide) _) (gv_X8_1 _ _ _) dX10_parting_85 ?_
      refine gw_rr (o' := 38) (by omega) ?_
      refine gw_iconst (v := 0) hC dX10_parting_88 (by decide) ?_
      refine gw_aald hC (hw.lt (by decide)) (gc_CA hw (by decide) _) (gt_4 hw) rfl (i := 0) (by unfold vp_in; decide) dX10_parting_89 ?_
      refine gw_rr (o' := 58) (by decide) ?_
      refine gw_iload_n hC dX10_parting_90 rfl 1 rfl ?_
      refine gw_put hC cl_X2 fp_X10_272 (hw.lt (by decide)) (gc_Ch hw (by decide) _) ((gc_Ch hw (by decide) _).trans (gs_X2_0 _ _ _ _)) rfl rfl (by simp [fs_X2]) dX10_parting_91 ?_
      refine gw_nmM (fun M12 hM12 => ?_)
      have h := h M12 hM12
      refine gw_aload_n hC dX10_parting_94 rfl 0 rfl ?_
      refine gw_get hC cl_X10 fg_X10_10 (hw.lt (by decide)) (gc_0 hw _) (gv_X10_0 _ _ _) dX10_parting_95 ?_
      refine gw_callv (gx_rV hC (n := 0) (As := []) (rest := []) (fun sz => c_X1_forget hw  h sz) cv_X10_98_X1_forget (by rw [hR]; exact rr_X10_parting_X1_forget) ⟨(hw.lt (by decide)), _, _, _, _, gc_1 hw _, cl_X1.1⟩ rfl rfl (Nat.le_of_ble_eq_true rfl) dX10_parting_98) ?_
      intro M13 h
      refine gw_aload_n hC dX10_parting_101 rfl 0 rfl ?_
      refine gw_get hC cl_X10 fg_X10_10 (hw.lt (by decide)) (gc_0 hw _) (gv_X10_0 _ _ _) dX10_parting_102 ?_
      refine gw_aload_n hC dX10_parting_105 rfl 0 rfl ?_
      refine gw_get hC cl_X10 fg_X10_50 (hw.lt (by decide)) (gc_0 hw _) (gv_X10_5 _ _ _) dX10_parting_106 ?_
      refine gw_iload_n hC dX10_parting_109 rfl 3 rfl ?_
      refine gw_callv (gx_rV hC (n := 2) (As := [.ref (gx_ad w 8), .int v3]) (rest := []) (fun sz => c_X1_draw hw  h sz) cv_X10_180_X1_draw (by rw [hR]; exact rr_X10_parting_X1_draw) ⟨(hw.lt (by decide)), _, _, _, _, gc_1 hw _, cl_X1.1⟩ rfl rfl (Nat.le_of_ble_eq_true rfl) dX10_parting_110) ?_
      intro M14 h
      refine gw_aload_n hC dX10_parting_113 rfl 0 rfl ?_
      refine gw_iconst (v := 1) hC dX10_parting_114 (by decide) ?_
      refine gw_aload_n hC dX10_parting_115 rfl 0 rfl ?_
      refine gw_get hC cl_X10 fg_X10_64 (hw.lt (by decide)) (gc_0 hw _) (gv_X10_8 _ _ _) dX10_parting_116 ?_
      refine gw_callv (gx_rV hC (n := 2) (As := [.int 1, .ref (gx_ad w 11)]) (rest := []) (fun sz => c_X10_copyBits hw (by decide) h sz) cv_X10_229_X10_copyBits (by rw [hR]; exact rr_X10_parting_X10_copyBits) ⟨(hw.lt (by decide)), _, _, _, _, gc_0 hw _, cl_X10.1⟩ rfl rfl (Nat.le_of_ble_eq_true rfl) dX10_parting_119) ?_
      intro M15 h
      refine gw_aload_n hC dX10_parting_122 rfl 0 rfl ?_
      refine gw_get hC cl_X10 fg_X10_20 (hw.lt (by decide)) (gc_0 hw _) (gv_X10_1 _ _ _) dX10_parting_123 ?_
      refine gw_get hC cl_X8 fg_X10_109 (hw.lt (by decide)) (gc_Se hw (by decide) _) (gv_X8_1 _ _ _) dX10_parting_126 ?_
      refine gw_rr (o' := 38) (by omega) ?_
      refine gw_iconst (v := 0) hC dX10_parting_129 (by decide) ?_
      refine gw_aald hC (hw.lt (by decide)) (gc_CA hw (by decide) _) (gt_4 hw) rfl (i := 0) (by unfold vp_in; decide) dX10_parting_130 ?_
      refine gw_rr (o' := 58) (by decide) ?_
      refine gw_iload_n hC dX10_parting_131 rfl 2 rfl ?_
      refine gw_put hC cl_X2 fp_X10_272 (hw.lt (by decide)) (gc_Ch hw (by decide) _) ((gc_Ch hw (by decide) _).trans (gs_X2_0 _ _ _ _)) rfl rfl (by simp [fs_X2]) dX10_parting_132 ?_
      refine gw_nmM (fun M16 hM16 => ?_)
      have h := h M16 hM16
      refine gw_aload_n hC dX10_parting_135 rfl 0 rfl ?_
      refine gw_get hC cl_X10 fg_X10_10 (hw.lt (by decide)) (gc_0 hw _) (gv_X10_0 _ _ _) dX10_parting_136 ?_
      refine gw_callv (gx_rV hC (n := 0) (As := []) (rest := []) (fun sz => c_X1_forget hw  h sz) cv_X10_98_X1_forget (by rw [hR]; exact rr_X10_parting_X1_forget) ⟨(hw.lt (by decide)), _, _, _, _, gc_1 hw _, cl_X1.1⟩ rfl rfl (Nat.le_of_ble_eq_true rfl) dX10_parting_139) ?_
      intro M17 h
      refine gw_aload_n hC dX10_parting_142 rfl 0 rfl ?_
      refine gw_get hC cl_X10 fg_X10_10 (hw.lt (by decide)) (gc_0 hw _) (gv_X10_0 _ _ _) dX10_parting_143 ?_
      refine gw_aload_n hC dX10_parting_146 rfl 0 rfl ?_
      refine gw_get hC cl_X10 fg_X10_50 (hw.lt (by decide)) (gc_0 hw _) (gv_X10_5 _ _ _) dX10_parting_147 ?_
      refine gw_iload_n hC dX10_parting_150 rfl 3 rfl ?_
      refine gw_callv (gx_rV hC (n := 2) (As := [.ref (gx_ad w 8), .int v3]) (rest := []) (fun sz => c_X1_draw hw  h sz) cv_X10_180_X1_draw (by rw [hR]; exact rr_X10_parting_X1_draw) ⟨(hw.lt (by decide)), _, _, _, _, gc_1 hw _, cl_X1.1⟩ rfl rfl (Nat.le_of_ble_eq_true rfl) dX10_parting_151) ?_
      intro M18 h
      refine gw_aload_n hC dX10_parting_154 rfl 0 rfl ?_
      refine gw_aload_n hC dX10_parting_155 rfl 0 rfl ?_
      refine gw_get hC cl_X10 fg_X10_64 (hw.lt (by decide)) (gc_0 hw _) (gv_X10_8 _ _ _) dX10_parting_156 ?_
      refine gw_iconst (v := 1) hC dX10_parting_159 (by decide) ?_
      refine gw_calli (gx_rV hC (n := 2) (As := [.ref (gx_ad w 11), .int 1]) (rest := []) (fun sz => c_X10_unlike hw (by decide) h sz) cv_X10_239_X10_unlike (by rw [hR]; exact rr_X10_parting_X10_unlike) ⟨(hw.lt (by decide)), _, _, _, _, gc_0 hw _, cl_X10.1⟩ rfl rfl (Nat.le_of_ble_eq_true rfl) dX10_parting_160) ?_
      intro r19 m20 ⟨hm20, h⟩
      rw [hm20]
      refine gw_istore (lv' := [(10, .int r19), (0, .ref (gx_ad w 0)), (1, .int v1), (2, .int v2), (3, .int v3), (4, .int v4), (5, .int v5), (6, .int v6), (7, .int v7), (8, .int v8), (9, .int v9)]) hC dX10_parting_163 (by decide) rfl ?_
      refine gw_iload hC dX10_parting_165 0 rfl ?_
      refine gw_iload hC dX10_parting_167 9 rfl ?_
      refine gw_icmp_le (tgt := 180) hC dX10_parting_169 (by decide) (fun hc => ?_) (fun hc => ?_)
      · have h := gx_t h hc
        refine gw_sub (lv' := [(0, .ref (gx_ad w 0)), (1, .int v1), (2, .int v2), (3, .int v3), (4, .int v4), (5, .int v5), (6, .int v6), (7, .int v7), (8, .int v8), (9, .int v9)]) [1, 2, 3, 4, 5, 6, 7, 8, 9, 10] rfl ?_
        exact J_X10_parting_180 hC hw hR hr ih M18 v1 v2 v3 v4 v5 v6 v7 v8 v9 h
      · have h := gx_f h hc
        refine gw_iload hC dX10_parting_172 0 rfl ?_
        refine gw_istore (lv' := [(8, .int r19), (10, .int r19), (0, .ref (gx_ad w 0)), (1, .int v1), (2, .int v2), (3, .int v3), (4, .int v4), (5, .int v5), (6, .int v6), (7, .int v7), (9, .int v9)]) hC dX10_parting_174 (by decide) rfl ?_
        refine gw_iload hC dX10_parting_176 10 rfl ?_
        refine gw_istore (lv' := [(7, .int v9), (8, .int r19), (10, .int r19), (0, .ref (gx_ad w 0)), (1, .int v1), (2, .int v2), (3, .int v3), (4, .int v4), (5, .int v5), (6, .int v6), (9, .int v9)]) hC dX10_parting_178 (by decide) rfl ?_
        refine gw_sub (lv' := [(0, .ref (gx_ad w 0)), (1, .int v1), (2, .int v2), (3, .int v3), (4, .int v4), (5, .int v5), (6, .int v6), (7, .int v9), (8, .int r19), (9, .int v9)]) [3, 4, 5, 6, 7, 8, 9, 0, 1, 10] rfl ?_
        exact J_X10_parting_180 hC hw hR hr ih M18 v1 v2 v3 v4 v5 v6 v9 r19 v9 h
set_option maxRecDepth 20000 in
theorem J_X10_parting {z : gx_X} {d : gx_D} {w : gx_V} {ca : Nat → ClassId} (hC : gx_C z d w cX10_parting 11 RX10) (hw : gx_isC ca w) (hR : gx_R z = rm_X10_parting) (hr : (gx_me z).sig.returnType = (some .int))   {M : gx_M} {v1 : Int32} {v2 : Int32} {v3 : Int32} {v4 : Int32} {Q : Int32 → gx_M → Prop} (h : T_X10_parting M v1 v2 v3 v4 Q) : GW z w 11 (gx_Qi w Q (gx_s z).heap.size) M 0 [(0, .ref (gx_ad w 0)), (1, .int v1), (2, .int v2), (3, .int v3), (4, .int v4)] [] := by
  unfold T_X10_parting at h
  refine gw_iload_n hC dX10_parting_0 rfl 1 rfl ?_
  refine gw_calli (gx_rS hC (n := 1) (As := [.int v1]) (rest := []) (fun sz => c_X10_isSignal hw  h sz) cs_X10_77_X10_isSignal (by rw [hR]; exact rr_X10_parting_X10_isSignal) rfl rfl (Nat.le_of_ble_eq_true rfl) dX10_parting_1) ?_
  intro r1 m2 ⟨hm2, h⟩
  rw [hm2]
  refine gw_if_eq (tgt := 31) hC dX10_parting_4 (by decide) (fun hc => ?_) (fun hc => ?_)
  · have h := gx_t h hc
    refine gw_iconst (v := (-1)) hC dX10_parting_31 (by decide) ?_
    exact gw_iret hC hr dX10_parting_32 h
  · have h := gx_f h hc
    refine gw_iload_n hC dX10_parting_7 rfl 2 rfl ?_
    refine gw_calli (gx_rS hC (n := 1) (As := [.int v2]) (rest := []) (fun sz => c_X10_isSignal hw  h sz) cs_X10_77_X10_isSignal (by rw [hR]; exact rr_X10_parting_X10_isSignal) rfl rfl (Nat.le_of_ble_eq_true rfl) dX10_parting_8) ?_
    intro r3 m4 ⟨hm4, h⟩
    rw [hm4]
    refine gw_if_eq (tgt := 31) hC dX10_parting_11 (by decide) (fun hc => ?_) (fun hc => ?_)
    · have h := gx_t h hc
      refine gw_iconst (v := (-1)) hC dX10_parting_31 (by decide) ?_
      exact gw_iret hC hr dX10_parting_32 h
    · have h := gx_f h hc
      refine gw_iload_n hC dX10_parting_14 rfl 3 rfl ?_
      refine gw_calli (gx_rS hC (n := 1) (As := [.int v3]) (rest := []) (fun sz => c_X10_isSpan hw  h sz) cs_X10_165_X10_isSpan (by rw [hR]; exact rr_X10_parting_X10_isSpan) rfl rfl (Nat.le_of_ble_eq_true rfl) dX10_parting_15) ?_
      intro r5 m6 ⟨hm6, h⟩
      rw [hm6]
      refine gw_if_eq (tgt := 31) hC dX10_parting_18 (by decide) (fun hc => ?_) (fun hc => ?_)
      · have h := gx_t h hc
        refine gw_iconst (v := (-1)) hC dX10_parting_31 (by decide) ?_
        exact gw_iret hC hr dX10_parting_32 h
      · have h := gx_f h hc
        refine gw_iload hC dX10_parting_21 4 rfl ?_
        refine gw_iconst (v := 0) hC dX10_parting_23 (by decide) ?_
        refine gw_iconst (v := 1) hC dX10_parting_24 (by decide) ?_
        refine gw_calli (gx_rS hC (n := 3) (As := [.int v4, .int 0, .int 1]) (rest := []) (fun sz => c_X10_within hw  h sz) cs_X10_81_X10_within (by rw [hR]; exact rr_X10_parting_X10_within) rfl rfl (Nat.le_of_ble_eq_true rfl) dX10_parting_25) ?_
        intro r7 m8 ⟨hm8, h⟩
        rw [hm8]
        refine gw_if_ne (tgt := 33) hC dX10_parting_28 (by decide) (fun hc => ?_) (fun hc => ?_)
        · have h := gx_f h hc
          refine gw_aload_n hC dX10_parting_33 rfl 0 rfl ?_
          refine gw_get hC cl_X10 fg_X10_20 (hw.lt (by decide)) (gc_0 hw _) (gv_X10_1 _ _ _) dX10_parting_34 ?_
          refine gw_get hC cl_X8 fg_X10_126 (hw.lt (by decide)) (gc_Se hw (by decide) _) (gv_X8_3 _ _ _) dX10_parting_37 ?_
          refine gw_nm (fun x9 hx9 => ?_)
          have h := h x9 hx9
          refine gw_istore (lv' := [(5, .int x9), (0, .ref (gx_ad w 0)), (1, .int v1), (2, .int v2), (3, .int v3), (4, .int v4)]) hC dX10_parting_40 (by decide) rfl ?_
          refine gw_aload_n hC dX10_parting_42 rfl 1 rfl ?_
          refine gw_get hC cl_X10 fg_X10_20 (hw.lt (by decide)) (gc_0 hw _) (gv_X10_1 _ _ _) dX10_parting_43 ?_
          refine gw_get hC cl_X8 fg_X10_109 (hw.lt (by decide)) (gc_Se hw (by decide) _) (gv_X8_1 _ _ _) dX10_parting_46 ?_
          refine gw_rr (o' := 38) (by omega) ?_
          refine gw_iconst (v := 0) hC dX10_parting_49 (by decide) ?_
          refine gw_aald hC (hw.lt (by decide)) (gc_CA hw (by decide) _) (gt_4 hw) rfl (i := 0) (by unfold vp_in; decide) dX10_parting_50 ?_
          refine gw_rr (o' := 58) (by decide) ?_
          refine gw_get hC cl_X2 fg_X10_272 (hw.lt (by decide)) (gc_Ch hw (by decide) _) (gv_X2_0 _ _ _) dX10_parting_51 ?_
          refine gw_nm (fun x10 hx10 => ?_)
          have h := h x10 hx10
          refine gw_istore (lv' := [(6, .int x10), (5, .int x9), (0, .ref (gx_ad w 0)), (1, .int v1), (2, .int v2), (3, .int v3), (4, .int v4)]) hC dX10_parting_54 (by decide) rfl ?_
          refine gw_iconst (v := (-1)) hC dX10_parting_56 (by decide) ?_
          refine gw_istore (lv' := [(7, .int (-1)), (6, .int x10), (5, .int x9), (0, .ref (gx_ad w 0)), (1, .int v1), (2, .int v2), (3, .int v3), (4, .int v4)]) hC dX10_parting_57 (by decide) rfl ?_
          refine gw_iconst (v := (-1)) hC dX10_parting_59 (by decide) ?_
          refine gw_istore (lv' := [(8, .int (-1)), (7, .int (-1)), (6, .int x10), (5, .int x9), (0, .ref (gx_ad w 0)), (1, .int v1), (2, .int v2), (3, .int v3), (4, .int v4)]) hC dX10_parting_60 (by decide) rfl ?_
          refine gw_iconst (v := 1) hC dX10_parting_62 (by decide) ?_
          refine gw_istore (lv' := [(9, .int 1), (8, .int (-1)), (7, .int (-1)), (6, .int x10), (5, .int x9), (0, .ref (gx_ad w 0)), (1, .int v1), (2, .int v2), (3, .int v3), (4, .int v4)]) hC dX10_parting_63 (by decide) rfl ?_
          obtain ⟨k22, h⟩ := h
          refine gw_sub (lv' := [(0, .ref (gx_ad w 0)), (1, .int v1), (2, .int v2), (3, .int v3), (4, .int v4), (5, .int x9), (6, .int x10), (7, .int (-1)), (8, .int (-1)), (9, .int 1)]) [5, 6, 7, 8, 9, 4, 3, 2, 1, 0] rfl ?_
          exact J_X10_parting_65 hC hw hR hr (fun M28 v4_23 v5_24 v6_25 v7_26 v8_27 h => by
              refine gw_aload_n hC dX10_parting_186 rfl 0 rfl ?_
              refine gw_get hC cl_X10 fg_X10_20 (hw.lt (by decide)) (gc_0 hw _) (gv_X10_1 _ _ _) dX10_parting_187 ?_
              refine gw_iload hC dX10_parting_190 2 rfl ?_
              refine gw_put hC cl_X8 fp_X10_126 (hw.lt (by decide)) (gc_Se hw (by decide) _) ((gc_Se hw (by decide) _).trans (gs_X8_3 _ _ _ _)) rfl rfl (by simp [fs_X8]) dX10_parting_192 ?_
              refine gw_nmM (fun M29 hM29 => ?_)
              have h := h M29 hM29
              refine gw_aload_n hC dX10_parting_195 rfl 0 rfl ?_
              refine gw_get hC cl_X10 fg_X10_20 (hw.lt (by decide)) (gc_0 hw _) (gv_X10_1 _ _ _) dX10_parting_196 ?_
              refine gw_get hC cl_X8 fg_X10_109 (hw.lt (by decide)) (gc_Se hw (by decide) _) (gv_X8_1 _ _ _) dX10_parting_199 ?_
              refine gw_rr (o' := 38) (by omega) ?_
              refine gw_iconst (v := 0) hC dX10_parting_202 (by decide) ?_
              refine gw_aald hC (hw.lt (by decide)) (gc_CA hw (by decide) _) (gt_4 hw) rfl (i := 0) (by unfold vp_in; decide) dX10_parting_203 ?_
              refine gw_rr (o' := 58) (by decide) ?_
              refine gw_iload hC dX10_parting_204 3 rfl ?_
              refine gw_put hC cl_X2 fp_X10_272 (hw.lt (by decide)) (gc_Ch hw (by decide) _) ((gc_Ch hw (by decide) _).trans (gs_X2_0 _ _ _ _)) rfl rfl (by simp [fs_X2]) dX10_parting_206 ?_
              refine gw_nmM (fun M30 hM30 => ?_)
              have h := h M30 hM30
              refine gw_aload_n hC dX10_parting_209 rfl 0 rfl ?_
              refine gw_get hC cl_X10 fg_X10_10 (hw.lt (by decide)) (gc_0 hw _) (gv_X10_0 _ _ _) dX10_parting_210 ?_
              refine gw_callv (gx_rV hC (n := 0) (As := []) (rest := []) (fun sz => c_X1_forget hw  h sz) cv_X10_98_X1_forget (by rw [hR]; exact rr_X10_parting_X1_forget) ⟨(hw.lt (by decide)), _, _, _, _, gc_1 hw _, cl_X1.1⟩ rfl rfl (Nat.le_of_ble_eq_true rfl) dX10_parting_213) ?_
              intro M31 h
              refine gw_iload hC dX10_parting_216 1 rfl ?_
              refine gw_if_ne (tgt := 226) hC dX10_parting_218 (by decide) (fun hc => ?_) (fun hc => ?_)
              · have h := gx_f h hc
                refine gw_iload hC dX10_parting_226 5 rfl ?_
                exact gw_iret hC hr dX10_parting_228 h
              · have h := gx_t h hc
                refine gw_iload hC dX10_parting_221 4 rfl ?_
                refine gw_goto (tgt := 228) hC dX10_parting_223 (by decide) ?_
                exact gw_iret hC hr dX10_parting_228 h) k22 M v1 v2 v3 v4 x9 x10 (-1) (-1) 1 h
        · have h := gx_t h hc
          refine gw_iconst (v := (-1)) hC dX10_parting_31 (by decide) ?_
          exact gw_iret hC hr dX10_parting_32 h
theorem c_X10_parting {l : Launch} {d : gx_D} {w : gx_V} {ca : Nat → ClassId} (hw : gx_isC ca w)   {M : gx_M} {v1 : Int32} {v2 : Int32} {v3 : Int32} {v4 : Int32} {Q : Int32 → gx_M → Prop} (h : T_X10_parting M v1 v2 v3 v4 Q) : gx_Mi l d w yX10_parting cX10_parting 11 .int rm_X10_parting [.ref (gx_ad w 0), .int v1, .int v2, .int v3, .int v4] M Q := fun sz =>
  gx_of (own := RX10) (by decide +kernel) rfl (Nat.le_of_ble_eq_true rfl) (fun z hC hl hR hsz hr => by subst hsz; exact J_X10_parting hC hw hR hr  h) rfl
set_option maxRecDepth 20000 in
theorem J_X10_image {z : gx_X} {d : gx_D} {w : gx_V} {ca : Nat → ClassId} (hC : gx_C z d w cX10_image 1 RX10) (hw : gx_isC ca w) (hR : gx_R z = rm_X10_image) (hr : (gx_me z).sig.returnType = (some .int))   {M : gx_M}  {Q : Int32 → gx_M → Prop} (h : T_X10_image M  Q) : GW z w 1 (gx_Qi w Q (gx_s z).heap.size) M 0 [(0, .ref (gx_ad w 0))] [] := by
  unfold T_X10_image at h
  refine gw_aload_n hC dX10_image_0 rfl 0 rfl ?_
  refine gw_get hC cl_X10 fg_X10_24 (hw.lt (by decide)) (gc_0 hw _) (gv_X10_2 _ _ _) dX10_image_1 ?_
  refine gw_aload_n hC dX10_image_4 rfl 0 rfl ?_
  refine gw_get hC cl_X10 fg_X10_20 (hw.lt (by decide)) (gc_0 hw _) (gv_X10_1 _ _ _) dX10_image_5 ?_
  refine gw_callv (gx_rV hC (n := 1) (As := [.ref (gx_ad w 34)]) (rest := []) (fun sz => c_X8_copyFrom hw (by decide) (by decide) h sz) cv_X10_275_X8_copyFrom (by rw [hR]; exact rr_X10_image_X8_copyFrom) ⟨(hw.lt (by decide)), _, _, _, _, gc_Se hw (by decide) _, cl_X8.1⟩ rfl rfl (Nat.le_of_ble_eq_true rfl) dX10_image_8) ?_
  intro M1 h
  refine gw_aload_n hC dX10_image_11 rfl 0 rfl ?_
  refine gw_get hC cl_X10 fg_X10_20 (hw.lt (by decide)) (gc_0 hw _) (gv_X10_1 _ _ _) dX10_image_12 ?_
  refine gw_get hC cl_X8 fg_X10_145 (hw.lt (by decide)) (gc_Se hw (by decide) _) (gv_X8_8 _ _ _) dX10_image_15 ?_
  exact gw_iret hC hr dX10_image_18 h
theorem c_X10_image {l : Launch} {d : gx_D} {w : gx_V} {ca : Nat → ClassId} (hw : gx_isC ca w)   {M : gx_M}  {Q : Int32 → gx_M → Prop} (h : T_X10_image M  Q) : gx_Mi l d w yX10_image cX10_image 1 .int rm_X10_image [.ref (gx_ad w 0)] M Q := fun sz =>
  gx_of (own := RX10) (by decide +kernel) rfl (Nat.le_of_ble_eq_true rfl) (fun z hC hl hR hsz hr => by subst hsz; exact J_X10_image hC hw hR hr  h) rfl
set_option maxRecDepth 20000 in
theorem J_X10_back {z : gx_X} {d : gx_D} {w : gx_V} {ca : Nat → ClassId} (hC : gx_C z d w cX10_back 1 RX10) (hw : gx_isC ca w) (hR : gx_R z = rm_X10_back) (hr : (gx_me z).sig.returnType = (some .int))   {M : gx_M}  {Q : Int32 → gx_M → Prop} (h : T_X10_back M  Q) : GW z w 1 (gx_Qi w Q (gx_s z).heap.size) M 0 [(0, .ref (gx_ad w 0))] [] := by
  unfold T_X10_back at h
  refine gw_aload_n hC dX10_back_0 rfl 0 rfl ?_
  refine gw_get hC cl_X10 fg_X10_20 (hw.lt (by decide)) (gc_0 hw _) (gv_X10_1 _ _ _) dX10_back_1 ?_
  refine gw_aload_n hC dX10_back_4 rfl 0 rfl ?_
  refine gw_get hC cl_X10 fg_X10_24 (hw.lt (by decide)) (gc_0 hw _) (gv_X10_2 _ _ _) dX10_back_5 ?_
  refine gw_callv (gx_rV hC (n := 1) (As := [.ref (gx_ad w 35)]) (rest := []) (fun sz => c_X8_copyFrom hw (by decide) (by decide) h sz) cv_X10_275_X8_copyFrom (by rw [hR]; exact rr_X10_back_X8_copyFrom) ⟨(hw.lt (by decide)), _, _, _, _, gc_Se hw (by decide) _, cl_X8.1⟩ rfl rfl (Nat.le_of_ble_eq_true rfl) dX10_back_8) ?_
  intro M1 h
  refine gw_aload_n hC dX10_back_11 rfl 0 rfl ?_
  refine gw_get hC cl_X10 fg_X10_10 (hw.lt (by decide)) (gc_0 hw _) (gv_X10_0 _ _ _) dX10_back_12 ?_
  refine gw_callv (gx_rV hC (n := 0) (As := []) (rest := []) (fun sz => c_X1_forget hw  h sz) cv_X10_98_X1_forget (by rw [hR]; exact rr_X10_back_X1_forget) ⟨(hw.lt (by decide)), _, _, _, _, gc_1 hw _, cl_X1.1⟩ rfl rfl (Nat.le_of_ble_eq_true rfl) dX10_back_15) ?_
  intro M2 h
  refine gw_aload_n hC dX10_back_18 rfl 0 rfl ?_
  refine gw_get hC cl_X10 fg_X10_20 (hw.lt (by decide)) (gc_0 hw _) (gv_X10_1 _ _ _) dX10_back_19 ?_
  refine gw_get hC cl_X8 fg_X10_145 (hw.lt (by decide)) (gc_Se hw (by decide) _) (gv_X8_8 _ _ _) dX10_back_22 ?_
  exact gw_iret hC hr dX10_back_25 h
