set_option maxRecDepth 20000 in
theorem J_X9_copyFrom {z : gx_X} {d : gx_D} {w : gx_V} {ca : Nat → ClassId} (hC : gx_C z d w cX9_copyFrom 4 RX9) (hw : gx_isC ca w) (hR : gx_R z = rm_X9_copyFrom) (hr : (gx_me z).sig.returnType = none) {o0 o1 : Nat} (ho0 : pk_Si o0) (ho1 : pk_Si o1) {M : gx_M}  {Q : gx_M → Prop} (h : T_X9_copyFrom M o0 o1 Q) : GW z w 4 (gx_Qv w Q (gx_s z).heap.size) M 0 [(0, .ref (gx_ad w o0)), (1, .ref (gx_ad w o1))] [] := by
  unfold T_X9_copyFrom at h
  have ⟨ho0a, ho0b⟩ := ho0
  have ⟨ho1a, ho1b⟩ := ho1
  refine gw_aload_n hC dX9_copyFrom_0 rfl 0 rfl ?_
  refine gw_iconst (v := 0) hC dX9_copyFrom_1 (by decide) ?_
  refine gw_put hC cl_X9 fp_X9_17 (gn_Si hw ⟨by omega, by omega⟩) (gc_Si hw ⟨by omega, by omega⟩ _) ((gc_Si hw ⟨by omega, by omega⟩ _).trans (gs_X9_1 _ _ _ _)) rfl rfl (by simp [fs_X9]) dX9_copyFrom_2 ?_
  refine gw_nmM (fun M1 hM1 => ?_)
  have h := h M1 hM1
  refine gw_iconst (v := 0) hC dX9_copyFrom_5 (by decide) ?_
  refine gw_istore_n (lv' := [(2, .int 0), (0, .ref (gx_ad w o0)), (1, .ref (gx_ad w o1))]) hC dX9_copyFrom_6 rfl (by decide) rfl ?_
  obtain ⟨k5, h⟩ := h
  refine gw_sub (lv' := [(0, .ref (gx_ad w o0)), (1, .ref (gx_ad w o1)), (2, .int 0)]) [1, 2, 0] rfl ?_
  exact J_X9_copyFrom_7 hC hw hR hr (fun M6 h => by
      exact gw_vret hC hr dX9_copyFrom_61 h) k5 M1 o0 o1 0 ⟨by omega, by omega⟩ ⟨by omega, by omega⟩ h
theorem c_X9_copyFrom {l : Launch} {d : gx_D} {w : gx_V} {ca : Nat → ClassId} (hw : gx_isC ca w) {o0 o1 : Nat} (ho0 : pk_Si o0) (ho1 : pk_Si o1) {M : gx_M}  {Q : gx_M → Prop} (h : T_X9_copyFrom M o0 o1 Q) : gx_Mv l d w yX9_copyFrom cX9_copyFrom 4 rm_X9_copyFrom [.ref (gx_ad w o0), .ref (gx_ad w o1)] M Q := fun sz =>
  gx_of (own := RX9) (by decide +kernel) rfl (Nat.le_of_ble_eq_true rfl) (fun z hC hl hR hsz hr => by subst hsz; exact J_X9_copyFrom hC hw hR hr ho0 ho1 h) rfl
set_option maxRecDepth 20000 in
theorem J_X8_copyFrom_2 {z : gx_X} {d : gx_D} {w : gx_V} {ca : Nat → ClassId} (hC : gx_C z d w cX8_copyFrom 3 RX8) (hw : gx_isC ca w) (hR : gx_R z = rm_X8_copyFrom) (hr : (gx_me z).sig.returnType = none)  {Q : gx_M → Prop} {K41 : gx_M → Nat → Nat → Prop} (hK41 : ∀ (M : gx_M) (o0 : Nat) (o1 : Nat) (ho0 : pk_Se o0) (ho1 : pk_Se o1), K41 M o0 o1 → GW z w 3 (gx_Qv w Q (gx_s z).heap.size) M 41 [(0, .ref (gx_ad w o0)), (1, .ref (gx_ad w o1))] []) : ∀ (n : Nat) (M : gx_M) (o0 : Nat) (o1 : Nat) (v2 : Int32) (ho0 : pk_Se o0) (ho1 : pk_Se o1), T_X8_copyFrom_2 Q K41 n M o0 o1 v2 → GW z w 3 (gx_Qv w Q (gx_s z).heap.size) M 2 [(0, .ref (gx_ad w o0)), (1, .ref (gx_ad w o1)), (2, .int v2)] [] := by
  intro n
  induction n with
  | zero =>
    intro M o0 o1 v2 ho0 ho1 h
    exact h.elim
  | succ n ih =>
    intro M o0 o1 v2 ho0 ho1 h
    rw [T_X8_copyFrom_2] at h
    have ⟨ho0a, ho0b⟩ := ho0
    have ⟨ho1a, ho1b⟩ := ho1
    refine gw_iload_n hC dX8_copyFrom_2 rfl 2 rfl ?_
    refine gw_aload_n hC dX8_copyFrom_3 rfl 0 rfl ?_
    refine gw_get hC cl_X8 fg_X8_11 (gn_Se hw ⟨by omega, by omega⟩) (gc_Se hw ⟨by omega, by omega⟩ _) (gv_X8_0 _ _ _) dX8_copyFrom_4 ?_
    refine gw_rr (o' := 2 + o0) (by omega) ?_
    refine gw_alen (v := 4) hC (gn_SA hw ⟨by omega, by omega⟩) (gc_SA hw ⟨by omega, by omega⟩ _) (gt_3 hw) rfl dX8_copyFrom_7 ?_
    refine gw_icmp_ge (tgt := 41) hC dX8_copyFrom_8 (by decide) (fun hc => ?_) (fun hc => ?_)
    · have h := gx_t h hc
      refine gw_sub (lv' := [(0, .ref (gx_ad w o0)), (1, .ref (gx_ad w o1))]) [0, 1] rfl ?_
      exact hK41 M o0 o1 ⟨by omega, by omega⟩ ⟨by omega, by omega⟩ h
    · have h := gx_f h hc
      refine gw_iload_n hC dX8_copyFrom_11 rfl 2 rfl ?_
      refine gw_aload_n hC dX8_copyFrom_12 rfl 1 rfl ?_
      refine gw_get hC cl_X8 fg_X8_11 (gn_Se hw ⟨by omega, by omega⟩) (gc_Se hw ⟨by omega, by omega⟩ _) (gv_X8_0 _ _ _) dX8_copyFrom_13 ?_
      refine gw_rr (o' := 2 + o1) (by omega) ?_
      refine gw_alen (v := 4) hC (gn_SA hw ⟨by omega, by omega⟩) (gc_SA hw ⟨by omega, by omega⟩ _) (gt_3 hw) rfl dX8_copyFrom_16 ?_
      refine gw_icmp_ge (tgt := 41) hC dX8_copyFrom_17 (by decide) (fun hc => ?_) (fun hc => ?_)
      · have h := gx_t h hc
        refine gw_sub (lv' := [(0, .ref (gx_ad w o0)), (1, .ref (gx_ad w o1))]) [0, 1] rfl ?_
        exact hK41 M o0 o1 ⟨by omega, by omega⟩ ⟨by omega, by omega⟩ h
      · have h := gx_f h hc
        refine gw_aload_n hC dX8_copyFrom_20 rfl 0 rfl ?_
        refine gw_get hC cl_X8 fg_X8_11 (gn_Se hw ⟨by omega, by omega⟩) (gc_Se hw ⟨by omega, by omega⟩ _) (gv_X8_0 _ _ _) dX8_copyFrom_21 ?_
        refine gw_rr (o' := 2 + o0) (by omega) ?_
        refine gw_iload_n hC dX8_copyFrom_24 rfl 2 rfl ?_
        obtain ⟨hi, h⟩ := h
        have hb1 := vp_lt hi
        refine gw_aald hC (gn_SA hw ⟨by omega, by omega⟩) (gc_SA hw ⟨by omega, by omega⟩ _) (gt_3 hw) rfl hi dX8_copyFrom_25 ?_
        refine gw_rr (o' := v2.toNatClampNeg + 4 * o0 - 94) (by omega) ?_
        refine gw_aload_n hC dX8_copyFrom_26 rfl 1 rfl ?_
        refine gw_get hC cl_X8 fg_X8_11 (gn_Se hw ⟨by omega, by omega⟩) (gc_Se hw ⟨by omega, by omega⟩ _) (gv_X8_0 _ _ _) dX8_copyFrom_27 ?_
        refine gw_rr (o' := 2 + o1) (by omega) ?_
        refine gw_iload_n hC dX8_copyFrom_30 rfl 2 rfl ?_
        obtain ⟨hi, h⟩ := h
        have hb2 := vp_lt hi
        refine gw_aald hC (gn_SA hw ⟨by omega, by omega⟩) (gc_SA hw ⟨by omega, by omega⟩ _) (gt_3 hw) rfl hi dX8_copyFrom_31 ?_
        refine gw_rr (o' := v2.toNatClampNeg + 4 * o1 - 94) (by omega) ?_
        refine gw_callv (gx_rV hC (n := 1) (As := [.ref (gx_ad w (v2.toNatClampNeg + 4 * o1 - 94))]) (rest := []) (fun sz => c_X9_copyFrom hw ⟨by omega, by omega⟩ ⟨by omega, by omega⟩ h sz) cv_X8_53_X9_copyFrom (by rw [hR]; exact rr_X8_copyFrom_X9_copyFrom) ⟨(gn_Si hw ⟨by omega, by omega⟩), _, _, _, _, gc_Si hw ⟨by omega, by omega⟩ _, cl_X9.1⟩ rfl rfl (Nat.le_of_ble_eq_true rfl) dX8_copyFrom_32) ?_
        intro M3 h
        obtain ⟨x4, hx4⟩ : ∃ y : Int32, y = v2 + 1 := ⟨_, rfl⟩
        have h := h x4 hx4
        refine gw_iinc (v := x4) (lv' := [(2, .int x4), (0, .ref (gx_ad w o0)), (1, .ref (gx_ad w o1))]) hC dX8_copyFrom_35 (k := 2) rfl (by rw [hx4]; rfl) (by decide) rfl ?_
        refine gw_goto (tgt := 2) hC dX8_copyFrom_38 (by decide) ?_
        refine gw_sub (lv' := [(0, .ref (gx_ad w o0)), (1, .ref (gx_ad w o1)), (2, .int x4)]) [1, 2, 0] rfl ?_
        exact ih M3 o0 o1 x4 ⟨by omega, by omega⟩ ⟨by omega, by omega⟩ h
set_option maxRecDepth 20000 in
theorem J_X8_copyFrom_43 {z : gx_X} {d : gx_D} {w : gx_V} {ca : Nat → ClassId} (hC : gx_C z d w cX8_copyFrom 3 RX8) (hw : gx_isC ca w) (hR : gx_R z = rm_X8_copyFrom) (hr : (gx_me z).sig.returnType = none)  {Q : gx_M → Prop} {K82 : gx_M → Nat → Nat → Prop} (hK82 : ∀ (M : gx_M) (o0 : Nat) (o1 : Nat) (ho0 : pk_Se o0) (ho1 : pk_Se o1), K82 M o0 o1 → GW z w 3 (gx_Qv w Q (gx_s z).heap.size) M 82 [(0, .ref (gx_ad w o0)), (1, .ref (gx_ad w o1))] []) : ∀ (n : Nat) (M : gx_M) (o0 : Nat) (o1 : Nat) (v2 : Int32) (ho0 : pk_Se o0) (ho1 : pk_Se o1), T_X8_copyFrom_43 Q K82 n M o0 o1 v2 → GW z w 3 (gx_Qv w Q (gx_s z).heap.size) M 43 [(0, .ref (gx_ad w o0)), (1, .ref (gx_ad w o1)), (2, .int v2)] [] := by
  intro n
  induction n with
  | zero =>
    intro M o0 o1 v2 ho0 ho1 h
    exact h.elim
  | succ n ih =>
    intro M o0 o1 v2 ho0 ho1 h
    rw [T_X8_copyFrom_43] at h
    have ⟨ho0a, ho0b⟩ := ho0
    have ⟨ho1a, ho1b⟩ := ho1
    refine gw_iload_n hC dX8_copyFrom_43 rfl 2 rfl ?_
    refine gw_aload_n hC dX8_copyFrom_44 rfl 0 rfl ?_
    refine gw_get hC cl_X8 fg_X8_19 (gn_Se hw ⟨by omega, by omega⟩) (gc_Se hw ⟨by omega, by omega⟩ _) (gv_X8_1 _ _ _) dX8_copyFrom_45 ?_
    refine gw_rr (o' := 4 + o0) (by omega) ?_
    refine gw_alen (v := 2) hC (gn_CA hw ⟨by omega, by omega⟩) (gc_CA hw ⟨by omega, by omega⟩ _) (gt_4 hw) rfl dX8_copyFrom_48 ?_
    refine gw_icmp_ge (tgt := 82) hC dX8_copyFrom_49 (by decide) (fun hc => ?_) (fun hc => ?_)
    · have h := gx_t h hc
      refine gw_sub (lv' := [(0, .ref (gx_ad w o0)), (1, .ref (gx_ad w o1))]) [0, 1] rfl ?_
      exact hK82 M o0 o1 ⟨by omega, by omega⟩ ⟨by omega, by omega⟩ h
    · have h := gx_f h hc
      refine gw_iload_n hC dX8_copyFrom_52 rfl 2 rfl ?_
      refine gw_aload_n hC dX8_copyFrom_53 rfl 1 rfl ?_
      refine gw_get hC cl_X8 fg_X8_19 (gn_Se hw ⟨by omega, by omega⟩) (gc_Se hw ⟨by omega, by omega⟩ _) (gv_X8_1 _ _ _) dX8_copyFrom_54 ?_
      refine gw_rr (o' := 4 + o1) (by omega) ?_
      refine gw_alen (v := 2) hC (gn_CA hw ⟨by omega, by omega⟩) (gc_CA hw ⟨by omega, by omega⟩ _) (gt_4 hw) rfl dX8_copyFrom_57 ?_
      refine gw_icmp_ge (tgt := 82) hC dX8_copyFrom_58 (by decide) (fun hc => ?_) (fun hc => ?_)
      · have h := gx_t h hc
        refine gw_sub (lv' := [(0, .ref (gx_ad w o0)), (1, .ref (gx_ad w o1))]) [0, 1] rfl ?_
        exact hK82 M o0 o1 ⟨by omega, by omega⟩ ⟨by omega, by omega⟩ h
      · have h := gx_f h hc
        refine gw_aload_n hC dX8_copyFrom_61 rfl 0 rfl ?_
        refine gw_get hC cl_X8 fg_X8_19 (gn_Se hw ⟨by omega, by omega⟩) (gc_Se hw ⟨by omega, by omega⟩ _) (gv_X8_1 _ _ _) dX8_copyFrom_62 ?_
        refine gw_rr (o' := 4 + o0) (by omega) ?_
        refine gw_iload_n hC dX8_copyFrom_65 rfl 2 rfl ?_
        obtain ⟨hi, h⟩ := h
        have hb9 := vp_lt hi
        refine gw_aald hC (gn_CA hw ⟨by omega, by omega⟩) (gc_CA hw ⟨by omega, by omega⟩ _) (gt_4 hw) rfl hi dX8_copyFrom_66 ?_
        refine gw_rr (o' := v2.toNatClampNeg + 2 * o0 - 10) (by omega) ?_
        refine gw_aload_n hC dX8_copyFrom_67 rfl 1 rfl ?_
        refine gw_get hC cl_X8 fg_X8_19 (gn_Se hw ⟨by omega, by omega⟩) (gc_Se hw ⟨by omega, by omega⟩ _) (gv_X8_1 _ _ _) dX8_copyFrom_68 ?_
        refine gw_rr (o' := 4 + o1) (by omega) ?_
        refine gw_iload_n hC dX8_copyFrom_71 rfl 2 rfl ?_
        obtain ⟨hi, h⟩ := h
        have hb10 := vp_lt hi
        refine gw_aald hC (gn_CA hw ⟨by omega, by omega⟩) (gc_CA hw ⟨by omega, by omega⟩ _) (gt_4 hw) rfl hi dX8_copyFrom_72 ?_
        refine gw_rr (o' := v2.toNatClampNeg + 2 * o1 - 10) (by omega) ?_
        refine gw_callv (gx_rV hC (n := 1) (As := [.ref (gx_ad w (v2.toNatClampNeg + 2 * o1 - 10))]) (rest := []) (fun sz => c_X2_copyFrom hw ⟨by omega, by omega⟩ ⟨by omega, by omega⟩ h sz) cv_X8_57_X2_copyFrom (by rw [hR]; exact rr_X8_copyFrom_X2_copyFrom) ⟨(gn_Ch hw ⟨by omega, by omega⟩), _, _, _, _, gc_Ch hw ⟨by omega, by omega⟩ _, cl_X2.1⟩ rfl rfl (Nat.le_of_ble_eq_true rfl) dX8_copyFrom_73) ?_
        intro M11 h
        obtain ⟨x12, hx12⟩ : ∃ y : Int32, y = v2 + 1 := ⟨_, rfl⟩
        have h := h x12 hx12
        refine gw_iinc (v := x12) (lv' := [(2, .int x12), (0, .ref (gx_ad w o0)), (1, .ref (gx_ad w o1))]) hC dX8_copyFrom_76 (k := 2) rfl (by rw [hx12]; rfl) (by decide) rfl ?_
        refine gw_goto (tgt := 43) hC dX8_copyFrom_79 (by decide) ?_
        refine gw_sub (lv' := [(0, .ref (gx_ad w o0)), (1, .ref (gx_ad w o1)), (2, .int x12)]) [1, 2, 0] rfl ?_
        exact ih M11 o0 o1 x12 ⟨by omega, by omega⟩ ⟨by omega, by omega⟩ h
set_option maxRecDepth 20000 in
theorem J_X8_copyFrom_84 {z : gx_X} {d : gx_D} {w : gx_V} {ca : Nat → ClassId} (hC : gx_C z d w cX8_copyFrom 3 RX8) (hw : gx_isC ca w) (hR : gx_R z = rm_X8_copyFrom) (hr : (gx_me z).sig.returnType = none)  {Q : gx_M → Prop} {K120 : gx_M → Nat → Nat → Prop} (hK120 : ∀ (M : gx_M) (o0 : Nat) (o1 : Nat) (ho0 : pk_Se o0) (ho1 : pk_Se o1), K120 M o0 o1 → GW z w 3 (gx_Qv w Q (gx_s z).heap.size) M 120 [(0, .ref (gx_ad w o0)), (1, .ref (gx_ad w o1))] []) : ∀ (n : Nat) (M : gx_M) (o0 : Nat) (o1 : Nat) (v2 : Int32) (ho0 : pk_Se o0) (ho1 : pk_Se o1), T_X8_copyFrom_84 Q K120 n M o0 o1 v2 → GW z w 3 (gx_Qv w Q (gx_s z).heap.size) M 84 [(0, .ref (gx_ad w o0)), (1, .ref (gx_ad w o1)), (2, .int v2)] [] := by
  intro n
  induction n with
  | zero =>
    intro M o0 o1 v2 ho0 ho1 h
    exact h.elim
  | succ n ih =>
    intro M o0 o1 v2 ho0 ho1 h
    rw [T_X8_copyFrom_84] at h
    have ⟨ho0a, ho0b⟩ := ho0
    have ⟨ho1a, ho1b⟩ := ho1
    refine gw_iload_n hC dX8_copyFrom_84 rfl 2 rfl ?_
    refine gw_aload_n hC dX8_copyFrom_85 rfl 0 rfl ?_
    refine gw_get hC cl_X8 fg_X8_23 (gn_Se hw ⟨by omega, by omega⟩) (gc_Se hw ⟨by omega, by omega⟩ _) (gv_X8_2 _ _ _) dX8_copyFrom_86 ?_
    refine gw_rr (o' := 6 + o0) (by omega) ?_
    have hq17 : pk_a2 (6 + o0) := by have := gk_ph (o := o0) ⟨by omega, by omega⟩; rwa [show o0 + 6 = 6 + o0 by omega] at this
    refine gw_alen (v := 20) hC (gn_a2 hw hq17) (gc_a2 hw hq17 _) (gt_0 hw) rfl dX8_copyFrom_89 ?_
    refine gw_icmp_ge (tgt := 120) hC dX8_copyFrom_90 (by decide) (fun hc => ?_) (fun hc => ?_)
    · have h := gx_t h hc
      refine gw_sub (lv' := [(0, .ref (gx_ad w o0)), (1, .ref (gx_ad w o1))]) [0, 1] rfl ?_
      exact hK120 M o0 o1 ⟨by omega, by omega⟩ ⟨by omega, by omega⟩ h
    · have h := gx_f h hc
      refine gw_iload_n hC dX8_copyFrom_93 rfl 2 rfl ?_
      refine gw_aload_n hC dX8_copyFrom_94 rfl 1 rfl ?_
      refine gw_get hC cl_X8 fg_X8_23 (gn_Se hw ⟨by omega, by omega⟩) (gc_Se hw ⟨by omega, by omega⟩ _) (gv_X8_2 _ _ _) dX8_copyFrom_95 ?_
      refine gw_rr (o' := 6 + o1) (by omega) ?_
      have hq18 : pk_a2 (6 + o1) := by have := gk_ph (o := o1) ⟨by omega, by omega⟩; rwa [show o1 + 6 = 6 + o1 by omega] at this
      refine gw_alen (v := 20) hC (gn_a2 hw hq18) (gc_a2 hw hq18 _) (gt_0 hw) rfl dX8_copyFrom_98 ?_
      refine gw_icmp_ge (tgt := 120) hC dX8_copyFrom_99 (by decide) (fun hc => ?_) (fun hc => ?_)
      · have h := gx_t h hc
        refine gw_sub (lv' := [(0, .ref (gx_ad w o0)), (1, .ref (gx_ad w o1))]) [0, 1] rfl ?_
        exact hK120 M o0 o1 ⟨by omega, by omega⟩ ⟨by omega, by omega⟩ h
      · have h := gx_f h hc
        refine gw_aload_n hC dX8_copyFrom_102 rfl 0 rfl ?_
        refine gw_get hC cl_X8 fg_X8_23 (gn_Se hw ⟨by omega, by omega⟩) (gc_Se hw ⟨by omega, by omega⟩ _) (gv_X8_2 _ _ _) dX8_copyFrom_103 ?_
        refine gw_rr (o' := 6 + o0) (by omega) ?_
        have hq19 : pk_a2 (6 + o0) := by have := gk_ph (o := o0) ⟨by omega, by omega⟩; rwa [show o0 + 6 = 6 + o0 by omega] at this
        refine gw_iload_n hC dX8_copyFrom_106 rfl 2 rfl ?_
        refine gw_aload_n hC dX8_copyFrom_107 rfl 1 rfl ?_
        refine gw_get hC cl_X8 fg_X8_23 (gn_Se hw ⟨by omega, by omega⟩) (gc_Se hw ⟨by omega, by omega⟩ _) (gv_X8_2 _ _ _) dX8_copyFrom_108 ?_
        refine gw_rr (o' := 6 + o1) (by omega) ?_
        have hq20 : pk_a2 (6 + o1) := by have := gk_ph (o := o1) ⟨by omega, by omega⟩; rwa [show o1 + 6 = 6 + o1 by omega] at this
        refine gw_iload_n hC dX8_copyFrom_111 rfl 2 rfl ?_
        obtain ⟨hi, h⟩ := h
        refine gw_iald hC (gn_a2 hw hq20) (gc_a2 hw hq20 _) (gt_0 hw) hi dX8_copyFrom_112 ?_
        obtain ⟨hi, h⟩ := h
        refine gw_iast hC (gn_a2 hw hq19) (gc_a2 hw hq19) (gt_0 hw) hi dX8_copyFrom_113 ?_
        refine gw_nmM (fun M21 hM21 => ?_)
        have h := h M21 hM21
        obtain ⟨x22, hx22⟩ : ∃ y : Int32, y = v2 + 1 := ⟨_, rfl⟩
        have h := h x22 hx22
        refine gw_iinc (v := x22) (lv' := [(2, .int x22), (0, .ref (gx_ad w o0)), (1, .ref (gx_ad w o1))]) hC dX8_copyFrom_114 (k := 2) rfl (by rw [hx22]; rfl) (by decide) rfl ?_
        refine gw_goto (tgt := 84) hC dX8_copyFrom_117 (by decide) ?_
        refine gw_sub (lv' := [(0, .ref (gx_ad w o0)), (1, .ref (gx_ad w o1)), (2, .int x22)]) [1, 2, 0] rfl ?_
        exact ih M21 o0 o1 x22 ⟨by omega, by omega⟩ ⟨by omega, by omega⟩ h
set_option maxRecDepth 20000 in
theorem J_X8_copyFrom_120 {z : gx_X} {d : gx_D} {w : gx_V} {ca : Nat → ClassId} (hC : gx_C z d w cX8_copyFrom 3 RX8) (hw : gx_isC ca w) (hR : gx_R z = rm_X8_copyFrom) (hr : (gx_me z).sig.returnType = none)  {Q : gx_M → Prop}   (M : gx_M) (o0 : Nat) (o1 : Nat) (ho0 : pk_Se o0) (ho1 : pk_Se o1) (h : T_X8_copyFrom_120 Q  M o0 o1) : GW z w 3 (gx_Qv w Q (gx_s z).heap.size) M 120 [(0, .ref (gx_ad w o0)), (1, .ref (gx_ad w o1))] [] := by
  unfold T_X8_copyFrom_120 at h
  have ⟨ho0a, ho0b⟩ := ho0
  have ⟨ho1a, ho1b⟩ := ho1
  refine gw_aload_n hC dX8_copyFrom_120 rfl 0 rfl ?_
  refine gw_aload_n hC dX8_copyFrom_121 rfl 1 rfl ?_
  refine gw_get hC cl_X8 fg_X8_27 (gn_Se hw ⟨by omega, by omega⟩) (gc_Se hw ⟨by omega, by omega⟩ _) (gv_X8_3 _ _ _) dX8_copyFrom_122 ?_
  refine gw_put hC cl_X8 fp_X8_27 (gn_Se hw ⟨by omega, by omega⟩) (gc_Se hw ⟨by omega, by omega⟩ _) ((gc_Se hw ⟨by omega, by omega⟩ _).trans (gs_X8_3 _ _ _ _)) rfl rfl (by simp [fs_X8]) dX8_copyFrom_125 ?_
  refine gw_nmM (fun M27 hM27 => ?_)
  have h := h M27 hM27
  refine gw_aload_n hC dX8_copyFrom_128 rfl 0 rfl ?_
  refine gw_aload_n hC dX8_copyFrom_129 rfl 1 rfl ?_
  refine gw_get hC cl_X8 fg_X8_31 (gn_Se hw ⟨by omega, by omega⟩) (gc_Se hw ⟨by omega, by omega⟩ _) (gv_X8_4 _ _ _) dX8_copyFrom_130 ?_
  refine gw_put hC cl_X8 fp_X8_31 (gn_Se hw ⟨by omega, by omega⟩) (gc_Se hw ⟨by omega, by omega⟩ _) ((gc_Se hw ⟨by omega, by omega⟩ _).trans (gs_X8_4 _ _ _ _)) rfl rfl (by simp [fs_X8]) dX8_copyFrom_133 ?_
  refine gw_nmM (fun M28 hM28 => ?_)
  have h := h M28 hM28
  refine gw_aload_n hC dX8_copyFrom_136 rfl 0 rfl ?_
  refine gw_aload_n hC dX8_copyFrom_137 rfl 1 rfl ?_
  refine gw_get hC cl_X8 fg_X8_34 (gn_Se hw ⟨by omega, by omega⟩) (gc_Se hw ⟨by omega, by omega⟩ _) (gv_X8_5 _ _ _) dX8_copyFrom_138 ?_
  refine gw_put hC cl_X8 fp_X8_34 (gn_Se hw ⟨by omega, by omega⟩) (gc_Se hw ⟨by omega, by omega⟩ _) ((gc_Se hw ⟨by omega, by omega⟩ _).trans (gs_X8_5 _ _ _ _)) rfl rfl (by simp [fs_X8]) dX8_copyFrom_141 ?_
  refine gw_nmM (fun M29 hM29 => ?_)
  have h := h M29 hM29
  refine gw_aload_n hC dX8_copyFrom_144 rfl 0 rfl ?_
  refine gw_aload_n hC dX8_copyFrom_145 rfl 1 rfl ?_
  refine gw_get hC cl_X8 fg_X8_37 (gn_Se hw ⟨by omega, by omega⟩) (gc_Se hw ⟨by omega, by omega⟩ _) (gv_X8_6 _ _ _) dX8_copyFrom_146 ?_
  refine gw_put hC cl_X8 fp_X8_37 (gn_Se hw ⟨by omega, by omega⟩) (gc_Se hw ⟨by omega, by omega⟩ _) ((gc_Se hw ⟨by omega, by omega⟩ _).trans (gs_X8_6 _ _ _ _)) rfl rfl (by simp [fs_X8]) dX8_copyFrom_149 ?_
  refine gw_nmM (fun M30 hM30 => ?_)
  have h := h M30 hM30
  refine gw_aload_n hC dX8_copyFrom_152 rfl 0 rfl ?_
  refine gw_aload_n hC dX8_copyFrom_153 rfl 1 rfl ?_
  refine gw_get hC cl_X8 fg_X8_40 (gn_Se hw ⟨by omega, by omega⟩) (gc_Se hw ⟨by omega, by omega⟩ _) (gv_X8_7 _ _ _) dX8_copyFrom_154 ?_
  refine gw_put hC cl_X8 fp_X8_40 (gn_Se hw ⟨by omega, by omega⟩) (gc_Se hw ⟨by omega, by omega⟩ _) ((gc_Se hw ⟨by omega, by omega⟩ _).trans (gs_X8_7 _ _ _ _)) rfl rfl (by simp [fs_X8]) dX8_copyFrom_157 ?_
  refine gw_nmM (fun M31 hM31 => ?_)
  have h := h M31 hM31
  refine gw_aload_n hC dX8_copyFrom_160 rfl 0 rfl ?_
  refine gw_aload_n hC dX8_copyFrom_161 rfl 1 rfl ?_
  refine gw_get hC cl_X8 fg_X8_43 (gn_Se hw ⟨by omega, by omega⟩) (gc_Se hw ⟨by omega, by omega⟩ _) (gv_X8_8 _ _ _) dX8_copyFrom_162 ?_
  refine gw_put hC cl_X8 fp_X8_43 (gn_Se hw ⟨by omega, by omega⟩) (gc_Se hw ⟨by omega, by omega⟩ _) ((gc_Se hw ⟨by omega, by omega⟩ _).trans (gs_X8_8 _ _ _ _)) rfl rfl (by simp [fs_X8]) dX8_copyFrom_165 ?_
  refine gw_nmM (fun M32 hM32 => ?_)
  have h := h M32 hM32
  refine gw_aload_n hC dX8_copyFrom_168 rfl 0 rfl ?_
  refine gw_aload_n hC dX8_copyFrom_169 rfl 1 rfl ?_
  refine gw_get hC cl_X8 fg_X8_46 (gn_Se hw ⟨by omega, by omega⟩) (gc_Se hw ⟨by omega, by omega⟩ _) (gv_X8_9 _ _ _) dX8_copyFrom_170 ?_
  refine gw_put hC cl_X8 fp_X8_46 (gn_Se hw ⟨by omega, by omega⟩) (gc_Se hw ⟨by omega, by omega⟩ _) ((gc_Se hw ⟨by omega, by omega⟩ _).trans (gs_X8_9 _ _ _ _)) rfl rfl (by simp [fs_X8]) dX8_copyFrom_173 ?_
  refine gw_nmM (fun M33 hM33 => ?_)
  have h := h M33 hM33
  exact gw_vret hC hr dX8_copyFrom_176 h
set_option maxRecDepth 20000 in
theorem J_X8_copyFrom_82 {z : gx_X} {d : gx_D} {w : gx_V} {ca : Nat → ClassId} (hC : gx_C z d w cX8_copyFrom 3 RX8) (hw : gx_isC ca w) (hR : gx_R z = rm_X8_copyFrom) (hr : (gx_me z).sig.returnType = none)  {Q : gx_M → Prop}   (M : gx_M) (o0 : Nat) (o1 : Nat) (ho0 : pk_Se o0) (ho1 : pk_Se o1) (h : T_X8_copyFrom_82 Q  M o0 o1) : GW z w 3 (gx_Qv w Q (gx_s z).heap.size) M 82 [(0, .ref (gx_ad w o0)), (1, .ref (gx_ad w o1))] [] := by
  unfold T_X8_copyFrom_82 at h
  have ⟨ho0a, ho0b⟩ := ho0
  have ⟨ho1a, ho1b⟩ := ho1
  refine gw_iconst (v := 0) hC dX8_copyFrom_82 (by decide) ?_
  refine gw_istore_n (lv' := [(2, .int 0), (0, .ref (gx_ad w o0)), (1, .ref (gx_ad w o1))]) hC dX8_copyFrom_83 rfl (by decide) rfl ?_
  obtain ⟨k23, h⟩ := h
  refine gw_sub (lv' := [(0, .ref (gx_ad w o0)), (1, .ref (gx_ad w o1)), (2, .int 0)]) [1, 2, 0] rfl ?_
  exact J_X8_copyFrom_84 hC hw hR hr (fun M26 o0_24 o1_25 ho0_24 ho1_25 h => by
      have ⟨ho0_24a, ho0_24b⟩ := ho0_24
      have ⟨ho1_25a, ho1_25b⟩ := ho1_25
      exact J_X8_copyFrom_120 hC hw hR hr  M26 o0_24 o1_25 ⟨by omega, by omega⟩ ⟨by omega, by omega⟩ h) k23 M o0 o1 0 ⟨by omega, by omega⟩ ⟨by omega, by omega⟩ h
set_option maxRecDepth 20000 in
theorem J_X8_copyFrom_41 {z : gx_X} {d : gx_D} {w : gx_V} {ca : Nat → ClassId} (hC : gx_C z d w cX8_copyFrom 3 RX8) (hw : gx_isC ca w) (hR : gx_R z = rm_X8_copyFrom) (hr : (gx_me z).sig.returnType = none)  {Q : gx_M → Prop}   (M : gx_M) (o0 : Nat) (o1 : Nat) (ho0 : pk_Se o0) (ho1 : pk_Se o1) (h : T_X8_copyFrom_41 Q  M o0 o1) : GW z w 3 (gx_Qv w Q (gx_s z).heap.size) M 41 [(0, .ref (gx_ad w o0)), (1, .ref (gx_ad w o1))] [] := by
  unfold T_X8_copyFrom_41 at h
  have ⟨ho0a, ho0b⟩ := ho0
  have ⟨ho1a, ho1b⟩ := ho1
  refine gw_iconst (v := 0) hC dX8_copyFrom_41 (by decide) ?_
  refine gw_istore_n (lv' := [(2, .int 0), (0, .ref (gx_ad w o0)), (1, .ref (gx_ad w o1))]) hC dX8_copyFrom_42 rfl (by decide) rfl ?_
  obtain ⟨k13, h⟩ := h
  refine gw_sub (lv' := [(0, .ref (gx_ad w o0)), (1, .ref (gx_ad w o1)), (2, .int 0)]) [1, 2, 0] rfl ?_
  exact J_X8_copyFrom_43 hC hw hR hr (fun M16 o0_14 o1_15 ho0_14 ho1_15 h => by
      have ⟨ho0_14a, ho0_14b⟩ := ho0_14
      have ⟨ho1_15a, ho1_15b⟩ := ho1_15
      exact J_X8_copyFrom_82 hC hw hR hr  M16 o0_14 o1_15 ⟨by omega, by omega⟩ ⟨by omega, by omega⟩ h) k13 M o0 o1 0 ⟨by omega, by omega⟩ ⟨by omega, by omega⟩ h
set_option maxRecDepth 20000 in
theorem J_X8_copyFrom {z : gx_X} {d : gx_D} {w : gx_V} {ca : Nat → ClassId} (hC : gx_C z d w cX8_copyFrom 3 RX8) (hw : gx_isC ca w) (hR : gx_R z = rm_X8_copyFrom) (hr : (gx_me z).sig.returnType = none) {o0 o1 : Nat} (ho0 : pk_Se o0) (ho1 : pk_Se o1) {M : gx_M}  {Q : gx_M → Prop} (h : T_X8_copyFrom M o0 o1 Q) : GW z w 3 (gx_Qv w Q (gx_s z).heap.size) M 0 [(0, .ref (gx_ad w o0)), (1, .ref (gx_ad w o1))] [] := by
  unfold T_X8_copyFrom at h
  have ⟨ho0a, ho0b⟩ := ho0
  have ⟨ho1a, ho1b⟩ := ho1
  refine gw_iconst (v := 0) hC dX8_copyFrom_0 (by decide) ?_
  refine gw_istore_n (lv' := [(2, .int 0), (0, .ref (gx_ad w o0)), (1, .ref (gx_ad w o1))]) hC dX8_copyFrom_1 rfl (by decide) rfl ?_
  obtain ⟨k5, h⟩ := h
  refine gw_sub (lv' := [(0, .ref (gx_ad w o0)), (1, .ref (gx_ad w o1)), (2, .int 0)]) [1, 2, 0] rfl ?_
  exact J_X8_copyFrom_2 hC hw hR hr (fun M8 o0_6 o1_7 ho0_6 ho1_7 h => by
      have ⟨ho0_6a, ho0_6b⟩ := ho0_6
      have ⟨ho1_7a, ho1_7b⟩ := ho1_7
      exact J_X8_copyFrom_41 hC hw hR hr  M8 o0_6 o1_7 ⟨by omega, by omega⟩ ⟨by omega, by omega⟩ h) k5 M o0 o1 0 ⟨by omega, by omega⟩ ⟨by omega, by omega⟩ h
theorem c_X8_copyFrom {l : Launch} {d : gx_D} {w : gx_V} {ca : Nat → ClassId} (hw : gx_isC ca w) {o0 o1 : Nat} (ho0 : pk_Se o0) (ho1 : pk_Se o1) {M : gx_M}  {Q : gx_M → Prop} (h : T_X8_copyFrom M o0 o1 Q) : gx_Mv l d w yX8_copyFrom cX8_copyFrom 3 rm_X8_copyFrom [.ref (gx_ad w o0), .ref (gx_ad w o1)] M Q := fun sz =>
  gx_of (own := RX8) (by decide +kernel) rfl (Nat.le_of_ble_eq_true rfl) (fun z hC hl hR hsz hr => by subst hsz; exact J_X8_copyFrom hC hw hR hr ho0 ho1 h) rfl
set_option maxRecDepth 20000 in
theorem J_X10_part_70 {z : gx_X} {d : gx_D} {w : gx_V} {ca : Nat → ClassId} (hC : gx_C z d w cX10_part 8 RX10) (hw : gx_isC ca w) (hR : gx_R z = rm_X10_part) (hr : (gx_me z).sig.returnType = (some .int))  {Q : Int32 → gx_M → Prop}   (M : gx_M) (t0 : Int32) (v1 : Int32) (v2 : Int32) (v3 : Int32) (v4 : Int32) (v5 : Int32) (v6 : Int32)  (h : T_X10_part_70 Q  M t0 v1 v2 v3 v4 v5 v6) : GW z w 8 (gx_Qi w Q (gx_s z).heap.size) M 70 [(0, .ref (gx_ad w 0)), (1, .int v1), (2, .int v2), (3, .int v3), (4, .int v4), (5, .int v5), (6, .int v6)] [.int t0] := by
  unfold T_X10_part_70 at h
  refine gw_istore (lv' := [(7, .int t0), (0, .ref (gx_ad w 0)), (1, .int v1), (2, .int v2), (3, .int v3), (4, .int v4), (5, .int v5), (6, .int v6)]) hC dX10_part_70 (by decide) rfl ?_
  refine gw_iload hC dX10_part_72 0 rfl ?_
  refine gw_if_eq (tgt := 94) hC dX10_part_74 (by decide) (fun hc => ?_) (fun hc => ?_)
  · have h := gx_t h hc
    refine gw_iconst (v := (-1)) hC dX10_part_94 (by decide) ?_
    exact gw_iret hC hr dX10_part_95 h
  · have h := gx_f h hc
    refine gw_aload_n hC dX10_part_77 rfl 1 rfl ?_
    refine gw_get hC cl_X10 fg_X10_20 (hw.lt (by decide)) (gc_0 hw _) (gv_X10_1 _ _ _) dX10_part_78 ?_
    refine gw_get hC cl_X8 fg_X10_85 (hw.lt (by decide)) (gc_Se hw (by decide) _) (gv_X8_0 _ _ _) dX10_part_81 ?_
    refine gw_rr (o' := 36) (by omega) ?_
    refine gw_iload_n hC dX10_part_84 rfl 2 rfl ?_
    obtain ⟨hi, h⟩ := h
    have hb3 := vp_lt hi
    refine gw_aald hC (hw.lt (by decide)) (gc_SA hw (by decide) _) (gt_3 hw) rfl hi dX10_part_85 ?_
    refine gw_rr (o' := 42 + v1.toNatClampNeg) (by omega) ?_
    refine gw_get hC cl_X9 fg_X10_89 (gn_Si hw ⟨by omega, by omega⟩) (gc_Si hw ⟨by omega, by omega⟩ _) (gv_X9_1 _ _ _) dX10_part_86 ?_
    refine gw_bipush (v := 6) hC dX10_part_89 (by decide) ?_
    refine gw_icmp_lt (tgt := 96) hC dX10_part_91 (by decide) (fun hc => ?_) (fun hc => ?_)
    · have h := gx_t h hc
      refine gw_aload_n hC dX10_part_96 rfl 1 rfl ?_
      refine gw_get hC cl_X10 fg_X10_20 (hw.lt (by decide)) (gc_0 hw _) (gv_X10_1 _ _ _) dX10_part_97 ?_
      refine gw_get hC cl_X8 fg_X10_85 (hw.lt (by decide)) (gc_Se hw (by decide) _) (gv_X8_0 _ _ _) dX10_part_100 ?_
      refine gw_rr (o' := 36) (by omega) ?_
      refine gw_iload_n hC dX10_part_103 rfl 2 rfl ?_
      obtain ⟨hi, h⟩ := h
      have hb4 := vp_lt hi
      refine gw_aald hC (hw.lt (by decide)) (gc_SA hw (by decide) _) (gt_3 hw) rfl hi dX10_part_104 ?_
      refine gw_rr (o' := 42 + v1.toNatClampNeg) (by omega) ?_
      refine gw_iload_n hC dX10_part_105 rfl 3 rfl ?_
      refine gw_iload_n hC dX10_part_106 rfl 4 rfl ?_
      refine gw_iload hC dX10_part_107 5 rfl ?_
      refine gw_iload hC dX10_part_109 6 rfl ?_
      refine gw_iload hC dX10_part_111 7 rfl ?_
      refine gw_callv (gx_rV hC (n := 5) (As := [.int v2, .int v3, .int v4, .int v5, .int v6]) (rest := []) (fun sz => c_X9_add hw ⟨by omega, by omega⟩ h sz) cv_X10_94_X9_add (by rw [hR]; exact rr_X10_part_X9_add) ⟨(gn_Si hw ⟨by omega, by omega⟩), _, _, _, _, gc_Si hw ⟨by omega, by omega⟩ _, cl_X9.1⟩ rfl rfl (Nat.le_of_ble_eq_true rfl) dX10_part_113) ?_
      intro M5 h
      refine gw_aload_n hC dX10_part_116 rfl 1 rfl ?_
      refine gw_get hC cl_X10 fg_X10_10 (hw.lt (by decide)) (gc_0 hw _) (gv_X10_0 _ _ _) dX10_part_117 ?_
      refine gw_callv (gx_rV hC (n := 0) (As := []) (rest := []) (fun sz => c_X1_forget hw  h sz) cv_X10_98_X1_forget (by rw [hR]; exact rr_X10_part_X1_forget) ⟨(hw.lt (by decide)), _, _, _, _, gc_1 hw _, cl_X1.1⟩ rfl rfl (Nat.le_of_ble_eq_true rfl) dX10_part_120) ?_
      intro M6 h
      refine gw_aload_n hC dX10_part_123 rfl 1 rfl ?_
      refine gw_get hC cl_X10 fg_X10_20 (hw.lt (by decide)) (gc_0 hw _) (gv_X10_1 _ _ _) dX10_part_124 ?_
      refine gw_get hC cl_X8 fg_X10_85 (hw.lt (by decide)) (gc_Se hw (by decide) _) (gv_X8_0 _ _ _) dX10_part_127 ?_
      refine gw_rr (o' := 36) (by omega) ?_
      refine gw_iload_n hC dX10_part_130 rfl 2 rfl ?_
      obtain ⟨hi, h⟩ := h
      have hb7 := vp_lt hi
      refine gw_aald hC (hw.lt (by decide)) (gc_SA hw (by decide) _) (gt_3 hw) rfl hi dX10_part_131 ?_
      refine gw_rr (o' := 42 + v1.toNatClampNeg) (by omega) ?_
      refine gw_get hC cl_X9 fg_X10_89 (gn_Si hw ⟨by omega, by omega⟩) (gc_Si hw ⟨by omega, by omega⟩ _) (gv_X9_1 _ _ _) dX10_part_132 ?_
      exact gw_iret hC hr dX10_part_135 h
    · have h := gx_f h hc
      refine gw_iconst (v := (-1)) hC dX10_part_94 (by decide) ?_
      exact gw_iret hC hr dX10_part_95 h
set_option maxRecDepth 20000 in
theorem J_X10_part_69 {z : gx_X} {d : gx_D} {w : gx_V} {ca : Nat → ClassId} (hC : gx_C z d w cX10_part 8 RX10) (hw : gx_isC ca w) (hR : gx_R z = rm_X10_part) (hr : (gx_me z).sig.returnType = (some .int))  {Q : Int32 → gx_M → Prop}   (M : gx_M) (v1 : Int32) (v2 : Int32) (v3 : Int32) (v4 : Int32) (v5 : Int32) (v6 : Int32)  (h : T_X10_part_69 Q  M v1 v2 v3 v4 v5 v6) : GW z w 8 (gx_Qi w Q (gx_s z).heap.size) M 69 [(0, .ref (gx_ad w 0)), (1, .int v1), (2, .int v2), (3, .int v3), (4, .int v4), (5, .int v5), (6, .int v6)] [] := by
  unfold T_X10_part_69 at h
  refine gw_iconst (v := 0) hC dX10_part_69 (by decide) ?_
  exact J_X10_part_70 hC hw hR hr  M 0 v1 v2 v3 v4 v5 v6 h
set_option maxRecDepth 20000 in
theorem J_X10_part {z : gx_X} {d : gx_D} {w : gx_V} {ca : Nat → ClassId} (hC : gx_C z d w cX10_part 8 RX10) (hw : gx_isC ca w) (hR : gx_R z = rm_X10_part) (hr : (gx_me z).sig.returnType = (some .int))   {M : gx_M} {v1 : Int32} {v2 : Int32} {v3 : Int32} {v4 : Int32} {v5 : Int32} {v6 : Int32} {Q : Int32 → gx_M → Prop} (h : T_X10_part M v1 v2 v3 v4 v5 v6 Q) : GW z w 8 (gx_Qi w Q (gx_s z).heap.size) M 0 [(0, .ref (gx_ad w 0)), (1, .int v1), (2, .int v2), (3, .int v3), (4, .int v4), (5, .int v5), (6, .int v6)] [] := by
  unfold T_X10_part at h
  refine gw_iload_n hC dX10_part_0 rfl 1 rfl ?_
  refine gw_calli (gx_rS hC (n := 1) (As := [.int v1]) (rest := []) (fun sz => c_X10_isSignal hw  h sz) cs_X10_77_X10_isSignal (by rw [hR]; exact rr_X10_part_X10_isSignal) rfl rfl (Nat.le_of_ble_eq_true rfl) dX10_part_1) ?_
  intro r1 m2 ⟨hm2, h⟩
  rw [hm2]
  refine gw_if_eq (tgt := 69) hC dX10_part_4 (by decide) (fun hc => ?_) (fun hc => ?_)
  · have h := gx_t h hc
    exact J_X10_part_69 hC hw hR hr  M v1 v2 v3 v4 v5 v6 h
  · have h := gx_f h hc
    refine gw_iload_n hC dX10_part_7 rfl 2 rfl ?_
    refine gw_iconst (v := 0) hC dX10_part_8 (by decide) ?_
    refine gw_iconst (v := 2) hC dX10_part_9 (by decide) ?_
    refine gw_calli (gx_rS hC (n := 3) (As := [.int v2, .int 0, .int 2]) (rest := []) (fun sz => c_X10_within hw  h sz) cs_X10_81_X10_within (by rw [hR]; exact rr_X10_part_X10_within) rfl rfl (Nat.le_of_ble_eq_true rfl) dX10_part_10) ?_
    intro r8 m9 ⟨hm9, h⟩
    rw [hm9]
    refine gw_if_eq (tgt := 69) hC dX10_part_13 (by decide) (fun hc => ?_) (fun hc => ?_)
    · have h := gx_t h hc
      exact J_X10_part_69 hC hw hR hr  M v1 v2 v3 v4 v5 v6 h
    · have h := gx_f h hc
      refine gw_iload_n hC dX10_part_16 rfl 3 rfl ?_
      refine gw_sipush (v := (-999)) hC dX10_part_17 (by decide) ?_
      refine gw_sipush (v := 999) hC dX10_part_20 (by decide) ?_
      refine gw_calli (gx_rS hC (n := 3) (As := [.int v3, .int (-999), .int 999]) (rest := []) (fun sz => c_X10_within hw  h sz) cs_X10_81_X10_within (by rw [hR]; exact rr_X10_part_X10_within) rfl rfl (Nat.le_of_ble_eq_true rfl) dX10_part_23) ?_
      intro r10 m11 ⟨hm11, h⟩
      rw [hm11]
      refine gw_if_eq (tgt := 69) hC dX10_part_26 (by decide) (fun hc => ?_) (fun hc => ?_)
      · have h := gx_t h hc
        exact J_X10_part_69 hC hw hR hr  M v1 v2 v3 v4 v5 v6 h
      · have h := gx_f h hc
        refine gw_iload hC dX10_part_29 4 rfl ?_
        refine gw_iconst (v := 1) hC dX10_part_31 (by decide) ?_
        refine gw_sipush (v := 500) hC dX10_part_32 (by decide) ?_
        refine gw_calli (gx_rS hC (n := 3) (As := [.int v4, .int 1, .int 500]) (rest := []) (fun sz => c_X10_within hw  h sz) cs_X10_81_X10_within (by rw [hR]; exact rr_X10_part_X10_within) rfl rfl (Nat.le_of_ble_eq_true rfl) dX10_part_35) ?_
        intro r12 m13 ⟨hm13, h⟩
        rw [hm13]
        refine gw_if_eq (tgt := 69) hC dX10_part_38 (by decide) (fun hc => ?_) (fun hc => ?_)
        · have h := gx_t h hc
          exact J_X10_part_69 hC hw hR hr  M v1 v2 v3 v4 v5 v6 h
        · have h := gx_f h hc
          refine gw_iload hC dX10_part_41 5 rfl ?_
          refine gw_iconst (v := 0) hC dX10_part_43 (by decide) ?_
          refine gw_sipush (v := 500) hC dX10_part_44 (by decide) ?_
          refine gw_calli (gx_rS hC (n := 3) (As := [.int v5, .int 0, .int 500]) (rest := []) (fun sz => c_X10_within hw  h sz) cs_X10_81_X10_within (by rw [hR]; exact rr_X10_part_X10_within) rfl rfl (Nat.le_of_ble_eq_true rfl) dX10_part_47) ?_
          intro r14 m15 ⟨hm15, h⟩
          rw [hm15]
          refine gw_if_eq (tgt := 69) hC dX10_part_50 (by decide) (fun hc => ?_) (fun hc => ?_)
          · have h := gx_t h hc
            exact J_X10_part_69 hC hw hR hr  M v1 v2 v3 v4 v5 v6 h
          · have h := gx_f h hc
            refine gw_iload hC dX10_part_53 6 rfl ?_
            refine gw_iconst (v := 0) hC dX10_part_55 (by decide) ?_
            refine gw_sipush (v := 1999) hC dX10_part_56 (by decide) ?_
            refine gw_calli (gx_rS hC (n := 3) (As := [.int v6, .int 0, .int 1999]) (rest := []) (fun sz => c_X10_within hw  h sz) cs_X10_81_X10_within (by rw [hR]; exact rr_X10_part_X10_within) rfl rfl (Nat.le_of_ble_eq_true rfl) dX10_part_59) ?_
            intro r16 m17 ⟨hm17, h⟩
            rw [hm17]
            refine gw_if_eq (tgt := 69) hC dX10_part_62 (by decide) (fun hc => ?_) (fun hc => ?_)
            · have h := gx_t h hc
              exact J_X10_part_69 hC hw hR hr  M v1 v2 v3 v4 v5 v6 h
            · have h := gx_f h hc
              refine gw_iconst (v := 1) hC dX10_part_65 (by decide) ?_
              refine gw_goto (tgt := 70) hC dX10_part_66 (by decide) ?_
              exact J_X10_part_70 hC hw hR hr  M 1 v1 v2 v3 v4 v5 v6 h
theorem c_X10_part {l : Launch} {d : gx_D} {w : gx_V} {ca : Nat → ClassId} (hw : gx_isC ca w)   {M : gx_M} {v1 : Int32} {v2 : Int32} {v3 : Int32} {v4 : Int32} {v5 : Int32} {v6 : Int32} {Q : Int32 → gx_M → Prop} (h : T_X10_part M v1 v2 v3 v4 v5 v6 Q) : gx_Mi l d w yX10_part cX10_part 8 .int rm_X10_part [.ref (gx_ad w 0), .int v1, .int v2, .int v3, .int v4, .int v5, .int v6] M Q := fun sz =>
  gx_of (own := RX10) (by decide +kernel) rfl (Nat.le_of_ble_eq_true rfl) (fun z hC hl hR hsz hr => by subst hsz; exact J_X10_part hC hw hR hr  h) rfl
set_option maxRecDepth 20000 in
theorem J_X10_clear {z : gx_X} {d : gx_D} {w : gx_V} {ca : Nat → ClassId} (hC : gx_C z d w cX10_clear 3 RX10) (hw : gx_isC ca w) (hR : gx_R z = rm_X10_clear) (hr : (gx_me z).sig.returnType = (some .int))   {M : gx_M} {v1 : Int32} {Q : Int32 → gx_M → Prop} (h : T_X10_clear M v1 Q) : GW z w 3 (gx_Qi w Q (gx_s z).heap.size) M 0 [(0, .ref (gx_ad w 0)), (1, .int v1)] [] := by
  unfold T_X10_clear at h
  refine gw_iload_n hC dX10_clear_0 rfl 1 rfl ?_
  refine gw_calli (gx_rS hC (n := 1) (As := [.int v1]) (rest := []) (fun sz => c_X10_isSignal hw  h sz) cs_X10_77_X10_isSignal (by rw [hR]; exact rr_X10_clear_X10_isSignal) rfl rfl (Nat.le_of_ble_eq_true rfl) dX10_clear_1) ?_
  intro r1 m2 ⟨hm2, h⟩
  rw [hm2]
  refine gw_if_ne (tgt := 9) hC dX10_clear_4 (by decide) (fun hc => ?_) (fun hc => ?_)
  · have h := gx_f h hc
    refine gw_aload_n hC dX10_clear_9 rfl 0 rfl ?_
    refine gw_get hC cl_X10 fg_X10_20 (hw.lt (by decide)) (gc_0 hw _) (gv_X10_1 _ _ _) dX10_clear_10 ?_
    refine gw_get hC cl_X8 fg_X10_85 (hw.lt (by decide)) (gc_Se hw (by decide) _) (gv_X8_0 _ _ _) dX10_clear_13 ?_
    refine gw_rr (o' := 36) (by omega) ?_
    refine gw_iload_n hC dX10_clear_16 rfl 1 rfl ?_
    obtain ⟨hi, h⟩ := h
    have hb3 := vp_lt hi
    refine gw_aald hC (hw.lt (by decide)) (gc_SA hw (by decide) _) (gt_3 hw) rfl hi dX10_clear_17 ?_
    refine gw_rr (o' := 42 + v1.toNatClampNeg) (by omega) ?_
    refine gw_get hC cl_X9 fg_X10_89 (gn_Si hw ⟨by omega, by omega⟩) (gc_Si hw ⟨by omega, by omega⟩ _) (gv_X9_1 _ _ _) dX10_clear_18 ?_
    refine gw_nm (fun x4 hx4 => ?_)
    have h := h x4 hx4
    refine gw_istore_n (lv' := [(2, .int x4), (0, .ref (gx_ad w 0)), (1, .int v1)]) hC dX10_clear_21 rfl (by decide) rfl ?_
    refine gw_aload_n hC dX10_clear_22 rfl 1 rfl ?_
    refine gw_get hC cl_X10 fg_X10_20 (hw.lt (by decide)) (gc_0 hw _) (gv_X10_1 _ _ _) dX10_clear_23 ?_
    refine gw_get hC cl_X8 fg_X10_85 (hw.lt (by decide)) (gc_Se hw (by decide) _) (gv_X8_0 _ _ _) dX10_clear_26 ?_
    refine gw_rr (o' := 36) (by omega) ?_
    refine gw_iload_n hC dX10_clear_29 rfl 2 rfl ?_
    obtain ⟨hi, h⟩ := h
    have hb5 := vp_lt hi
    refine gw_aald hC (hw.lt (by decide)) (gc_SA hw (by decide) _) (gt_3 hw) rfl hi dX10_clear_30 ?_
    refine gw_rr (o' := 42 + v1.toNatClampNeg) (by omega) ?_
    refine gw_iconst (v := 0) hC dX10_clear_31 (by decide) ?_
    refine gw_put hC cl_X9 fp_X10_89 (gn_Si hw ⟨by omega, by omega⟩) (gc_Si hw ⟨by omega, by omega⟩ _) ((gc_Si hw ⟨by omega, by omega⟩ _).trans (gs_X9_1 _ _ _ _)) rfl rfl (by simp [fs_X9]) dX10_clear_32 ?_
    refine gw_nmM (fun M6 hM6 => ?_)
    have h := h M6 hM6
    refine gw_aload_n hC dX10_clear_35 rfl 1 rfl ?_
    refine gw_get hC cl_X10 fg_X10_10 (hw.lt (by decide)) (gc_0 hw _) (gv_X10_0 _ _ _) dX10_clear_36 ?_
    refine gw_callv (gx_rV hC (n := 0) (As := []) (rest := []) (fun sz => c_X1_forget hw  h sz) cv_X10_98_X1_forget (by rw [hR]; exact rr_X10_clear_X1_forget) ⟨(hw.lt (by decide)), _, _, _, _, gc_1 hw _, cl_X1.1⟩ rfl rfl (Nat.le_of_ble_eq_true rfl) dX10_clear_39) ?_
    intro M7 h
    refine gw_iload_n hC dX10_clear_42 rfl 0 rfl ?_
    exact gw_iret hC hr dX10_clear_43 h
  · have h := gx_t h hc
    refine gw_iconst (v := (-1)) hC dX10_clear_7 (by decide) ?_
    exact gw_iret hC hr dX10_clear_8 h
theorem c_X10_clear {l : Launch} {d : gx_D} {w : gx_V} {ca : Nat → ClassId} (hw : gx_isC ca w)   {M : gx_M} {v1 : Int32} {Q : Int32 → gx_M → Prop} (h : T_X10_clear M v1 Q) : gx_Mi l d w yX10_clear cX10_clear 3 .int rm_X10_clear [.ref (gx_ad w 0), .int v1] M Q := fun sz =>
  gx_of (own := RX10) (by decide +kernel) rfl (Nat.le_of_ble_eq_true rfl) (fun z hC hl hR hsz hr => by subst hsz; exact J_X10_clear hC hw hR hr  h) rfl
set_option maxRecDepth 20000 in
theorem J_X10_raw {z : gx_X} {d : gx_D} {w : gx_V} {ca : Nat → ClassId} (hC : gx_C z d w cX10_raw 3 RX10) (hw : gx_isC ca w) (hR : gx_R z = rm_X10_raw) (hr : (gx_me z).sig.returnType = (some .int))   {M : gx_M} {v1 : Int32} {v2 : Int32} {Q : Int32 → Prop} (h : T_X10_raw M v1 v2 Q) : GW z w 3 (gx_Qi w (fun r M1 => M1 = M ∧ Q r) (gx_s z).heap.size) M 0 [(0, .ref (gx_ad w 0)), (1, .int v1), (2, .int v2)] [] := by
  unfold T_X10_raw at h
  refine gw_iload_n hC dX10_raw_0 rfl 1 rfl ?_
  refine gw_calli (gx_rS hC (n := 1) (As := [.int v1]) (rest := []) (fun sz => c_X10_isSignal hw  h sz) cs_X10_77_X10_isSignal (by rw [hR]; exact rr_X10_raw_X10_isSignal) rfl rfl (Nat.le_of_ble_eq_true rfl) dX10_raw_1) ?_
  intro r1 m2 ⟨hm2, h⟩
  rw [hm2]
  refine gw_if_eq (tgt := 18) hC dX10_raw_4 (by decide) (fun hc => ?_) (fun hc => ?_)
  · have h := gx_t h hc
    refine gw_ldc hC kc_X10_101 dX10_raw_18 ?_
    exact gw_iret hC hr dX10_raw_20 ⟨rfl, h⟩
  · have h := gx_f h hc
    refine gw_iload_n hC dX10_raw_7 rfl 2 rfl ?_
    refine gw_iconst (v := 0) hC dX10_raw_8 (by decide) ?_
    refine gw_sipush (v := 9999) hC dX10_raw_9 (by decide) ?_
    refine gw_calli (gx_rS hC (n := 3) (As := [.int v2, .int 0, .int 9999]) (rest := []) (fun sz => c_X10_within hw  h sz) cs_X10_81_X10_within (by rw [hR]; exact rr_X10_raw_X10_within) rfl rfl (Nat.le_of_ble_eq_true rfl) dX10_raw_12) ?_
    intro r3 m4 ⟨hm4, h⟩
    rw [hm4]
    refine gw_if_ne (tgt := 21) hC dX10_raw_15 (by decide) (fun hc => ?_) (fun hc => ?_)
    · have h := gx_f h hc
      refine gw_aload_n hC dX10_raw_21 rfl 0 rfl ?_
      refine gw_get hC cl_X10 fg_X10_20 (hw.lt (by decide)) (gc_0 hw _) (gv_X10_1 _ _ _) dX10_raw_22 ?_
      refine gw_get hC cl_X8 fg_X10_85 (hw.lt (by decide)) (gc_Se hw (by decide) _) (gv_X8_0 _ _ _) dX10_raw_25 ?_
      refine gw_rr (o' := 36) (by omega) ?_
      refine gw_iload_n hC dX10_raw_28 rfl 1 rfl ?_
      obtain ⟨hi, h⟩ := h
      have hb5 := vp_lt hi
      refine gw_aald hC (hw.lt (by decide)) (gc_SA hw (by decide) _) (gt_3 hw) rfl hi dX10_raw_29 ?_
      refine gw_rr (o' := 42 + v1.toNatClampNeg) (by omega) ?_
      refine gw_iload_n hC dX10_raw_30 rfl 2 rfl ?_
      refine gw_calli (gx_rV hC (n := 1) (As := [.int v2]) (rest := []) (fun sz => c_X9_heightAt hw ⟨by omega, by omega⟩ h sz) cv_X10_102_X9_heightAt (by rw [hR]; exact rr_X10_raw_X9_heightAt) ⟨(gn_Si hw ⟨by omega, by omega⟩), _, _, _, _, gc_Si hw ⟨by omega, by omega⟩ _, cl_X9.1⟩ rfl rfl (Nat.le_of_ble_eq_true rfl) dX10_raw_31) ?_
      intro r6 m7 ⟨hm7, h⟩
      rw [hm7]
      exact gw_iret hC hr dX10_raw_34 ⟨rfl, h⟩
    · have h := gx_t h hc
      refine gw_ldc hC kc_X10_101 dX10_raw_18 ?_
      exact gw_iret hC hr dX10_raw_20 ⟨rfl, h⟩
theorem c_X10_raw {l : Launch} {d : gx_D} {w : gx_V} {ca : Nat → ClassId} (hw : gx_isC ca w)   {M : gx_M} {v1 : Int32} {v2 : Int32} {Q : Int32 → Prop} (h : T_X10_raw M v1 v2 Q) : gx_Mi l d w yX10_raw cX10_raw 3 .int rm_X10_raw [.ref (gx_ad w 0), .int v1, .int v2] M (fun r M1 => M1 = M ∧ Q r) := fun sz =>
  gx_of (own := RX10) (by decide +kernel) rfl (Nat.le_of_ble_eq_true rfl) (fun z hC hl hR hsz hr => by subst hsz; exact J_X10_raw hC hw hR hr  h) rfl
set_option maxRecDepth 20000 in
theorem J_X10_probe {z : gx_X} {d : gx_D} {w : gx_V} {ca : Nat → ClassId} (hC : gx_C z d w cX10_probe 5 RX10) (hw : gx_isC ca w) (hR : gx_R z = rm_X10_probe) (hr : (gx_me z).sig.returnType = (some .boolean))   {M : gx_M} {v1 : Int32} {v2 : Int32} {v3 : Int32} {v4 : Int32} {Q : Int32 → gx_M → Prop} (h : T_X10_probe M v1 v2 v3 v4 Q) : GW z w 5 (gx_Qi w Q (gx_s z).heap.size) M 0 [(0, .ref (gx_ad w 0)), (1, .int v1), (2, .int v2), (3, .int v3), (4, .int v4)] [] := by
  unfold T_X10_probe at h
  refine gw_iload_n hC dX10_probe_0 rfl 1 rfl ?_
  refine gw_calli (gx_rS hC (n := 1) (As := [.int v1]) (rest := []) (fun sz => c_X10_isChannel hw  h sz) cs_X10_106_X10_isChannel (by rw [hR]; exact rr_X10_probe_X10_isChannel) rfl rfl (Nat.le_of_ble_eq_true rfl) dX10_probe_1) ?_
  intro r1 m2 ⟨hm2, h⟩
  rw [hm2]
  refine gw_if_eq (tgt := 38) hC dX10_probe_4 (by decide) (fun hc => ?_) (fun hc => ?_)
  · have h := gx_t h hc
    refine gw_iconst (v := 0) hC dX10_probe_38 (by decide) ?_
    exact gw_zret hC hr rfl dX10_probe_39 h
  · have h := gx_f h hc
    refine gw_iload_n hC dX10_probe_7 rfl 2 rfl ?_
    refine gw_iconst (v := 1) hC dX10_probe_8 (by decide) ?_
    refine gw_bipush (v := 20) hC dX10_probe_9 (by decide) ?_
    refine gw_calli (gx_rS hC (n := 3) (As := [.int v2, .int 1, .int 20]) (rest := []) (fun sz => c_X10_within hw  h sz) cs_X10_81_X10_within (by rw [hR]; exact rr_X10_probe_X10_within) rfl rfl (Nat.le_of_ble_eq_true rfl) dX10_probe_11) ?_
    intro r3 m4 ⟨hm4, h⟩
    rw [hm4]
    refine gw_if_eq (tgt := 38) hC dX10_probe_14 (by decide) (fun hc => ?_) (fun hc => ?_)
    · have h := gx_t h hc
      refine gw_iconst (v := 0) hC dX10_probe_38 (by decide) ?_
      exact gw_zret hC hr rfl dX10_probe_39 h
    · have h := gx_f h hc
      refine gw_iload_n hC dX10_probe_17 rfl 3 rfl ?_
      refine gw_iconst (v := 1) hC dX10_probe_18 (by decide) ?_
      refine gw_bipush (v := 20) hC dX10_probe_19 (by decide) ?_
      refine gw_calli (gx_rS hC (n := 3) (As := [.int v3, .int 1, .int 20]) (rest := []) (fun sz => c_X10_within hw  h sz) cs_X10_81_X10_within (by rw [hR]; exact rr_X10_probe_X10_within) rfl rfl (Nat.le_of_ble_eq_true rfl) dX10_probe_21) ?_
      intro r5 m6 ⟨hm6, h⟩
      rw [hm6]
      refine gw_if_eq (tgt := 38) hC dX10_probe_24 (by decide) (fun hc => ?_) (fun hc => ?_)
      · have h := gx_t h hc
        refine gw_iconst (v := 0) hC dX10_probe_38 (by decide) ?_
        exact gw_zret hC hr rfl dX10_probe_39 h
      · have h := gx_f h hc
        refine gw_iload hC dX10_probe_27 4 rfl ?_
        refine gw_iconst (v := 1) hC dX10_probe_29 (by decide) ?_
        refine gw_bipush (v := 16) hC dX10_probe_30 (by decide) ?_
        refine gw_calli (gx_rS hC (n := 3) (As := [.int v4, .int 1, .int 16]) (rest := []) (fun sz => c_X10_within hw  h sz) cs_X10_81_X10_within (by rw [hR]; exact rr_X10_probe_X10_within) rfl rfl (Nat.le_of_ble_eq_true rfl) dX10_probe_32) ?_
        intro r7 m8 ⟨hm8, h⟩
        rw [hm8]
        refine gw_if_ne (tgt := 40) hC dX10_probe_35 (by decide) (fun hc => ?_) (fun hc => ?_)
        · have h := gx_f h hc
          refine gw_aload_n hC dX10_probe_40 rfl 0 rfl ?_
          refine gw_get hC cl_X10 fg_X10_20 (hw.lt (by decide)) (gc_0 hw _) (gv_X10_1 _ _ _) dX10_probe_41 ?_
          refine gw_get hC cl_X8 fg_X10_109 (hw.lt (by decide)) (gc_Se hw (by decide) _) (gv_X8_1 _ _ _) dX10_probe_44 ?_
          refine gw_rr (o' := 38) (by omega) ?_
          refine gw_iload_n hC dX10_probe_47 rfl 1 rfl ?_
          obtain ⟨hi, h⟩ := h
          have hb9 := vp_lt hi
          refine gw_aald hC (hw.lt (by decide)) (gc_CA hw (by decide) _) (gt_4 hw) rfl hi dX10_probe_48 ?_
          refine gw_rr (o' := 58 + v1.toNatClampNeg) (by omega) ?_
          refine gw_iload_n hC dX10_probe_49 rfl 2 rfl ?_
          refine gw_iload_n hC dX10_probe_50 rfl 3 rfl ?_
          refine gw_iload hC dX10_probe_51 4 rfl ?_
          refine gw_callv (gx_rV hC (n := 3) (As := [.int v2, .int v3, .int v4]) (rest := []) (fun sz => c_X2_setProbe hw ⟨by omega, by omega⟩ h sz) cv_X10_113_X2_setProbe (by rw [hR]; exact rr_X10_probe_X2_setProbe) ⟨(gn_Ch hw ⟨by omega, by omega⟩), _, _, _, _, gc_Ch hw ⟨by omega, by omega⟩ _, cl_X2.1⟩ rfl rfl (Nat.le_of_ble_eq_true rfl) dX10_probe_53) ?_
          intro M10 h
          refine gw_aload_n hC dX10_probe_56 rfl 0 rfl ?_
          refine gw_get hC cl_X10 fg_X10_10 (hw.lt (by decide)) (gc_0 hw _) (gv_X10_0 _ _ _) dX10_probe_57 ?_
          refine gw_callv (gx_rV hC (n := 0) (As := []) (rest := []) (fun sz => c_X1_forget hw  h sz) cv_X10_98_X1_forget (by rw [hR]; exact rr_X10_probe_X1_forget) ⟨(hw.lt (by decide)), _, _, _, _, gc_1 hw _, cl_X1.1⟩ rfl rfl (Nat.le_of_ble_eq_true rfl) dX10_probe_60) ?_
          intro M11 h
          refine gw_iconst (v := 1) hC dX10_probe_63 (by decide) ?_
          exact gw_zret hC hr rfl dX10_probe_64 h
        · have h := gx_t h hc
          refine gw_iconst (v := 0) hC dX10_probe_38 (by decide) ?_
          exact gw_zret hC hr rfl dX10_probe_39 h
theorem c_X10_probe {l : Launch} {d : gx_D} {w : gx_V} {ca : Nat → ClassId} (hw : gx_isC ca w)   {M : gx_M} {v1 : Int32} {v2 : Int32} {v3 : Int32} {v4 : Int32} {Q : Int32 → gx_M → Prop} (h : T_X10_probe M v1 v2 v3 v4 Q) : gx_Mi l d w yX10_probe cX10_probe 5 .boolean rm_X10_probe [.ref (gx_ad w 0), .int v1, .int v2, .int v3, .int v4] M Q := fun sz =>
  gx_of (own := RX10) (by decide +kernel) rfl (Nat.le_of_ble_eq_true rfl) (fun z hC hl hR hsz hr => by subst hsz; exact J_X10_probe hC hw hR hr  h) rfl
set_option maxRecDepth 20000 in
theorem J_X10_channel {z : gx_X} {d : gx_D} {w : gx_V} {ca : Nat → ClassId} (hC : gx_C z d w cX10_channel 5 RX10) (hw : gx_isC ca w) (hR : gx_R z = rm_X10_channel) (hr : (gx_me z).sig.returnType = (some .boolean))   {M : gx_M} {v1 : Int32} {v2 : Int32} {v3 : Int32} {v4 : Int32} {Q : Int32 → gx_M → Prop} (h : T_X10_channel M v1 v2 v3 v4 Q) : GW z w 5 (gx_Qi w Q (gx_s z).heap.size) M 0 [(0, .ref (gx_ad w 0)), (1, .int v1), (2, .int v2), (3, .int v3), (4, .int v4)] [] := by
  unfold T_X10_channel at h
  refine gw_iload_n hC dX10_channel_0 rfl 1 rfl ?_
  refine gw_calli (gx_rS hC (n := 1) (As := [.int v1]) (rest := []) (fun sz => c_X10_isChannel hw  h sz) cs_X10_106_X10_isChannel (by rw [hR]; exact rr_X10_channel_X10_isChannel) rfl rfl (Nat.le_of_ble_eq_true rfl) dX10_channel_1) ?_
  intro r1 m2 ⟨hm2, h⟩
  rw [hm2]
  refine gw_if_eq (tgt := 37) hC dX10_channel_4 (by decide) (fun hc => ?_) (fun hc => ?_)
  · have h := gx_t h hc
    refine gw_iconst (v := 0) hC dX10_channel_37 (by decide) ?_
    exact gw_zret hC hr rfl dX10_channel_38 h
  · have h := gx_f h hc
    refine gw_iload_n hC dX10_channel_7 rfl 2 rfl ?_
    refine gw_calli (gx_rS hC (n := 1) (As := [.int v2]) (rest := []) (fun sz => c_X10_isSignal hw  h sz) cs_X10_77_X10_isSignal (by rw [hR]; exact rr_X10_channel_X10_isSignal) rfl rfl (Nat.le_of_ble_eq_true rfl) dX10_channel_8) ?_
    intro r3 m4 ⟨hm4, h⟩
    rw [hm4]
    refine gw_if_eq (tgt := 37) hC dX10_channel_11 (by decide) (fun hc => ?_) (fun hc => ?_)
    · have h := gx_t h hc
      refine gw_iconst (v := 0) hC dX10_channel_37 (by decide) ?_
      exact gw_zret hC hr rfl dX10_channel_38 h
    · have h := gx_f h hc
      refine gw_iload_n hC dX10_channel_14 rfl 3 rfl ?_
      refine gw_iconst (v := 1) hC dX10_channel_15 (by decide) ?_
      refine gw_sipush (v := 999) hC dX10_channel_16 (by decide) ?_
      refine gw_calli (gx_rS hC (n := 3) (As := [.int v3, .int 1, .int 999]) (rest := []) (fun sz => c_X10_within hw  h sz) cs_X10_81_X10_within (by rw [hR]; exact rr_X10_channel_X10_within) rfl rfl (Nat.le_of_ble_eq_true rfl) dX10_channel_19) ?_
      intro r5 m6 ⟨hm6, h⟩
      rw [hm6]
      refine gw_if_eq (tgt := 37) hC dX10_channel_22 (by decide) (fun hc => ?_) (fun hc => ?_)
      · have h := gx_t h hc
        refine gw_iconst (v := 0) hC dX10_channel_37 (by decide) ?_
        exact gw_zret hC hr rfl dX10_channel_38 h
      · have h := gx_f h hc
        refine gw_iload hC dX10_channel_25 4 rfl ?_
        refine gw_bipush (v := (-15)) hC dX10_channel_27 (by decide) ?_
        refine gw_bipush (v := 15) hC dX10_channel_29 (by decide) ?_
        refine gw_calli (gx_rS hC (n := 3) (As := [.int v4, .int (-15), .int 15]) (rest := []) (fun sz => c_X10_within hw  h sz) cs_X10_81_X10_within (by rw [hR]; exact rr_X10_channel_X10_within) rfl rfl (Nat.le_of_ble_eq_true rfl) dX10_channel_31) ?_
        intro r7 m8 ⟨hm8, h⟩
        rw [hm8]
        refine gw_if_ne (tgt := 39) hC dX10_channel_34 (by decide) (fun hc => ?_) (fun hc => ?_)
        · have h := gx_f h hc
          refine gw_aload_n hC dX10_channel_39 rfl 0 rfl ?_
          refine gw_get hC cl_X10 fg_X10_20 (hw.lt (by decide)) (gc_0 hw _) (gv_X10_1 _ _ _) dX10_channel_40 ?_
          refine gw_get hC cl_X8 fg_X10_109 (hw.lt (by decide)) (gc_Se hw (by decide) _) (gv_X8_1 _ _ _) dX10_channel_43 ?_
          refine gw_rr (o' := 38) (by omega) ?_
          refine gw_iload_n hC dX10_channel_46 rfl 1 rfl ?_
          obtain ⟨hi, h⟩ := h
          have hb9 := vp_lt hi
          refine gw_aald hC (hw.lt (by decide)) (gc_CA hw (by decide) _) (gt_4 hw) rfl hi dX10_channel_47 ?_
          refine gw_rr (o' := 58 + v1.toNatClampNeg) (by omega) ?_
          refine gw_iload_n hC dX10_channel_48 rfl 2 rfl ?_
          refine gw_iload_n hC dX10_channel_49 rfl 3 rfl ?_
          refine gw_iload hC dX10_channel_50 4 rfl ?_
          refine gw_callv (gx_rV hC (n := 3) (As := [.int v2, .int v3, .int v4]) (rest := []) (fun sz => c_X2_setView hw ⟨by omega, by omega⟩ h sz) cv_X10_119_X2_setView (by rw [hR]; exact rr_X10_channel_X2_setView) ⟨(gn_Ch hw ⟨by omega, by omega⟩), _, _, _, _, gc_Ch hw ⟨by omega, by omega⟩ _, cl_X2.1⟩ rfl rfl (Nat.le_of_ble_eq_true rfl) dX10_channel_52) ?_
          intro M10 h
          refine gw_aload_n hC dX10_channel_55 rfl 0 rfl ?_
          refine gw_get hC cl_X10 fg_X10_10 (hw.lt (by decide)) (gc_0 hw _) (gv_X10_0 _ _ _) dX10_channel_56 ?_
          refine gw_callv (gx_rV hC (n := 0) (As := []) (rest := []) (fun sz => c_X1_forget hw  h sz) cv_X10_98_X1_forget (by rw [hR]; exact rr_X10_channel_X1_forget) ⟨(hw.lt (by decide)), _, _, _, _, gc_1 hw _, cl_X1.1⟩ rfl rfl (Nat.le_of_ble_eq_true rfl) dX10_channel_59) ?_
          intro M11 h
          refine gw_iconst (v := 1) hC dX10_channel_62 (by decide) ?_
          exact gw_zret hC hr rfl dX10_channel_63 h
        · have h := gx_t h hc
          refine gw_iconst (v := 0) hC dX10_channel_37 (by decide) ?_
          exact gw_zret hC hr rfl dX10_channel_38 h
theorem c_X10_channel {l : Launch} {d : gx_D} {w : gx_V} {ca : Nat → ClassId} (hw : gx_isC ca w)   {M : gx_M} {v1 : Int32} {v2 : Int32} {v3 : Int32} {v4 : Int32} {Q : Int32 → gx_M → Prop} (h : T_X10_channel M v1 v2 v3 v4 Q) : gx_Mi l d w yX10_channel cX10_channel 5 .boolean rm_X10_channel [.ref (gx_ad w 0), .int v1, .int v2, .int v3, .int v4] M Q := fun sz =>
  gx_of (own := RX10) (by decide +kernel) rfl (Nat.le_of_ble_eq_true rfl) (fun z hC hl hR hsz hr => by subst hsz; exact J_X10_channel hC hw hR hr  h) rfl
set_option maxRecDepth 20000 in
theorem J_X10_out {z : gx_X} {d : gx_D} {w : gx_V} {ca : Nat → ClassId} (hC : gx_C z d w cX10_out 3 RX10) (hw : gx_isC ca w) (hR : gx_R z = rm_X10_out) (hr : (gx_me z).sig.returnType = (some .int))   {M : gx_M} {v1 : Int32} {v2 : Int32} {Q : Int32 → gx_M → Prop} (h : T_X10_out M v1 v2 Q) : GW z w 3 (gx_Qi w Q (gx_s z).heap.size) M 0 [(0, .ref (gx_ad w 0)), (1, .int v1), (2, .int v2)] [] := by
  unfold T_X10_out at h
  refine gw_iload_n hC dX10_out_0 rfl 1 rfl ?_
  refine gw_calli (gx_rS hC (n := 1) (As := [.int v1]) (rest := []) (fun sz => c_X10_isChannel hw  h sz) cs_X10_106_X10_isChannel (by rw [hR]; exact rr_X10_out_X10_isChannel) rfl rfl (Nat.le_of_ble_eq_true rfl) dX10_out_1) ?_
  intro r1 m2 ⟨hm2, h⟩
  rw [hm2]
  refine gw_if_eq (tgt := 18) hC dX10_out_4 (by decide) (fun hc => ?_) (fun hc => ?_)
  · have h := gx_t h hc
    refine gw_ldc hC kc_X10_101 dX10_out_18 ?_
    exact gw_iret hC hr dX10_out_20 h
  · have h := gx_f h hc
    refine gw_iload_n hC dX10_out_7 rfl 2 rfl ?_
    refine gw_iconst (v := 0) hC dX10_out_8 (by decide) ?_
    refine gw_sipush (v := 1999) hC dX10_out_9 (by decide) ?_
    refine gw_calli (gx_rS hC (n := 3) (As := [.int v2, .int 0, .int 1999]) (rest := []) (fun sz => c_X10_within hw  h sz) cs_X10_81_X10_within (by rw [hR]; exact rr_X10_out_X10_within) rfl rfl (Nat.le_of_ble_eq_true rfl) dX10_out_12) ?_
    intro r3 m4 ⟨hm4, h⟩
    rw [hm4]
    refine gw_if_ne (tgt := 21) hC dX10_out_15 (by decide) (fun hc => ?_) (fun hc => ?_)
    · have h := gx_f h hc
      refine gw_aload_n hC dX10_out_21 rfl 0 rfl ?_
      refine gw_get hC cl_X10 fg_X10_10 (hw.lt (by decide)) (gc_0 hw _) (gv_X10_0 _ _ _) dX10_out_22 ?_
      refine gw_iload_n hC dX10_out_25 rfl 1 rfl ?_
      refine gw_iload_n hC dX10_out_26 rfl 2 rfl ?_
      refine gw_calli (gx_rV hC (n := 2) (As := [.int v1, .int v2]) (rest := []) (fun sz => c_X1_outAt hw  h sz) cv_X10_122_X1_outAt (by rw [hR]; exact rr_X10_out_X1_outAt) ⟨(hw.lt (by decide)), _, _, _, _, gc_1 hw _, cl_X1.1⟩ rfl rfl (Nat.le_of_ble_eq_true rfl) dX10_out_27) ?_
      intro r6 M5 h
      exact gw_iret hC hr dX10_out_30 h
    · have h := gx_t h hc
      refine gw_ldc hC kc_X10_101 dX10_out_18 ?_
      exact gw_iret hC hr dX10_out_20 h
theorem c_X10_out {l : Launch} {d : gx_D} {w : gx_V} {ca : Nat → ClassId} (hw : gx_isC ca w)   {M : gx_M} {v1 : Int32} {v2 : Int32} {Q : Int32 → gx_M → Prop} (h : T_X10_out M v1 v2 Q) : gx_Mi l d w yX10_out cX10_out 3 .int rm_X10_out [.ref (gx_ad w 0), .int v1, .int v2] M Q := fun sz =>
  gx_of (own := RX10) (by decide +kernel) rfl (Nat.le_of_ble_eq_true rfl) (fun z hC hl hR hsz hr => by subst hsz; exact J_X10_out hC hw hR hr  h) rfl
set_option maxRecDepth 20000 in
theorem J_X10_base {z : gx_X} {d : gx_D} {w : gx_V} {ca : Nat → ClassId} (hC : gx_C z d w cX10_base 4 RX10) (hw : gx_isC ca w) (hR : gx_R z = rm_X10_base) (hr : (gx_me z).sig.returnType = (some .boolean))   {M : gx_M} {v1 : Int32} {v2 : Int32} {v3 : Int32} {Q : Int32 → gx_M → Prop} (h : T_X10_base M v1 v2 v3 Q) : GW z w 4 (gx_Qi w Q (gx_s z).heap.size) M 0 [(0, .ref (gx_ad w 0)), (1, .int v1), (2, .int v2), (3, .int v3)] [] := by
  unfold T_X10_base at h
  refine gw_iload_n hC dX10_base_0 rfl 1 rfl ?_
  refine gw_iconst (v := 1) hC dX10_base_1 (by decide) ?_
  refine gw_bipush (v := 50) hC dX10_base_2 (by decide) ?_
  refine gw_calli (gx_rS hC (n := 3) (As := [.int v1, .int 1, .int 50]) (rest := []) (fun sz => c_X10_within hw  h sz) cs_X10_81_X10_within (by rw [hR]; exact rr_X10_base_X10_within) rfl rfl (Nat.le_of_ble_eq_true rfl) dX10_base_4) ?_
  intro r1 m2 ⟨hm2, h⟩
  rw [hm2]
  refine gw_if_eq (tgt := 31) hC dX10_base_7 (by decide) (fun hc => ?_) (fun hc => ?_)
  · have h := gx_t h hc
    refine gw_iconst (v := 0) hC dX10_base_31 (by decide) ?_
    exact gw_zret hC hr rfl dX10_base_32 h
  · have h := gx_f h hc
    refine gw_iload_n hC dX10_base_10 rfl 2 rfl ?_
    refine gw_iconst (v := 0) hC dX10_base_11 (by decide) ?_
    refine gw_sipush (v := 999) hC dX10_base_12 (by decide) ?_
    refine gw_calli (gx_rS hC (n := 3) (As := [.int v2, .int 0, .int 999]) (rest := []) (fun sz => c_X10_within hw  h sz) cs_X10_81_X10_within (by rw [hR]; exact rr_X10_base_X10_within) rfl rfl (Nat.le_of_ble_eq_true rfl) dX10_base_15) ?_
    intro r3 m4 ⟨hm4, h⟩
    rw [hm4]
    refine gw_if_eq (tgt := 31) hC dX10_base_18 (by decide) (fun hc => ?_) (fun hc => ?_)
    · have h := gx_t h hc
      refine gw_iconst (v := 0) hC dX10_base_31 (by decide) ?_
      exact gw_zret hC hr rfl dX10_base_32 h
    · have h := gx_f h hc
      refine gw_iload_n hC dX10_base_21 rfl 3 rfl ?_
      refine gw_iconst (v := 0) hC dX10_base_22 (by decide) ?_
      refine gw_bipush (v := 16) hC dX10_base_23 (by decide) ?_
      refine gw_calli (gx_rS hC (n := 3) (As := [.int v3, .int 0, .int 16]) (rest := []) (fun sz => c_X10_within hw  h sz) cs_X10_81_X10_within (by rw [hR]; exact rr_X10_base_X10_within) rfl rfl (Nat.le_of_ble_eq_true rfl) dX10_base_25) ?_
      intro r5 m6 ⟨hm6, h⟩
      rw [hm6]
      refine gw_if_ne (tgt := 33) hC dX10_base_28 (by decide) (fun hc => ?_) (fun hc => ?_)
      · have h := gx_f h hc
        refine gw_aload_n hC dX10_base_33 rfl 0 rfl ?_
        refine gw_get hC cl_X10 fg_X10_20 (hw.lt (by decide)) (gc_0 hw _) (gv_X10_1 _ _ _) dX10_base_34 ?_
        refine gw_iload_n hC dX10_base_37 rfl 1 rfl ?_
        refine gw_put hC cl_X8 fp_X10_126 (hw.lt (by decide)) (gc_Se hw (by decide) _) ((gc_Se hw (by decide) _).trans (gs_X8_3 _ _ _ _)) rfl rfl (by simp [fs_X8]) dX10_base_38 ?_
        refine gw_nmM (fun M7 hM7 => ?_)
        have h := h M7 hM7
        refine gw_aload_n hC dX10_base_41 rfl 0 rfl ?_
        refine gw_get hC cl_X10 fg_X10_20 (hw.lt (by decide)) (gc_0 hw _) (gv_X10_1 _ _ _) dX10_base_42 ?_
        refine gw_iload_n hC dX10_base_45 rfl 2 rfl ?_
        refine gw_put hC cl_X8 fp_X10_129 (hw.lt (by decide)) (gc_Se hw (by decide) _) ((gc_Se hw (by decide) _).trans (gs_X8_4 _ _ _ _)) rfl rfl (by simp [fs_X8]) dX10_base_46 ?_
        refine gw_nmM (fun M8 hM8 => ?_)
        have h := h M8 hM8
        refine gw_aload_n hC dX10_base_49 rfl 0 rfl ?_
        refine gw_get hC cl_X10 fg_X10_20 (hw.lt (by decide)) (gc_0 hw _) (gv_X10_1 _ _ _) dX10_base_50 ?_
        refine gw_iload_n hC dX10_base_53 rfl 3 rfl ?_
        refine gw_put hC cl_X8 fp_X10_132 (hw.lt (by decide)) (gc_Se hw (by decide) _) ((gc_Se hw (by decide) _).trans (gs_X8_5 _ _ _ _)) rfl rfl (by simp [fs_X8]) dX10_base_54 ?_
        refine gw_nmM (fun M9 hM9 => ?_)
        have h := h M9 hM9
        refine gw_iconst (v := 1) hC dX10_base_57 (by decide) ?_
        exact gw_zret hC hr rfl dX10_base_58 h
      · have h := gx_t h hc
        refine gw_iconst (v := 0) hC dX10_base_31 (by decide) ?_
        exact gw_zret hC hr rfl dX10_base_32 h
theorem c_X10_base {l : Launch} {d : gx_D} {w : gx_V} {ca : Nat → ClassId} (hw : gx_isC ca w)   {M : gx_M} {v1 : Int32} {v2 : Int32} {v3 : Int32} {Q : Int32 → gx_M → Prop} (h : T_X10_base M v1 v2 v3 Q) : gx_Mi l d w yX10_base cX10_base 4 .boolean rm_X10_base [.ref (gx_ad w 0), .int v1, .int v2, .int v3] M Q := fun sz =>
  gx_of (own := RX10) (by decide +kernel) rfl (Nat.le_of_ble_eq_true rfl) (fun z hC hl hR hsz hr => by subst hsz; exact J_X10_base hC hw hR hr  h) rfl
set_option maxRecDepth 20000 in
theorem J_X10_mode {z : gx_X} {d : gx_D} {w : gx_V} {ca : Nat → ClassId} (hC : gx_C z d w cX10_mode 3 RX10) (hw : gx_isC ca w) (hR : gx_R z = rm_X10_mode) (hr : (gx_me z).sig.returnType = (some .boolean))   {M : gx_M} {v1 : Int32} {v2 : Int32} {Q : Int32 → gx_M → Prop} (h : T_X10_mode M v1 v2 Q) : GW z w 3 (gx_Qi w Q (gx_s z).heap.size) M 0 [(0, .ref (gx_ad w 0)), (1, .int v1), (2, .int v2)] [] := by
  unfold T_X10_mode at h
  refine gw_iload_n hC dX10_mode_0 rfl 1 rfl ?_
  refine gw_iconst (v := 0) hC dX10_mode_1 (by decide) ?_
  refine gw_iconst (v := 3) hC dX10_mode_2 (by decide) ?_
  refine gw_calli (gx_rS hC (n := 3) (As := [.int v1, .int 0, .int 3]) (rest := []) (fun sz => c_X10_within hw  h sz) cs_X10_81_X10_within (by rw [hR]; exact rr_X10_mode_X10_within) rfl rfl (Nat.le_of_ble_eq_true rfl) dX10_mode_3) ?_
  intro r1 m2 ⟨hm2, h⟩
  rw [hm2]
  refine gw_if_eq (tgt := 19) hC dX10_mode_6 (by decide) (fun hc => ?_) (fun hc => ?_)
  · have h := gx_t h hc
    refine gw_iconst (v := 0) hC dX10_mode_19 (by decide) ?_
    exact gw_zret hC hr rfl dX10_mode_20 h
  · have h := gx_f h hc
    refine gw_iload_n hC dX10_mode_9 rfl 2 rfl ?_
    refine gw_iconst (v := 1) hC dX10_mode_10 (by decide) ?_
    refine gw_bipush (v := 50) hC dX10_mode_11 (by decide) ?_
    refine gw_calli (gx_rS hC (n := 3) (As := [.int v2, .int 1, .int 50]) (rest := []) (fun sz => c_X10_within hw  h sz) cs_X10_81_X10_within (by rw [hR]; exact rr_X10_mode_X10_within) rfl rfl (Nat.le_of_ble_eq_true rfl) dX10_mode_13) ?_
    intro r3 m4 ⟨hm4, h⟩
    rw [hm4]
    refine gw_if_ne (tgt := 21) hC dX10_mode_16 (by decide) (fun hc => ?_) (fun hc => ?_)
    · have h := gx_f h hc
      refine gw_aload_n hC dX10_mode_21 rfl 0 rfl ?_
      refine gw_get hC cl_X10 fg_X10_20 (hw.lt (by decide)) (gc_0 hw _) (gv_X10_1 _ _ _) dX10_mode_22 ?_
      refine gw_iload_n hC dX10_mode_25 rfl 1 rfl ?_
      refine gw_put hC cl_X8 fp_X10_135 (hw.lt (by decide)) (gc_Se hw (by decide) _) ((gc_Se hw (by decide) _).trans (gs_X8_6 _ _ _ _)) rfl rfl (by simp [fs_X8]) dX10_mode_26 ?_
      refine gw_nmM (fun M5 hM5 => ?_)
      have h := h M5 hM5
      refine gw_aload_n hC dX10_mode_29 rfl 0 rfl ?_
      refine gw_get hC cl_X10 fg_X10_20 (hw.lt (by decide)) (gc_0 hw _) (gv_X10_1 _ _ _) dX10_mode_30 ?_
      refine gw_iload_n hC dX10_mode_33 rfl 2 rfl ?_
      refine gw_put hC cl_X8 fp_X10_138 (hw.lt (by decide)) (gc_Se hw (by decide) _) ((gc_Se hw (by decide) _).trans (gs_X8_7 _ _ _ _)) rfl rfl (by simp [fs_X8]) dX10_mode_34 ?_
      refine gw_nmM (fun M6 hM6 => ?_)
      have h := h M6 hM6
      refine gw_iconst (v := 1) hC dX10_mode_37 (by decide) ?_
      exact gw_zret hC hr rfl dX10_mode_38 h
    · have h := gx_t h hc
      refine gw_iconst (v := 0) hC dX10_mode_19 (by decide) ?_
      exact gw_zret hC hr rfl dX10_mode_20 h
theorem c_X10_mode {l : Launch} {d : gx_D} {w : gx_V} {ca : Nat → ClassId} (hw : gx_isC ca w)   {M : gx_M} {v1 : Int32} {v2 : Int32} {Q : Int32 → gx_M → Prop} (h : T_X10_mode M v1 v2 Q) : gx_Mi l d w yX10_mode cX10_mode 3 .boolean rm_X10_mode [.ref (gx_ad w 0), .int v1, .int v2] M Q := fun sz =>
  gx_of (own := RX10) (by decide +kernel) rfl (Nat.le_of_ble_eq_true rfl) (fun z hC hl hR hsz hr => by subst hsz; exact J_X10_mode hC hw hR hr  h) rfl
set_option maxRecDepth 20000 in
theorem J_X10_feedNumber_51 {z : gx_X} {d : gx_D} {w : gx_V} {ca : Nat → ClassId} (hC : gx_C z d w cX10_feedNumber 3 RX10) (hw : gx_isC ca w) (hR : gx_R z = rm_X10_feedNumber) (hr : (gx_me z).sig.returnType = none)  {Q : gx_M → Prop} {K3 : gx_M → Int32 → Int32 → Prop} (hK3 : ∀ (M : gx_M) (v1 : Int32) (v2 : Int32), K3 M v1 v2 → GW z w 3 (gx_Qv w Q (gx_s z).heap.size) M 3 [(0, .ref (gx_ad w 0)), (1, .int v1), (2, .int v2)] []) (M : gx_M) (v1 : Int32) (v2 : Int32)  (h : T_X10_feedNumber_51 Q K3 M v1 v2) : GW z w 3 (gx_Qv w Q (gx_s z).heap.size) M 51 [(0, .ref (gx_ad w 0)), (1, .int v1), (2, .int v2)] [] := by
  unfold T_X10_feedNumber_51 at h
  obtain ⟨x3, hx3⟩ : ∃ y : Int32, y = v2 + (-8) := ⟨_, rfl⟩
  have h := h x3 hx3
  refine gw_iinc (v := x3) (lv' := [(2, .int x3), (0, .ref (gx_ad w 0)), (1, .int v1)]) hC dX10_feedNumber_51 (k := 2) rfl (by rw [hx3]; rfl) (by decide) rfl ?_
  refine gw_goto (tgt := 3) hC dX10_feedNumber_54 (by decide) ?_
  refine gw_sub (lv' := [(0, .ref (gx_ad w 0)), (1, .int v1), (2, .int x3)]) [1, 2, 0] rfl ?_
  exact hK3 M v1 x3 h
set_option maxRecDepth 20000 in
theorem J_X10_feedNumber_3 {z : gx_X} {d : gx_D} {w : gx_V} {ca : Nat → ClassId} (hC : gx_C z d w cX10_feedNumber 3 RX10) (hw : gx_isC ca w) (hR : gx_R z = rm_X10_feedNumber) (hr : (gx_me z).sig.returnType = none)  {Q : gx_M → Prop}   : ∀ (n : Nat) (M : gx_M) (v1 : Int32) (v2 : Int32) , T_X10_feedNumber_3 Q  n M v1 v2 → GW z w 3 (gx_Qv w Q (gx_s z).heap.size) M 3 [(0, .ref (gx_ad w 0)), (1, .int v1), (2, .int v2)] [] := by
  intro n
  induction n with
  | zero =>
    intro M v1 v2 h
    exact h.elim
  | succ n ih =>
    intro M v1 v2 h
    rw [T_X10_feedNumber_3] at h
    refine gw_iload_n hC dX10_feedNumber_3 rfl 2 rfl ?_
    refine gw_if_lt (tgt := 57) hC dX10_feedNumber_4 (by decide) (fun hc => ?_) (fun hc => ?_)
    · have h := gx_t h hc
      exact gw_vret hC hr dX10_feedNumber_57 h
    · have h := gx_f h hc
      refine gw_aload_n hC dX10_feedNumber_7 rfl 0 rfl ?_
      refine gw_get hC cl_X10 fg_X10_67 (hw.lt (by decide)) (gc_0 hw _) (gv_X10_9 _ _ _) dX10_feedNumber_8 ?_
      refine gw_iconst (v := 0) hC dX10_feedNumber_11 (by decide) ?_
      refine gw_aload_n hC dX10_feedNumber_12 rfl 0 rfl ?_
      refine gw_get hC cl_X10 fg_X10_44 (hw.lt (by decide)) (gc_0 hw _) (gv_X10_4 _ _ _) dX10_feedNumber_13 ?_
      refine gw_alen (v := 300) hC (hw.lt (by decide)) (gc_a3 hw (by decide) _) (gt_0 hw) rfl dX10_feedNumber_16 ?_
      refine gw_iconst (v := 1) hC dX10_feedNumber_17 (by decide) ?_
      refine gw_isub hC dX10_feedNumber_18 ?_
      refine gw_calli (gx_rS hC (n := 3) (As := [.int (M 0 9), .int 0, .int (300 - 1)]) (rest := []) (fun sz => c_X10_within hw  h sz) cs_X10_81_X10_within (by rw [hR]; exact rr_X10_feedNumber_X10_within) rfl rfl (Nat.le_of_ble_eq_true rfl) dX10_feedNumber_19) ?_
      intro r1 m2 ⟨hm2, h⟩
      rw [hm2]
      refine gw_if_eq (tgt := 51) hC dX10_feedNumber_22 (by decide) (fun hc => ?_) (fun hc => ?_)
      · have h := gx_t h hc
        exact J_X10_feedNumber_51 hC hw hR hr ih M v1 v2 h
      · have h := gx_f h hc
        refine gw_aload_n hC dX10_feedNumber_25 rfl 0 rfl ?_
        refine gw_get hC cl_X10 fg_X10_44 (hw.lt (by decide)) (gc_0 hw _) (gv_X10_4 _ _ _) dX10_feedNumber_26 ?_
        refine gw_aload_n hC dX10_feedNumber_29 rfl 0 rfl ?_
        refine gw_get hC cl_X10 fg_X10_67 (hw.lt (by decide)) (gc_0 hw _) (gv_X10_9 _ _ _) dX10_feedNumber_30 ?_
        refine gw_iload_n hC dX10_feedNumber_33 rfl 1 rfl ?_
        refine gw_iload_n hC dX10_feedNumber_34 rfl 2 rfl ?_
        refine gw_iushr hC dX10_feedNumber_35 rfl ?_
        refine gw_sipush (v := 255) hC dX10_feedNumber_36 (by decide) ?_
        refine gw_iand hC dX10_feedNumber_39 ?_
        obtain ⟨hi, h⟩ := h
        refine gw_iast hC (hw.lt (by decide)) (gc_a3 hw (by decide)) (gt_0 hw) hi dX10_feedNumber_40 ?_
        refine gw_nmM (fun M4 hM4 => ?_)
        have h := h M4 hM4
        refine gw_aload_n hC dX10_feedNumber_41 rfl 0 rfl ?_
        refine gw_dup hC dX10_feedNumber_42 rfl ?_
        refine gw_get hC cl_X10 fg_X10_67 (hw.lt (by decide)) (gc_0 hw _) (gv_X10_9 _ _ _) dX10_feedNumber_43 ?_
        refine gw_iconst (v := 1) hC dX10_feedNumber_46 (by decide) ?_
        refine gw_iadd hC dX10_feedNumber_47 ?_
        refine gw_put hC cl_X10 fp_X10_67 (hw.lt (by decide)) (gc_0 hw _) ((gc_0 hw _).trans (gs_X10_9 _ _ _ _)) rfl rfl (by simp [fs_X10]) dX10_feedNumber_48 ?_
        refine gw_nmM (fun M5 hM5 => ?_)
        have h := h M5 hM5
        exact J_X10_feedNumber_51 hC hw hR hr ih M5 v1 v2 h
set_option maxRecDepth 20000 in
theorem J_X10_feedNumber {z : gx_X} {d : gx_D} {w : gx_V} {ca : Nat → ClassId} (hC : gx_C z d w cX10_feedNumber 3 RX10) (hw : gx_isC ca w) (hR : gx_R z = rm_X10_feedNumber) (hr : (gx_me z).sig.returnType = none)   {M : gx_M} {v1 : Int32} {Q : gx_M → Prop} (h : T_X10_feedNumber M v1 Q) : GW z w 3 (gx_Qv w Q (gx_s z).heap.size) M 0 [(0, .ref (gx_ad w 0)), (1, .int v1)] [] := by
  unfold T_X10_feedNumber at h
  refine gw_bipush (v := 24) hC dX10_feedNumber_0 (by decide) ?_
  refine gw_istore_n (lv' := [(2, .int 24), (0, .ref (gx_ad w 0)), (1, .int v1)]) hC dX10_feedNumber_2 rfl (by decide) rfl ?_
  obtain ⟨k6, h⟩ := h
  refine gw_sub (lv' := [(0, .ref (gx_ad w 0)), (1, .int v1), (2, .int 24)]) [1, 2, 0] rfl ?_
  exact J_X10_feedNumber_3 hC hw hR hr  k6 M v1 24 h
theorem c_X10_feedNumber {l : Launch} {d : gx_D} {w : gx_V} {ca : Nat → ClassId} (hw : gx_isC ca w)   {M : gx_M} {v1 : Int32} {Q : gx_M → Prop} (h : T_X10_feedNumber M v1 Q) : gx_Mv l d w yX10_feedNumber cX10_feedNumber 3 rm_X10_feedNumber [.ref (gx_ad w 0), .int v1] M Q := fun sz =>
  gx_of (own := RX10) (by decide +kernel) rfl (Nat.le_of_ble_eq_true rfl) (fun z hC hl hR hsz hr => by subst hsz; exact J_X10_feedNumber hC hw hR hr  h) rfl
set_option maxRecDepth 20000 in
theorem J_X10_feed {z : gx_X} {d : gx_D} {w : gx_V} {ca : Nat → ClassId} (hC : gx_C z d w cX10_feed 6 RX10) (hw : gx_isC ca w) (hR : gx_R z = rm_X10_feed) (hr : (gx_me z).sig.returnType = (some .int))   {M : gx_M} {v1 : Int32} {v2 : Int32} {v3 : Int32} {v4 : Int32} {v5 : Int32} {Q : Int32 → gx_M → Prop} (h : T_X10_feed M v1 v2 v3 v4 v5 Q) : GW z w 6 (gx_Qi w Q (gx_s z).heap.size) M 0 [(0, .ref (gx_ad w 0)), (1, .int v1), (2, .int v2), (3, .int v3), (4, .int v4), (5, .int v5)] [] := by
  unfold T_X10_feed at h
  refine gw_aload_n hC dX10_feed_0 rfl 0 rfl ?_
  refine gw_get hC cl_X10 fg_X10_67 (hw.lt (by decide)) (gc_0 hw _) (gv_X10_9 _ _ _) dX10_feed_1 ?_
  refine gw_sipush (v := 280) hC dX10_feed_4 (by decide) ?_
  refine gw_icmp_le (tgt := 12) hC dX10_feed_7 (by decide) (fun hc => ?_) (fun hc => ?_)
  · have h := gx_t h hc
    refine gw_aload_n hC dX10_feed_12 rfl 0 rfl ?_
    refine gw_iload_n hC dX10_feed_13 rfl 1 rfl ?_
    refine gw_callv (gx_rV hC (n := 1) (As := [.int v1]) (rest := []) (fun sz => c_X10_feedNumber hw  h sz) cv_X10_141_X10_feedNumber (by rw [hR]; exact rr_X10_feed_X10_feedNumber) ⟨(hw.lt (by decide)), _, _, _, _, gc_0 hw _, cl_X10.1⟩ rfl rfl (Nat.le_of_ble_eq_true rfl) dX10_feed_14) ?_
    intro M1 h
    refine gw_aload_n hC dX10_feed_17 rfl 0 rfl ?_
    refine gw_iload_n hC dX10_feed_18 rfl 2 rfl ?_
    refine gw_callv (gx_rV hC (n := 1) (As := [.int v2]) (rest := []) (fun sz => c_X10_feedNumber hw  h sz) cv_X10_141_X10_feedNumber (by rw [hR]; exact rr_X10_feed_X10_feedNumber) ⟨(hw.lt (by decide)), _, _, _, _, gc_0 hw _, cl_X10.1⟩ rfl rfl (Nat.le_of_ble_eq_true rfl) dX10_feed_19) ?_
    intro M2 h
    refine gw_aload_n hC dX10_feed_22 rfl 0 rfl ?_
    refine gw_iload_n hC dX10_feed_23 rfl 3 rfl ?_
    refine gw_callv (gx_rV hC (n := 1) (As := [.int v3]) (rest := []) (fun sz => c_X10_feedNumber hw  h sz) cv_X10_141_X10_feedNumber (by rw [hR]; exact rr_X10_feed_X10_feedNumber) ⟨(hw.lt (by decide)), _, _, _, _, gc_0 hw _, cl_X10.1⟩ rfl rfl (Nat.le_of_ble_eq_true rfl) dX10_feed_24) ?_
    intro M3 h
    refine gw_aload_n hC dX10_feed_27 rfl 0 rfl ?_
    refine gw_iload hC dX10_feed_28 4 rfl ?_
    refine gw_callv (gx_rV hC (n := 1) (As := [.int v4]) (rest := []) (fun sz => c_X10_feedNumber hw  h sz) cv_X10_141_X10_feedNumber (by rw [hR]; exact rr_X10_feed_X10_feedNumber) ⟨(hw.lt (by decide)), _, _, _, _, gc_0 hw _, cl_X10.1⟩ rfl rfl (Nat.le_of_ble_eq_true rfl) dX10_feed_30) ?_
    intro M4 h
    refine gw_aload_n hC dX10_feed_33 rfl 0 rfl ?_
    refine gw_iload hC dX10_feed_34 5 rfl ?_
    refine gw_callv (gx_rV hC (n := 1) (As := [.int v5]) (rest := []) (fun sz => c_X10_feedNumber hw  h sz) cv_X10_141_X10_feedNumber (by rw [hR]; exact rr_X10_feed_X10_feedNumber) ⟨(hw.lt (by decide)), _, _, _, _, gc_0 hw _, cl_X10.1⟩ rfl rfl (Nat.le_of_ble_eq_true rfl) dX10_feed_36) ?_
    intro M5 h
    refine gw_aload_n hC dX10_feed_39 rfl 0 rfl ?_
    refine gw_get hC cl_X10 fg_X10_67 (hw.lt (by decide)) (gc_0 hw _) (gv_X10_9 _ _ _) dX10_feed_40 ?_
    exact gw_iret hC hr dX10_feed_43 h
  · have h := gx_f h hc
    refine gw_iconst (v := (-1)) hC dX10_feed_10 (by decide) ?_
    exact gw_iret hC hr dX10_feed_11 h
theorem c_X10_feed {l : Launch} {d : gx_D} {w : gx_V} {ca : Nat → ClassId} (hw : gx_isC ca w)   {M : gx_M} {v1 : Int32} {v2 : Int32} {v3 : Int32} {v4 : Int32} {v5 : Int32} {Q : Int32 → gx_M → Prop} (h : T_X10_feed M v1 v2 v3 v4 v5 Q) : gx_Mi l d w yX10_feed cX10_feed 6 .int rm_X10_feed [.ref (gx_ad w 0), .int v1, .int v2, .int v3, .int v4, .int v5] M Q := fun sz =>
  gx_of (own := RX10) (by decide +kernel) rfl (Nat.le_of_ble_eq_true rfl) (fun z hC hl hR hsz hr => by subst hsz; exact J_X10_feed hC hw hR hr  h) rfl
set_option maxRecDepth 20000 in
theorem J_X10_end {z : gx_X} {d : gx_D} {w : gx_V} {ca : Nat → ClassId} (hC : gx_C z d w cX10_end 2 RX10) (hw : gx_isC ca w) (hR : gx_R z = rm_X10_end) (hr : (gx_me z).sig.returnType = (some .int))   {M : gx_M} {v1 : Int32} {Q : Int32 → gx_M → Prop} (h : T_X10_end M v1 Q) : GW z w 2 (gx_Qi w Q (gx_s z).heap.size) M 0 [(0, .ref (gx_ad w 0)), (1, .int v1)] [] := by
  unfold T_X10_end at h
  refine gw_iload_n hC dX10_end_0 rfl 1 rfl ?_
  refine gw_iconst (v := 0) hC dX10_end_1 (by decide) ?_
  refine gw_aload_n hC dX10_end_2 rfl 0 rfl ?_
  refine gw_get hC cl_X10 fg_X10_67 (hw.lt (by decide)) (gc_0 hw _) (gv_X10_9 _ _ _) dX10_end_3 ?_
  refine gw_calli (gx_rS hC (n := 3) (As := [.int v1, .int 0, .int (M 0 9)]) (rest := []) (fun sz => c_X10_within hw  h sz) cs_X10_81_X10_within (by rw [hR]; exact rr_X10_end_X10_within) rfl rfl (Nat.le_of_ble_eq_true rfl) dX10_end_6) ?_
  intro r1 m2 ⟨hm2, h⟩
  rw [hm2]
  refine gw_if_ne (tgt := 14) hC dX10_end_9 (by decide) (fun hc => ?_) (fun hc => ?_)
  · have h := gx_f h hc
    refine gw_aload_n hC dX10_end_14 rfl 0 rfl ?_
    refine gw_iload_n hC dX10_end_15 rfl 1 rfl ?_
    refine gw_put hC cl_X10 fp_X10_67 (hw.lt (by decide)) (gc_0 hw _) ((gc_0 hw _).trans (gs_X10_9 _ _ _ _)) rfl rfl (by simp [fs_X10]) dX10_end_16 ?_
    refine gw_nmM (fun M3 hM3 => ?_)
    have h := h M3 hM3
    refine gw_iload_n hC dX10_end_19 rfl 1 rfl ?_
    exact gw_iret hC hr dX10_end_20 h
  · have h := gx_t h hc
    refine gw_iconst (v := (-1)) hC dX10_end_12 (by decide) ?_
    exact gw_iret hC hr dX10_end_13 h
theorem c_X10_end {l : Launch} {d : gx_D} {w : gx_V} {ca : Nat → ClassId} (hw : gx_isC ca w)   {M : gx_M} {v1 : Int32} {Q : Int32 → gx_M → Prop} (h : T_X10_end M v1 Q) : gx_Mi l d w yX10_end cX10_end 2 .int rm_X10_end [.ref (gx_ad w 0), .int v1] M Q := fun sz =>
  gx_of (own := RX10) (by decide +kernel) rfl (Nat.le_of_ble_eq_true rfl) (fun z hC hl hR hsz hr => by subst hsz; exact J_X10_end hC hw hR hr  h) rfl
set_option maxRecDepth 20000 in
theorem J_X10_text {z : gx_X} {d : gx_D} {w : gx_V} {ca : Nat → ClassId} (hC : gx_C z d w cX10_text 1 RX10) (hw : gx_isC ca w) (hR : gx_R z = rm_X10_text) (hr : (gx_me z).sig.returnType = (some .int))   {M : gx_M}  {Q : Int32 → gx_M → Prop} (h : T_X10_text M  Q) : GW z w 1 (gx_Qi w Q (gx_s z).heap.size) M 0 [(0, .ref (gx_ad w 0))] [] := by
  unfold T_X10_text at h
  refine gw_aload_n hC dX10_text_0 rfl 0 rfl ?_
  refine gw_get hC cl_X10 fg_X10_20 (hw.lt (by decide)) (gc_0 hw _) (gv_X10_1 _ _ _) dX10_text_1 ?_
  refine gw_get hC cl_X8 fg_X10_145 (hw.lt (by decide)) (gc_Se hw (by decide) _) (gv_X8_8 _ _ _) dX10_text_4 ?_
  refine gw_iconst (v := 0) hC dX10_text_7 (by decide) ?_
  refine gw_iconst (v := 3) hC dX10_text_8 (by decide) ?_
  refine gw_calli (gx_rS hC (n := 3) (As := [.int (M 34 8), .int 0, .int 3]) (rest := []) (fun sz => c_X10_within hw  h sz) cs_X10_81_X10_within (by rw [hR]; exact rr_X10_text_X10_within) rfl rfl (Nat.le_of_ble_eq_true rfl) dX10_text_9) ?_
  intro r1 m2 ⟨hm2, h⟩
  rw [hm2]
  refine gw_if_ne (tgt := 17) hC dX10_text_12 (by decide) (fun hc => ?_) (fun hc => ?_)
  · have h := gx_f h hc
    refine gw_aload_n hC dX10_text_17 rfl 0 rfl ?_
    refine gw_get hC cl_X10 fg_X10_30 (hw.lt (by decide)) (gc_0 hw _) (gv_X10_3 _ _ _) dX10_text_18 ?_
    refine gw_aload_n hC dX10_text_21 rfl 0 rfl ?_
    refine gw_get hC cl_X10 fg_X10_10 (hw.lt (by decide)) (gc_0 hw _) (gv_X10_0 _ _ _) dX10_text_22 ?_
    refine gw_get hC cl_X1 fg_X10_148 (hw.lt (by decide)) (gc_1 hw _) (gv_X1_1 _ _ _) dX10_text_25 ?_
    refine gw_aload_n hC dX10_text_28 rfl 0 rfl ?_
    refine gw_get hC cl_X10 fg_X10_20 (hw.lt (by decide)) (gc_0 hw _) (gv_X10_1 _ _ _) dX10_text_29 ?_
    refine gw_get hC cl_X8 fg_X10_145 (hw.lt (by decide)) (gc_Se hw (by decide) _) (gv_X8_8 _ _ _) dX10_text_32 ?_
    obtain ⟨hi, h⟩ := h
    have hb3 := vp_lt hi
    refine gw_aald hC (hw.lt (by decide)) (gc_15 hw _) (gt_5 hw) rfl hi dX10_text_35 ?_
    refine gw_rr (o' := 16 + (M 34 8).toNatClampNeg) (by omega) ?_
    refine gw_aload_n hC dX10_text_36 rfl 0 rfl ?_
    refine gw_get hC cl_X10 fg_X10_67 (hw.lt (by decide)) (gc_0 hw _) (gv_X10_9 _ _ _) dX10_text_37 ?_
    refine gw_callv (gx_rV hC (n := 2) (As := [.ref (gx_ad w (16 + (M 34 8).toNatClampNeg)), .int (M 0 9)]) (rest := []) (fun sz => c_X5_read hw ⟨by omega, by omega⟩ h sz) cv_X10_152_X5_read (by rw [hR]; exact rr_X10_text_X5_read) ⟨(hw.lt (by decide)), _, _, _, _, gc_4 hw _, cl_X5.1⟩ rfl rfl (Nat.le_of_ble_eq_true rfl) dX10_text_40) ?_
    intro M4 h
    refine gw_aload_n hC dX10_text_43 rfl 0 rfl ?_
    refine gw_iconst (v := 0) hC dX10_text_44 (by decide) ?_
    refine gw_put hC cl_X10 fp_X10_67 (hw.lt (by decide)) (gc_0 hw _) ((gc_0 hw _).trans (gs_X10_9 _ _ _ _)) rfl rfl (by simp [fs_X10]) dX10_text_45 ?_
    refine gw_nmM (fun M5 hM5 => ?_)
    have h := h M5 hM5
    refine gw_aload_n hC dX10_text_48 rfl 0 rfl ?_
    refine gw_aload_n hC dX10_text_49 rfl 0 rfl ?_
    refine gw_get hC cl_X10 fg_X10_30 (hw.lt (by decide)) (gc_0 hw _) (gv_X10_3 _ _ _) dX10_text_50 ?_
    refine gw_get hC cl_X5 fg_X10_156 (hw.lt (by decide)) (gc_4 hw _) (gv_X5_14 _ _ _) dX10_text_53 ?_
    refine gw_put hC cl_X10 fp_X10_71 (hw.lt (by decide)) (gc_0 hw _) ((gc_0 hw _).trans (gs_X10_10 _ _ _ _)) rfl rfl (by simp [fs_X10]) dX10_text_56 ?_
    refine gw_nmM (fun M6 hM6 => ?_)
    have h := h M6 hM6
    refine gw_aload_n hC dX10_text_59 rfl 0 rfl ?_
    refine gw_aload_n hC dX10_text_60 rfl 0 rfl ?_
    refine gw_get hC cl_X10 fg_X10_30 (hw.lt (by decide)) (gc_0 hw _) (gv_X10_3 _ _ _) dX10_text_61 ?_
    refine gw_get hC cl_X5 fg_X10_159 (hw.lt (by decide)) (gc_4 hw _) (gv_X5_15 _ _ _) dX10_text_64 ?_
    refine gw_put hC cl_X10 fp_X10_74 (hw.lt (by decide)) (gc_0 hw _) ((gc_0 hw _).trans (gs_X10_11 _ _ _ _)) rfl rfl (by simp [fs_X10]) dX10_text_67 ?_
    refine gw_nmM (fun M7 hM7 => ?_)
    have h := h M7 hM7
    refine gw_aload_n hC dX10_text_70 rfl 0 rfl ?_
    refine gw_get hC cl_X10 fg_X10_30 (hw.lt (by decide)) (gc_0 hw _) (gv_X10_3 _ _ _) dX10_text_71 ?_
    refine gw_get hC cl_X5 fg_X10_156 (hw.lt (by decide)) (gc_4 hw _) (gv_X5_14 _ _ _) dX10_text_74 ?_
    refine gw_if_eq (tgt := 82) hC dX10_text_77 (by decide) (fun hc => ?_) (fun hc => ?_)
    · have h := gx_t h hc
      refine gw_aload_n hC dX10_text_82 rfl 0 rfl ?_
      refine gw_get hC cl_X10 fg_X10_20 (hw.lt (by decide)) (gc_0 hw _) (gv_X10_1 _ _ _) dX10_text_83 ?_
      refine gw_dup hC dX10_text_86 rfl ?_
      refine gw_get hC cl_X8 fg_X10_145 (hw.lt (by decide)) (gc_Se hw (by decide) _) (gv_X8_8 _ _ _) dX10_text_87 ?_
      refine gw_iconst (v := 1) hC dX10_text_90 (by decide) ?_
      refine gw_iadd hC dX10_text_91 ?_
      refine gw_put hC cl_X8 fp_X10_145 (hw.lt (by decide)) (gc_Se hw (by decide) _) ((gc_Se hw (by decide) _).trans (gs_X8_8 _ _ _ _)) rfl rfl (by simp [fs_X8]) dX10_text_92 ?_
      refine gw_nmM (fun M8 hM8 => ?_)
      have h := h M8 hM8
      refine gw_aload_n hC dX10_text_95 rfl 0 rfl ?_
      refine gw_get hC cl_X10 fg_X10_20 (hw.lt (by decide)) (gc_0 hw _) (gv_X10_1 _ _ _) dX10_text_96 ?_
      refine gw_get hC cl_X8 fg_X10_145 (hw.lt (by decide)) (gc_Se hw (by decide) _) (gv_X8_8 _ _ _) dX10_text_99 ?_
      refine gw_iconst (v := 1) hC dX10_text_102 (by decide) ?_
      refine gw_isub hC dX10_text_103 ?_
      exact gw_iret hC hr dX10_text_104 h
    · have h := gx_f h hc
      refine gw_iconst (v := (-1)) hC dX10_text_80 (by decide) ?_
      exact gw_iret hC hr dX10_text_81 h
  · have h := gx_t h hc
    refine gw_iconst (v := (-1)) hC dX10_text_15 (by decide) ?_
    exact gw_iret hC hr dX10_text_16 h
theorem c_X10_text {l : Launch} {d : gx_D} {w : gx_V} {ca : Nat → ClassId} (hw : gx_isC ca w)   {M : gx_M}  {Q : Int32 → gx_M → Prop} (h : T_X10_text M  Q) : gx_Mi l d w yX10_text cX10_text 1 .int rm_X10_text [.ref (gx_ad w 0)] M Q := fun sz =>
  gx_of (own := RX10) (by decide +kernel) rfl (Nat.le_of_ble_eq_true rfl) (fun z hC hl hR hsz hr => by subst hsz; exact J_X10_text hC hw hR hr  h) rfl
set_option maxRecDepth 20000 in
theorem J_X10_fault {z : gx_X} {d : gx_D} {w : gx_V} {ca : Nat → ClassId} (hC : gx_C z d w cX10_fault 2 RX10) (hw : gx_isC ca w) (hR : gx_R z = rm_X10_fault) (hr : (gx_me z).sig.returnType = (some .int))   {M : gx_M} {v1 : Int32} {Q : Int32 → Prop} (h : T_X10_fault M v1 Q) : GW z w 2 (gx_Qi w (fun r M1 => M1 = M ∧ Q r) (gx_s z).heap.size) M 0 [(0, .ref (gx_ad w 0)), (1, .int v1)] [] := by
  unfold T_X10_fault at h
  refine gw_iload_n hC dX10_fault_0 rfl 1 rfl ?_
  refine gw_if_ne (tgt := 9) hC dX10_fault_1 (by decide) (fun hc => ?_) (fun hc => ?_)
  · have h := gx_f h hc
    refine gw_iload_n hC dX10_fault_9 rfl 1 rfl ?_
    refine gw_iconst (v := 1) hC dX10_fault_10 (by decide) ?_
    refine gw_icmp_ne (tgt := 21) hC dX10_fault_11 (by decide) (fun hc => ?_) (fun hc => ?_)
    · have h := gx_f h hc
      refine gw_iconst (v := (-1)) hC dX10_fault_21 (by decide) ?_
      exact gw_iret hC hr dX10_fault_22 ⟨rfl, h⟩
    · have h := gx_t h hc
      refine gw_aload_n hC dX10_fault_14 rfl 0 rfl ?_
      refine gw_get hC cl_X10 fg_X10_74 (hw.lt (by decide)) (gc_0 hw _) (gv_X10_11 _ _ _) dX10_fault_15 ?_
      refine gw_goto (tgt := 22) hC dX10_fault_18 (by decide) ?_
      exact gw_iret hC hr dX10_fault_22 ⟨rfl, h⟩
  · have h := gx_t h hc
    refine gw_aload_n hC dX10_fault_4 rfl 0 rfl ?_
    refine gw_get hC cl_X10 fg_X10_71 (hw.lt (by decide)) (gc_0 hw _) (gv_X10_10 _ _ _) dX10_fault_5 ?_
    exact gw_iret hC hr dX10_fault_8 ⟨rfl, h⟩
theorem c_X10_fault {l : Launch} {d : gx_D} {w : gx_V} {ca : Nat → ClassId} (hw : gx_isC ca w)   {M : gx_M} {v1 : Int32} {Q : Int32 → Prop} (h : T_X10_fault M v1 Q) : gx_Mi l d w yX10_fault cX10_fault 2 .int rm_X10_fault [.ref (gx_ad w 0), .int v1] M (fun r M1 => M1 = M ∧ Q r) := fun sz =>
  gx_of (own := RX10) (by decide +kernel) rfl (Nat.le_of_ble_eq_true rfl) (fun z hC hl hR hsz hr => by subst hsz; exact J_X10_fault hC hw hR hr  h) rfl
set_option maxRecDepth 20000 in
theorem J_X10_by {z : gx_X} {d : gx_D} {w : gx_V} {ca : Nat → ClassId} (hC : gx_C z d w cX10_by 2 RX10) (hw : gx_isC ca w) (hR : gx_R z = rm_X10_by) (hr : (gx_me z).sig.returnType = (some .boolean))   {M : gx_M} {v1 : Int32} {Q : Int32 → gx_M → Prop} (h : T_X10_by M v1 Q) : GW z w 2 (gx_Qi w Q (gx_s z).heap.size) M 0 [(0, .ref (gx_ad w 0)), (1, .int v1)] [] := by
  unfold T_X10_by at h
  refine gw_iload_n hC dX10_by_0 rfl 1 rfl ?_
  refine gw_iconst (v := (-1)) hC dX10_by_1 (by decide) ?_
  refine gw_aload_n hC dX10_by_2 rfl 0 rfl ?_
  refine gw_get hC cl_X10 fg_X10_20 (hw.lt (by decide)) (gc_0 hw _) (gv_X10_1 _ _ _) dX10_by_3 ?_
  refine gw_get hC cl_X8 fg_X10_145 (hw.lt (by decide)) (gc_Se hw (by decide) _) (gv_X8_8 _ _ _) dX10_by_6 ?_
  refine gw_iconst (v := 1) hC dX10_by_9 (by decide) ?_
  refine gw_isub hC dX10_by_10 ?_
  refine gw_calli (gx_rS hC (n := 3) (As := [.int v1, .int (-1), .int ((M 34 8) - 1)]) (rest := []) (fun sz => c_X10_within hw  h sz) cs_X10_81_X10_within (by rw [hR]; exact rr_X10_by_X10_within) rfl rfl (Nat.le_of_ble_eq_true rfl) dX10_by_11) ?_
  intro r1 m2 ⟨hm2, h⟩
  rw [hm2]
  refine gw_if_ne (tgt := 19) hC dX10_by_14 (by decide) (fun hc => ?_) (fun hc => ?_)
  · have h := gx_f h hc
    refine gw_aload_n hC dX10_by_19 rfl 0 rfl ?_
    refine gw_get hC cl_X10 fg_X10_20 (hw.lt (by decide)) (gc_0 hw _) (gv_X10_1 _ _ _) dX10_by_20 ?_
    refine gw_iload_n hC dX10_by_23 rfl 1 rfl ?_
    refine gw_put hC cl_X8 fp_X10_162 (hw.lt (by decide)) (gc_Se hw (by decide) _) ((gc_Se hw (by decide) _).trans (gs_X8_9 _ _ _ _)) rfl rfl (by simp [fs_X8]) dX10_by_24 ?_
    refine gw_nmM (fun M3 hM3 => ?_)
    have h := h M3 hM3
    refine gw_iconst (v := 1) hC dX10_by_27 (by decide) ?_
    exact gw_zret hC hr rfl dX10_by_28 h
  · have h := gx_t h hc
    refine gw_iconst (v := 0) hC dX10_by_17 (by decide) ?_
    exact gw_zret hC hr rfl dX10_by_18 h
theorem c_X10_by {l : Launch} {d : gx_D} {w : gx_V} {ca : Nat → ClassId} (hw : gx_isC ca w)   {M : gx_M} {v1 : Int32} {Q : Int32 → gx_M → Prop} (h : T_X10_by M v1 Q) : gx_Mi l d w yX10_by cX10_by 2 .boolean rm_X10_by [.ref (gx_ad w 0), .int v1] M Q := fun sz =>
  gx_of (own := RX10) (by decide +kernel) rfl (Nat.le_of_ble_eq_true rfl) (fun z hC hl hR hsz hr => by subst hsz; exact J_X10_by hC hw hR hr  h) rfl
set_option maxRecDepth 20000 in
theorem J_X10_isSpan {z : gx_X} {d : gx_D} {w : gx_V} {ca : Nat → ClassId} (hC : gx_C z d w cX10_isSpan 1 RX10) (hw : gx_isC ca w) (hR : gx_R z = rm_X10_isSpan) (hr : (gx_me z).sig.returnType = (some .boolean))   {M : gx_M} {v0 : Int32} {Q : Int32 → Prop} (h : T_X10_isSpan M v0 Q) : GW z w 1 (gx_Qi w (fun r M1 => M1 = M ∧ Q r) (gx_s z).heap.size) M 0 [(0, .int v0)] [] := by
  unfold T_X10_isSpan at h
  refine gw_iload_n hC dX10_isSpan_0 rfl 0 rfl ?_
  refine gw_iconst (v := 1) hC dX10_isSpan_1 (by decide) ?_
  refine gw_sipush (v := 2000) hC dX10_isSpan_2 (by decide) ?_
  refine gw_calli (gx_rS hC (n := 3) (As := [.int v0, .int 1, .int 2000]) (rest := []) (fun sz => c_X10_within hw  h sz) cs_X10_81_X10_within (by rw [hR]; exact rr_X10_isSpan_X10_within) rfl rfl (Nat.le_of_ble_eq_true rfl) dX10_isSpan_5) ?_
  intro r1 m2 ⟨hm2, h⟩
  rw [hm2]
  obtain ⟨hz, h⟩ := h
  exact gw_zret hC hr (gx_nz hz) dX10_isSpan_8 ⟨rfl, h⟩
theorem c_X10_isSpan {l : Launch} {d : gx_D} {w : gx_V} {ca : Nat → ClassId} (hw : gx_isC ca w)   {M : gx_M} {v0 : Int32} {Q : Int32 → Prop} (h : T_X10_isSpan M v0 Q) : gx_Mi l d w yX10_isSpan cX10_isSpan 1 .boolean rm_X10_isSpan [.int v0] M (fun r M1 => M1 = M ∧ Q r) := fun sz =>
  gx_of (own := RX10) (by decide +kernel) rfl (Nat.le_of_ble_eq_true rfl) (fun z hC hl hR hsz hr => by subst hsz; exact J_X10_isSpan hC hw hR hr  h) rfl
set_option maxRecDepth 20000 in
theorem J_X10_swept_23 {z : gx_X} {d : gx_D} {w : gx_V} {ca : Nat → ClassId} (hC : gx_C z d w cX10_swept 4 RX10) (hw : gx_isC ca w) (hR : gx_R z = rm_X10_swept) (hr : (gx_me z).sig.returnType = (some .int))  {Q : Int32 → gx_M → Prop} {K58 : gx_M → Int32 → Prop} (hK58 : ∀ (M : gx_M) (v2 : Int32), K58 M v2 → GW z w 4 (gx_Qi w Q (gx_s z).heap.size) M 58 [(0, .ref (gx_ad w 0)), (2, .int v2)] []) : ∀ (n : Nat) (M : gx_M) (v1 : Int32) (v2 : Int32) (v3 : Int32) , T_X10_swept_23 Q K58 n M v1 v2 v3 → GW z w 4 (gx_Qi w Q (gx_s z).heap.size) M 23 [(0, .ref (gx_ad w 0)), (1, .int v1), (2, .int v2), (3, .int v3)] [] := by
  intro n
  induction n with
  | zero =>
    intro M v1 v2 v3 h
    exact h.elim
  | succ n ih =>
    intro M v1 v2 v3 h
    rw [T_X10_swept_23] at h
    refine gw_iload_n hC dX10_swept_23 rfl 3 rfl ?_
    refine gw_iload_n hC dX10_swept_24 rfl 1 rfl ?_
    refine gw_icmp_ge (tgt := 58) hC dX10_swept_25 (by decide) (fun hc => ?_) (fun hc => ?_)
    · have h := gx_t h hc
      refine gw_sub (lv' := [(0, .ref (gx_ad w 0)), (2, .int v2)]) [0, 2] rfl ?_
      exact hK58 M v2 h
    · have h := gx_f h hc
      refine gw_aload_n hC dX10_swept_28 rfl 0 rfl ?_
      refine gw_get hC cl_X10 fg_X10_10 (hw.lt (by decide)) (gc_0 hw _) (gv_X10_0 _ _ _) dX10_swept_29 ?_
      refine gw_iload_n hC dX10_swept_32 rfl 1 rfl ?_
      refine gw_calli (gx_rV hC (n := 1) (As := [.int v1]) (rest := []) (fun sz => c_X1_next hw  h sz) cv_X10_171_X1_next (by rw [hR]; exact rr_X10_swept_X1_next) ⟨(hw.lt (by decide)), _, _, _, _, gc_1 hw _, cl_X1.1⟩ rfl rfl (Nat.le_of_ble_eq_true rfl) dX10_swept_33) ?_
      intro r5 M4 h
      refine gw_if_eq (tgt := 58) hC dX10_swept_36 (by decide) (fun hc => ?_) (fun hc => ?_)
      · have h := gx_t h hc
        refine gw_sub (lv' := [(0, .ref (gx_ad w 0)), (2, .int v2)]) [0, 2] rfl ?_
        exact hK58 M4 v2 h
      · have h := gx_f h hc
        refine gw_iload_n hC dX10_swept_39 rfl 3 rfl ?_
        refine gw_iload_n hC dX10_swept_40 rfl 2 rfl ?_
        refine gw_icmp_ne (tgt := 52) hC dX10_swept_41 (by decide) (fun hc => ?_) (fun hc => ?_)
        · have h := gx_f h hc
          obtain ⟨x6, hx6⟩ : ∃ y : Int32, y = v3 + 1 := ⟨_, rfl⟩
          have h := h x6 hx6
          refine gw_iinc (v := x6) (lv' := [(3, .int x6), (0, .ref (gx_ad w 0)), (1, .int v1), (2, .int v2)]) hC dX10_swept_52 (k := 3) rfl (by rw [hx6]; rfl) (by decide) rfl ?_
          refine gw_goto (tgt := 23) hC dX10_swept_55 (by decide) ?_
          refine gw_sub (lv' := [(0, .ref (gx_ad w 0)), (1, .int v1), (2, .int v2), (3, .int x6)]) [1, 2, 3, 0] rfl ?_
          exact ih M4 v1 v2 x6 h
        · have h := gx_t h hc
          refine gw_aload_n hC dX10_swept_44 rfl 0 rfl ?_
          refine gw_get hC cl_X10 fg_X10_10 (hw.lt (by decide)) (gc_0 hw _) (gv_X10_0 _ _ _) dX10_swept_45 ?_
          refine gw_get hC cl_X1 fg_X10_174 (hw.lt (by decide)) (gc_1 hw _) (gv_X1_8 _ _ _) dX10_swept_48 ?_
          exact gw_iret hC hr dX10_swept_51 h
set_option maxRecDepth 20000 in
theorem J_X10_swept_58 {z : gx_X} {d : gx_D} {w : gx_V} {ca : Nat → ClassId} (hC : gx_C z d w cX10_swept 4 RX10) (hw : gx_isC ca w) (hR : gx_R z = rm_X10_swept) (hr : (gx_me z).sig.returnType = (some .int))  {Q : Int32 → gx_M → Prop}   (M : gx_M) (v2 : Int32)  (h : T_X10_swept_58 Q  M v2) : GW z w 4 (gx_Qi w Q (gx_s z).heap.size) M 58 [(0, .ref (gx_ad w 0)), (2, .int v2)] [] := by
  unfold T_X10_swept_58 at h
  refine gw_iload_n hC dX10_swept_58 rfl 1 rfl ?_
  refine gw_iconst (v := (-1)) hC dX10_swept_59 (by decide) ?_
  refine gw_icmp_ne (tgt := 73) hC dX10_swept_60 (by decide) (fun hc => ?_) (fun hc => ?_)
  · have h := gx_f h hc
    refine gw_iconst (v := (-1)) hC dX10_swept_73 (by decide) ?_
    exact gw_iret hC hr dX10_swept_74 h
  · have h := gx_t h hc
    refine gw_aload_n hC dX10_swept_63 rfl 0 rfl ?_
    refine gw_get hC cl_X10 fg_X10_10 (hw.lt (by decide)) (gc_0 hw _) (gv_X10_0 _ _ _) dX10_swept_64 ?_
    refine gw_get hC cl_X1 fg_X10_177 (hw.lt (by decide)) (gc_1 hw _) (gv_X1_7 _ _ _) dX10_swept_67 ?_
    refine gw_goto (tgt := 74) hC dX10_swept_70 (by decide) ?_
    exact gw_iret hC hr dX10_swept_74 h
set_option maxRecDepth 20000 in
theorem J_X10_swept {z : gx_X} {d : gx_D} {w : gx_V} {ca : Nat → ClassId} (hC : gx_C z d w cX10_swept 4 RX10) (hw : gx_isC ca w) (hR : gx_R z = rm_X10_swept) (hr : (gx_me z).sig.returnType = (some .int))   {M : gx_M} {v1 : Int32} {v2 : Int32} {Q : Int32 → gx_M → Prop} (h : T_X10_swept M v1 v2 Q) : GW z w 4 (gx_Qi w Q (gx_s z).heap.size) M 0 [(0, .ref (gx_ad w 0)), (1, .int v1), (2, .int v2)] [] := by
  unfold T_X10_swept at h
  refine gw_iload_n hC dX10_swept_0 rfl 1 rfl ?_
  refine gw_calli (gx_rS hC (n := 1) (As := [.int v1]) (rest := []) (fun sz => c_X10_isSpan hw  h sz) cs_X10_165_X10_isSpan (by rw [hR]; exact rr_X10_swept_X10_isSpan) rfl rfl (Nat.le_of_ble_eq_true rfl) dX10_swept_1) ?_
  intro r1 m2 ⟨hm2, h⟩
  rw [hm2]
  refine gw_if_eq (tgt := 12) hC dX10_swept_4 (by decide) (fun hc => ?_) (fun hc => ?_)
  · have h := gx_t h hc
    refine gw_iconst (v := (-1)) hC dX10_swept_12 (by decide) ?_
    exact gw_iret hC hr dX10_swept_13 h
  · have h := gx_f h hc
    refine gw_iload_n hC dX10_swept_7 rfl 2 rfl ?_
    refine gw_iconst (v := (-1)) hC dX10_swept_8 (by decide) ?_
    refine gw_icmp_ge (tgt := 14) hC dX10_swept_9 (by decide) (fun hc => ?_) (fun hc => ?_)
    · have h := gx_t h hc
      refine gw_aload_n hC dX10_swept_14 rfl 0 rfl ?_
      refine gw_get hC cl_X10 fg_X10_10 (hw.lt (by decide)) (gc_0 hw _) (gv_X10_0 _ _ _) dX10_swept_15 ?_
      refine gw_callv (gx_rV hC (n := 0) (As := []) (rest := []) (fun sz => c_X1_restart hw  h sz) cv_X10_168_X1_restart (by rw [hR]; exact rr_X10_swept_X1_restart) ⟨(hw.lt (by decide)), _, _, _, _, gc_1 hw _, cl_X1.1⟩ rfl rfl (Nat.le_of_ble_eq_true rfl) dX10_swept_18) ?_
      intro M3 h
      refine gw_iconst (v := 0) hC dX10_swept_21 (by decide) ?_
      refine gw_istore_n (lv' := [(3, .int 0), (0, .ref (gx_ad w 0)), (1, .int v1), (2, .int v2)]) hC dX10_swept_22 rfl (by decide) rfl ?_
      obtain ⟨k7, h⟩ := h
      refine gw_sub (lv' := [(0, .ref (gx_ad w 0)), (1, .int v1), (2, .int v2), (3, .int 0)]) [1, 2, 3, 0] rfl ?_
      exact J_X10_swept_23 hC hw hR hr (fun M9 v2_8 h => by
          exact J_X10_swept_58 hC hw hR hr  M9 v2_8 h) k7 M3 v1 v2 0 h
    · have h := gx_f h hc
      refine gw_iconst (v := (-1)) hC dX10_swept_12 (by decide) ?_
      exact gw_iret hC hr dX10_swept_13 h
theorem c_X10_swept {l : Launch} {d : gx_D} {w : gx_V} {ca : Nat → ClassId} (hw : gx_isC ca w)   {M : gx_M} {v1 : Int32} {v2 : Int32} {Q : Int32 → gx_M → Prop} (h : T_X10_swept M v1 v2 Q) : gx_Mi l d w yX10_swept cX10_swept 4 .int rm_X10_swept [.ref (gx_ad w 0), .int v1, .int v2] M Q := fun sz =>
  gx_of (own := RX10) (by decide +kernel) rfl (Nat.le_of_ble_eq_true rfl) (fun z hC hl hR hsz hr => by subst hsz; exact J_X10_swept hC hw hR hr  h) rfl
set_option maxRecDepth 20000 in
theorem J_X10_glow {z : gx_X} {d : gx_D} {w : gx_V} {ca : Nat → ClassId} (hC : gx_C z d w cX10_glow 4 RX10) (hw : gx_isC ca w) (hR : gx_R z = rm_X10_glow) (hr : (gx_me z).sig.returnType = (some .int))   {M : gx_M} {v1 : Int32} {v2 : Int32} {v3 : Int32} {Q : Int32 → gx_M → Prop} (h : T_X10_glow M v1 v2 v3 Q) : GW z w 4 (gx_Qi w Q (gx_s z).heap.size) M 0 [(0, .ref (gx_ad w 0)), (1, .int v1), (2, .int v2), (3, .int v3)] [] := by
  unfold T_X10_glow at h
  refine gw_iload_n hC dX10_glow_0 rfl 1 rfl ?_
  refine gw_calli (gx_rS hC (n := 1) (As := [.int v1]) (rest := []) (fun sz => c_X10_isSpan hw  h sz) cs_X10_165_X10_isSpan (by rw [hR]; exact rr_X10_glow_X10_isSpan) rfl rfl (Nat.le_of_ble_eq_true rfl) dX10_glow_1) ?_
  intro r1 m2 ⟨hm2, h⟩
  rw [hm2]
  refine gw_if_eq (tgt := 27) hC dX10_glow_4 (by decide) (fun hc => ?_) (fun hc => ?_)
  · have h := gx_t h hc
    refine gw_iconst (v := (-1)) hC dX10_glow_27 (by decide) ?_
    exact gw_iret hC hr dX10_glow_28 h
  · have h := gx_f h hc
    refine gw_iload_n hC dX10_glow_7 rfl 2 rfl ?_
    refine gw_iconst (v := 0) hC dX10_glow_8 (by decide) ?_
    refine gw_bipush (v := 19) hC dX10_glow_9 (by decide) ?_
    refine gw_calli (gx_rS hC (n := 3) (As := [.int v2, .int 0, .int 19]) (rest := []) (fun sz => c_X10_within hw  h sz) cs_X10_81_X10_within (by rw [hR]; exact rr_X10_glow_X10_within) rfl rfl (Nat.le_of_ble_eq_true rfl) dX10_glow_11) ?_
    intro r3 m4 ⟨hm4, h⟩
    rw [hm4]
    refine gw_if_eq (tgt := 27) hC dX10_glow_14 (by decide) (fun hc => ?_) (fun hc => ?_)
    · have h := gx_t h hc
      refine gw_iconst (v := (-1)) hC dX10_glow_27 (by decide) ?_
      exact gw_iret hC hr dX10_glow_28 h
    · have h := gx_f h hc
      refine gw_iload_n hC dX10_glow_17 rfl 3 rfl ?_
      refine gw_iconst (v := 0) hC dX10_glow_18 (by decide) ?_
      refine gw_bipush (v := 15) hC dX10_glow_19 (by decide) ?_
      refine gw_calli (gx_rS hC (n := 3) (As := [.int v3, .int 0, .int 15]) (rest := []) (fun sz => c_X10_within hw  h sz) cs_X10_81_X10_within (by rw [hR]; exact rr_X10_glow_X10_within) rfl rfl (Nat.le_of_ble_eq_true rfl) dX10_glow_21) ?_
      intro r5 m6 ⟨hm6, h⟩
      rw [hm6]
      refine gw_if_ne (tgt := 29) hC dX10_glow_24 (by decide) (fun hc => ?_) (fun hc => ?_)
      · have h := gx_f h hc
        refine gw_aload_n hC dX10_glow_29 rfl 0 rfl ?_
        refine gw_get hC cl_X10 fg_X10_10 (hw.lt (by decide)) (gc_0 hw _) (gv_X10_0 _ _ _) dX10_glow_30 ?_
        refine gw_aload_n hC dX10_glow_33 rfl 0 rfl ?_
        refine gw_get hC cl_X10 fg_X10_50 (hw.lt (by decide)) (gc_0 hw _) (gv_X10_5 _ _ _) dX10_glow_34 ?_
        refine gw_iload_n hC dX10_glow_37 rfl 1 rfl ?_
        refine gw_callv (gx_rV hC (n := 2) (As := [.ref (gx_ad w 8), .int v1]) (rest := []) (fun sz => c_X1_draw hw  h sz) cv_X10_180_X1_draw (by rw [hR]; exact rr_X10_glow_X1_draw) ⟨(hw.lt (by decide)), _, _, _, _, gc_1 hw _, cl_X1.1⟩ rfl rfl (Nat.le_of_ble_eq_true rfl) dX10_glow_38) ?_
        intro M7 h
        refine gw_aload_n hC dX10_glow_41 rfl 0 rfl ?_
        refine gw_get hC cl_X10 fg_X10_50 (hw.lt (by decide)) (gc_0 hw _) (gv_X10_5 _ _ _) dX10_glow_42 ?_
        refine gw_iload_n hC dX10_glow_45 rfl 2 rfl ?_
        refine gw_iload_n hC dX10_glow_46 rfl 3 rfl ?_
        refine gw_calli (gx_rV hC (n := 2) (As := [.int v2, .int v3]) (rest := []) (fun sz => c_X7_glowOf hw  h sz) cv_X10_184_X7_glowOf (by rw [hR]; exact rr_X10_glow_X7_glowOf) ⟨(hw.lt (by decide)), _, _, _, _, gc_8 hw _, cl_X7.1⟩ rfl rfl (Nat.le_of_ble_eq_true rfl) dX10_glow_47) ?_
        intro r8 m9 ⟨hm9, h⟩
        rw [hm9]
        exact gw_iret hC hr dX10_glow_50 h
      · have h := gx_t h hc
        refine gw_iconst (v := (-1)) hC dX10_glow_27 (by decide) ?_
        exact gw_iret hC hr dX10_glow_28 h
theorem c_X10_glow {l : Launch} {d : gx_D} {w : gx_V} {ca : Nat → ClassId} (hw : gx_isC ca w)   {M : gx_M} {v1 : Int32} {v2 : Int32} {v3 : Int32} {Q : Int32 → gx_M → Prop} (h : T_X10_glow M v1 v2 v3 Q) : gx_Mi l d w yX10_glow cX10_glow 4 .int rm_X10_glow [.ref (gx_ad w 0), .int v1, .int v2, .int v3] M Q := fun sz =>
  gx_of (own := RX10) (by decide +kernel) rfl (Nat.le_of_ble_eq_true rfl) (fun z hC hl hR hsz hr => by subst hsz; exact J_X10_glow hC hw hR hr  h) rfl
set_option maxRecDepth 20000 in
theorem J_X10_lit {z : gx_X} {d : gx_D} {w : gx_V} {ca : Nat → ClassId} (hC : gx_C z d w cX10_lit 4 RX10) (hw : gx_isC ca w) (hR : gx_R z = rm_X10_lit) (hr : (gx_me z).sig.returnType = (some .int))   {M : gx_M} {v1 : Int32} {v2 : Int32} {v3 : Int32} {Q : Int32 → gx_M → Prop} (h : T_X10_lit M v1 v2 v3 Q) : GW z w 4 (gx_Qi w Q (gx_s z).heap.size) M 0 [(0, .ref (gx_ad w 0)), (1, .int v1), (2, .int v2), (3, .int v3)] [] := by
  unfold T_X10_lit at h
  refine gw_iload_n hC dX10_lit_0 rfl 1 rfl ?_
  refine gw_calli (gx_rS hC (n := 1) (As := [.int v1]) (rest := []) (fun sz => c_X10_isSpan hw  h sz) cs_X10_165_X10_isSpan (by rw [hR]; exact rr_X10_lit_X10_isSpan) rfl rfl (Nat.le_of_ble_eq_true rfl) dX10_lit_1) ?_
  intro r1 m2 ⟨hm2, h⟩
  rw [hm2]
  refine gw_if_eq (tgt := 28) hC dX10_lit_4 (by decide) (fun hc => ?_) (fun hc => ?_)
  · have h := gx_t h hc
    refine gw_iconst (v := (-1)) hC dX10_lit_28 (by decide) ?_
    exact gw_iret hC hr dX10_lit_29 h
  · have h := gx_f h hc
    refine gw_iload_n hC dX10_lit_7 rfl 2 rfl ?_
    refine gw_iconst (v := 1) hC dX10_lit_8 (by decide) ?_
    refine gw_sipush (v := 999) hC dX10_lit_9 (by decide) ?_
    refine gw_calli (gx_rS hC (n := 3) (As := [.int v2, .int 1, .int 999]) (rest := []) (fun sz => c_X10_within hw  h sz) cs_X10_81_X10_within (by rw [hR]; exact rr_X10_lit_X10_within) rfl rfl (Nat.le_of_ble_eq_true rfl) dX10_lit_12) ?_
    intro r3 m4 ⟨hm4, h⟩
    rw [hm4]
    refine gw_if_eq (tgt := 28) hC dX10_lit_15 (by decide) (fun hc => ?_) (fun hc => ?_)
    · have h := gx_t h hc
      refine gw_iconst (v := (-1)) hC dX10_lit_28 (by decide) ?_
      exact gw_iret hC hr dX10_lit_29 h
    · have h := gx_f h hc
      refine gw_iload_n hC dX10_lit_18 rfl 3 rfl ?_
      refine gw_iconst (v := (-1)) hC dX10_lit_19 (by decide) ?_
      refine gw_bipush (v := 19) hC dX10_lit_20 (by decide) ?_
      refine gw_calli (gx_rS hC (n := 3) (As := [.int v3, .int (-1), .int 19]) (rest := []) (fun sz => c_X10_within hw  h sz) cs_X10_81_X10_within (by rw [hR]; exact rr_X10_lit_X10_within) rfl rfl (Nat.le_of_ble_eq_true rfl) dX10_lit_22) ?_
      intro r5 m6 ⟨hm6, h⟩
      rw [hm6]
      refine gw_if_ne (tgt := 30) hC dX10_lit_25 (by decide) (fun hc => ?_) (fun hc => ?_)
      · have h := gx_f h hc
        refine gw_aload_n hC dX10_lit_30 rfl 0 rfl ?_
        refine gw_get hC cl_X10 fg_X10_10 (hw.lt (by decide)) (gc_0 hw _) (gv_X10_0 _ _ _) dX10_lit_31 ?_
        refine gw_aload_n hC dX10_lit_34 rfl 0 rfl ?_
        refine gw_get hC cl_X10 fg_X10_50 (hw.lt (by decide)) (gc_0 hw _) (gv_X10_5 _ _ _) dX10_lit_35 ?_
        refine gw_iload_n hC dX10_lit_38 rfl 1 rfl ?_
        refine gw_callv (gx_rV hC (n := 2) (As := [.ref (gx_ad w 8), .int v1]) (rest := []) (fun sz => c_X1_draw hw  h sz) cv_X10_180_X1_draw (by rw [hR]; exact rr_X10_lit_X1_draw) ⟨(hw.lt (by decide)), _, _, _, _, gc_1 hw _, cl_X1.1⟩ rfl rfl (Nat.le_of_ble_eq_true rfl) dX10_lit_39) ?_
        intro M7 h
        refine gw_iload_n hC dX10_lit_42 rfl 3 rfl ?_
        refine gw_iconst (v := (-1)) hC dX10_lit_43 (by decide) ?_
        refine gw_icmp_ne (tgt := 58) hC dX10_lit_44 (by decide) (fun hc => ?_) (fun hc => ?_)
        · have h := gx_f h hc
          refine gw_aload_n hC dX10_lit_58 rfl 0 rfl ?_
          refine gw_get hC cl_X10 fg_X10_50 (hw.lt (by decide)) (gc_0 hw _) (gv_X10_5 _ _ _) dX10_lit_59 ?_
          refine gw_iload_n hC dX10_lit_62 rfl 3 rfl ?_
          refine gw_iload_n hC dX10_lit_63 rfl 2 rfl ?_
          refine gw_calli (gx_rV hC (n := 2) (As := [.int v3, .int v2]) (rest := []) (fun sz => c_X7_bits hw  h sz) cv_X10_190_X7_bits (by rw [hR]; exact rr_X10_lit_X7_bits) ⟨(hw.lt (by decide)), _, _, _, _, gc_8 hw _, cl_X7.1⟩ rfl rfl (Nat.le_of_ble_eq_true rfl) dX10_lit_64) ?_
          intro r8 m9 ⟨hm9, h⟩
          rw [hm9]
          exact gw_iret hC hr dX10_lit_67 h
        · have h := gx_t h hc
          refine gw_aload_n hC dX10_lit_47 rfl 0 rfl ?_
          refine gw_get hC cl_X10 fg_X10_50 (hw.lt (by decide)) (gc_0 hw _) (gv_X10_5 _ _ _) dX10_lit_48 ?_
          refine gw_iload_n hC dX10_lit_51 rfl 2 rfl ?_
          refine gw_calli (gx_rV hC (n := 1) (As := [.int v2]) (rest := []) (fun sz => c_X7_dots hw  h sz) cv_X10_187_X7_dots (by rw [hR]; exact rr_X10_lit_X7_dots) ⟨(hw.lt (by decide)), _, _, _, _, gc_8 hw _, cl_X7.1⟩ rfl rfl (Nat.le_of_ble_eq_true rfl) dX10_lit_52) ?_
          intro r10 m11 ⟨hm11, h⟩
          rw [hm11]
          refine gw_goto (tgt := 67) hC dX10_lit_55 (by decide) ?_
          exact gw_iret hC hr dX10_lit_67 h
      · have h := gx_t h hc
        refine gw_iconst (v := (-1)) hC dX10_lit_28 (by decide) ?_
        exact gw_iret hC hr dX10_lit_29 h
theorem c_X10_lit {l : Launch} {d : gx_D} {w : gx_V} {ca : Nat → ClassId} (hw : gx_isC ca w)   {M : gx_M} {v1 : Int32} {v2 : Int32} {v3 : Int32} {Q : Int32 → gx_M → Prop} (h : T_X10_lit M v1 v2 v3 Q) : gx_Mi l d w yX10_lit cX10_lit 4 .int rm_X10_lit [.ref (gx_ad w 0), .int v1, .int v2, .int v3] M Q := fun sz =>
  gx_of (own := RX10) (by decide +kernel) rfl (Nat.le_of_ble_eq_true rfl) (fun z hC hl hR hsz hr => by subst hsz; exact J_X10_lit hC hw hR hr  h) rfl
set_option maxRecDepth 20000 in
theorem J_X10_takeSamples_13 {z : gx_X} {d : gx_D} {w : gx_V} {ca : Nat → ClassId} (hC : gx_C z d w cX10_takeSamples 5 RX10) (hw : gx_isC ca w) (hR : gx_R z = rm_X10_takeSamples) (hr : (gx_me z).sig.returnType = (some .int))  {Q : Int32 → gx_M → Prop}   : ∀ (n : Nat) (M : gx_M) (v1 : Int32) (v2 : Int32) (v3 : Int32) (v4 : Int32) , T_X10_takeSamples_13 Q  n M v1 v2 v3 v4 → GW z w 5 (gx_Qi w Q (gx_s z).heap.size) M 13 [(0, .ref (gx_ad w 0)), (1, .int v1), (2, .int v2), (3, .int v3), (4, .int v4)] [] := by
  intro n
  induction n with
  | zero =>
    intro M v1 v2 v3 v4 h
    exact h.elim
  | succ n ih =>
    intro M v1 v2 v3 v4 h
    rw [T_X10_takeSamples_13] at h
    refine gw_iload hC dX10_takeSamples_13 4 rfl ?_
    refine gw_aload_n hC dX10_takeSamples_15 rfl 0 rfl ?_
    refine gw_get hC cl_X10 fg_X10_61 (hw.lt (by decide)) (gc_0 hw _) (gv_X10_7 _ _ _) dX10_takeSamples_16 ?_
    refine gw_alen (v := 20) hC (hw.lt (by decide)) (gc_a2 hw (by decide) _) (gt_0 hw) rfl dX10_takeSamples_19 ?_
    refine gw_icmp_ge (tgt := 68) hC dX10_takeSamples_20 (by decide) (fun hc => ?_) (fun hc => ?_)
    · have h := gx_t h hc
      refine gw_iload_n hC dX10_takeSamples_68 rfl 3 rfl ?_
      exact gw_iret hC hr dX10_takeSamples_69 h
    · have h := gx_f h hc
      refine gw_aload_n hC dX10_takeSamples_23 rfl 0 rfl ?_
      refine gw_get hC cl_X10 fg_X10_61 (hw.lt (by decide)) (gc_0 hw _) (gv_X10_7 _ _ _) dX10_takeSamples_24 ?_
      refine gw_iload hC dX10_takeSamples_27 4 rfl ?_
      refine gw_aload_n hC dX10_takeSamples_29 rfl 0 rfl ?_
      refine gw_get hC cl_X10 fg_X10_10 (hw.lt (by decide)) (gc_0 hw _) (gv_X10_0 _ _ _) dX10_takeSamples_30 ?_
      refine gw_iload_n hC dX10_takeSamples_33 rfl 1 rfl ?_
      refine gw_iload_n hC dX10_takeSamples_34 rfl 2 rfl ?_
      refine gw_iload hC dX10_takeSamples_35 4 rfl ?_
      refine gw_aload_n hC dX10_takeSamples_37 rfl 0 rfl ?_
      refine gw_get hC cl_X10 fg_X10_20 (hw.lt (by decide)) (gc_0 hw _) (gv_X10_1 _ _ _) dX10_takeSamples_38 ?_
      refine gw_get hC cl_X8 fg_X10_126 (hw.lt (by decide)) (gc_Se hw (by decide) _) (gv_X8_3 _ _ _) dX10_takeSamples_41 ?_
      refine gw_imul hC dX10_takeSamples_44 ?_
      refine gw_iadd hC dX10_takeSamples_45 ?_
      refine gw_calli (gx_rV hC (n := 2) (As := [.int v1, .int (v2 + (v4 * (M 34 3)))]) (rest := [.int v4, .ref (gx_ad w 10)]) (fun sz => c_X1_outAt hw  h sz) cv_X10_122_X1_outAt (by rw [hR]; exact rr_X10_takeSamples_X1_outAt) ⟨(hw.lt (by decide)), _, _, _, _, gc_1 hw _, cl_X1.1⟩ rfl rfl (Nat.le_of_ble_eq_true rfl) dX10_takeSamples_46) ?_
      intro r4 M3 h
      obtain ⟨hi, h⟩ := h
      refine gw_iast hC (hw.lt (by decide)) (gc_a2 hw (by decide)) (gt_0 hw) hi dX10_takeSamples_49 ?_
      refine gw_nmM (fun M5 hM5 => ?_)
      have h := h M5 hM5
      refine gw_iload_n hC dX10_takeSamples_50 rfl 3 rfl ?_
      refine gw_aload_n hC dX10_takeSamples_51 rfl 0 rfl ?_
      refine gw_get hC cl_X10 fg_X10_61 (hw.lt (by decide)) (gc_0 hw _) (gv_X10_7 _ _ _) dX10_takeSamples_52 ?_
      refine gw_iload hC dX10_takeSamples_55 4 rfl ?_
      obtain ⟨hi, h⟩ := h
      refine gw_iald hC (hw.lt (by decide)) (gc_a2 hw (by decide) _) (gt_0 hw) hi dX10_takeSamples_57 ?_
      refine gw_mmax hC cm_X10_202 cm_st_max cm_ini cm_co_max (by rw [hR]; decide) (by rw [hR]; exact Nat.le_of_ble_eq_true rfl) dX10_takeSamples_58 ?_
      refine gw_nm (fun x6 hx6 => ?_)
      have h := h x6 hx6
      refine gw_istore_n (lv' := [(3, .int x6), (0, .ref (gx_ad w 0)), (1, .int v1), (2, .int v2), (4, .int v4)]) hC dX10_takeSamples_61 rfl (by decide) rfl ?_
      obtain ⟨x7, hx7⟩ : ∃ y : Int32, y = v4 + 1 := ⟨_, rfl⟩
      have h := h x7 hx7
      refine gw_iinc (v := x7) (lv' := [(4, .int x7), (3, .int x6), (0, .ref (gx_ad w 0)), (1, .int v1), (2, .int v2)]) hC dX10_takeSamples_62 (k := 4) rfl (by rw [hx7]; rfl) (by decide) rfl ?_
      refine gw_goto (tgt := 13) hC dX10_takeSamples_65 (by decide) ?_
      refine gw_sub (lv' := [(0, .ref (gx_ad w 0)), (1, .int v1), (2, .int v2), (3, .int x6), (4, .int x7)]) [2, 3, 4, 1, 0] rfl ?_
      exact ih M5 v1 v2 x6 x7 h
set_option maxRecDepth 20000 in
theorem J_X10_takeSamples {z : gx_X} {d : gx_D} {w : gx_V} {ca : Nat → ClassId} (hC : gx_C z d w cX10_takeSamples 5 RX10) (hw : gx_isC ca w) (hR : gx_R z = rm_X10_takeSamples) (hr : (gx_me z).sig.returnType = (some .int))   {M : gx_M} {v1 : Int32} {v2 : Int32} {Q : Int32 → gx_M → Prop} (h : T_X10_takeSamples M v1 v2 Q) : GW z w 5 (gx_Qi w Q (gx_s z).heap.size) M 0 [(0, .ref (gx_ad w 0)), (1, .int v1), (2, .int v2)] [] := by
  unfold T_X10_takeSamples at h
  refine gw_aload_n hC dX10_takeSamples_0 rfl 0 rfl ?_
  refine gw_get hC cl_X10 fg_X10_10 (hw.lt (by decide)) (gc_0 hw _) (gv_X10_0 _ _ _) dX10_takeSamples_1 ?_
  refine gw_iload_n hC dX10_takeSamples_4 rfl 1 rfl ?_
  refine gw_iload_n hC dX10_takeSamples_5 rfl 2 rfl ?_
  refine gw_calli (gx_rV hC (n := 2) (As := [.int v1, .int v2]) (rest := []) (fun sz => c_X1_outAt hw  h sz) cv_X10_122_X1_outAt (by rw [hR]; exact rr_X10_takeSamples_X1_outAt) ⟨(hw.lt (by decide)), _, _, _, _, gc_1 hw _, cl_X1.1⟩ rfl rfl (Nat.le_of_ble_eq_true rfl) dX10_takeSamples_6) ?_
  intro r2 M1 h
  refine gw_istore_n (lv' := [(3, .int r2), (0, .ref (gx_ad w 0)), (1, .int v1), (2, .int v2)]) hC dX10_takeSamples_9 rfl (by decide) rfl ?_
  refine gw_iconst (v := 0) hC dX10_takeSamples_10 (by decide) ?_
  refine gw_istore (lv' := [(4, .int 0), (3, .int r2), (0, .ref (gx_ad w 0)), (1, .int v1), (2, .int v2)]) hC dX10_takeSamples_11 (by decide) rfl ?_
  obtain ⟨k8, h⟩ := h
  refine gw_sub (lv' := [(0, .ref (gx_ad w 0)), (1, .int v1), (2, .int v2), (3, .int r2), (4, .int 0)]) [2, 3, 4, 1, 0] rfl ?_
  exact J_X10_takeSamples_13 hC hw hR hr  k8 M1 v1 v2 r2 0 h
theorem c_X10_takeSamples {l : Launch} {d : gx_D} {w : gx_V} {ca : Nat → ClassId} (hw : gx_isC ca w)   {M : gx_M} {v1 : Int32} {v2 : Int32} {Q : Int32 → gx_M → Prop} (h : T_X10_takeSamples M v1 v2 Q) : gx_Mi l d w yX10_takeSamples cX10_takeSamples 5 .int rm_X10_takeSamples [.ref (gx_ad w 0), .int v1, .int v2] M Q := fun sz =>
  gx_of (own := RX10) (by decide +kernel) rfl (Nat.le_of_ble_eq_true rfl) (fun z hC hl hR hsz hr => by subst hsz; exact J_X10_takeSamples hC hw hR hr  h) rfl
set_option maxRecDepth 20000 in
theorem J_X10_guessFits_2 {z : gx_X} {d : gx_D} {w : gx_V} {ca : Nat → ClassId} (hC : gx_C z d w cX10_guessFits 3 RX10) (hw : gx_isC ca w) (hR : gx_R z = rm_X10_guessFits) (hr : (gx_me z).sig.returnType = (some .boolean)) {M : gx_M} {Q : Int32 → Prop}   : ∀ (n : Nat) (v1 : Int32) (v2 : Int32) , T_X10_guessFits_2 M Q  n v1 v2 → GW z w 3 (gx_Qi w (fun r M1 => M1 = M ∧ Q r) (gx_s z).heap.size) M 2 [(0, .ref (gx_ad w 0)), (1, .int v1), (2, .int v2)] [] := by
  intro n
  induction n with
  | zero =>
    intro v1 v2 h
    exact h.elim
  | succ n ih =>
    intro v1 v2 h
    rw [T_X10_guessFits_2] at h
    refine gw_iload_n hC dX10_guessFits_2 rfl 2 rfl ?_
    refine gw_aload_n hC dX10_guessFits_3 rfl 0 rfl ?_
    refine gw_get hC cl_X10 fg_X10_61 (hw.lt (by decide)) (gc_0 hw _) (gv_X10_7 _ _ _) dX10_guessFits_4 ?_
    refine gw_alen (v := 20) hC (hw.lt (by decide)) (gc_a2 hw (by decide) _) (gt_0 hw) rfl dX10_guessFits_7 ?_
    refine gw_icmp_ge (tgt := 46) hC dX10_guessFits_8 (by decide) (fun hc => ?_) (fun hc => ?_)
    · have h := gx_t h hc
      refine gw_iconst (v := 1) hC dX10_guessFits_46 (by decide) ?_
      exact gw_zret hC hr rfl dX10_guessFits_47 ⟨rfl, h⟩
    · have h := gx_f h hc
      refine gw_aload_n hC dX10_guessFits_11 rfl 0 rfl ?_
      refine gw_get hC cl_X10 fg_X10_57 (hw.lt (by decide)) (gc_0 hw _) (gv_X10_6 _ _ _) dX10_guessFits_12 ?_
      refine gw_iload_n hC dX10_guessFits_15 rfl 1 rfl ?_
      refine gw_iload_n hC dX10_guessFits_16 rfl 2 rfl ?_
      refine gw_aload_n hC dX10_guessFits_17 rfl 0 rfl ?_
      refine gw_get hC cl_X10 fg_X10_20 (hw.lt (by decide)) (gc_0 hw _) (gv_X10_1 _ _ _) dX10_guessFits_18 ?_
      refine gw_get hC cl_X8 fg_X10_126 (hw.lt (by decide)) (gc_Se hw (by decide) _) (gv_X8_3 _ _ _) dX10_guessFits_21 ?_
      refine gw_imul hC dX10_guessFits_24 ?_
      refine gw_iadd hC dX10_guessFits_25 ?_
      refine gw_calli (gx_rV hC (n := 1) (As := [.int (v1 + (v2 * (M 34 3)))]) (rest := []) (fun sz => c_X3_heightAt hw (by decide) h sz) cv_X10_207_X3_heightAt (by rw [hR]; exact rr_X10_guessFits_X3_heightAt) ⟨(hw.lt (by decide)), _, _, _, _, gc_Pt hw (by decide) _, cl_X3.1⟩ rfl rfl (Nat.le_of_ble_eq_true rfl) dX10_guessFits_26) ?_
      intro r1 m2 ⟨hm2, h⟩
      rw [hm2]
      refine gw_aload_n hC dX10_guessFits_29 rfl 0 rfl ?_
      refine gw_get hC cl_X10 fg_X10_61 (hw.lt (by decide)) (gc_0 hw _) (gv_X10_7 _ _ _) dX10_guessFits_30 ?_
      refine gw_iload_n hC dX10_guessFits_33 rfl 2 rfl ?_
      obtain ⟨hi, h⟩ := h
      refine gw_iald hC (hw.lt (by decide)) (gc_a2 hw (by decide) _) (gt_0 hw) hi dX10_guessFits_34 ?_
      refine gw_icmp_eq (tgt := 40) hC dX10_guessFits_35 (by decide) (fun hc => ?_) (fun hc => ?_)
      · have h := gx_t h hc
        obtain ⟨x3, hx3⟩ : ∃ y : Int32, y = v2 + 1 := ⟨_, rfl⟩
        have h := h x3 hx3
        refine gw_iinc (v := x3) (lv' := [(2, .int x3), (0, .ref (gx_ad w 0)), (1, .int v1)]) hC dX10_guessFits_40 (k := 2) rfl (by rw [hx3]; rfl) (by decide) rfl ?_
        refine gw_goto (tgt := 2) hC dX10_guessFits_43 (by decide) ?_
        refine gw_sub (lv' := [(0, .ref (gx_ad w 0)), (1, .int v1), (2, .int x3)]) [1, 2, 0] rfl ?_
        exact ih v1 x3 h
      · have h := gx_f h hc
        refine gw_iconst (v := 0) hC dX10_guessFits_38 (by decide) ?_
        exact gw_zret hC hr rfl dX10_guessFits_39 ⟨rfl, h⟩
set_option maxRecDepth 20000 in
theorem J_X10_guessFits {z : gx_X} {d : gx_D} {w : gx_V} {ca : Nat → ClassId} (hC : gx_C z d w cX10_guessFits 3 RX10) (hw : gx_isC ca w) (hR : gx_R z = rm_X10_guessFits) (hr : (gx_me z).sig.returnType = (some .boolean))   {M : gx_M} {v1 : Int32} {Q : Int32 → Prop} (h : T_X10_guessFits M v1 Q) : GW z w 3 (gx_Qi w (fun r M1 => M1 = M ∧ Q r) (gx_s z).heap.size) M 0 [(0, .ref (gx_ad w 0)), (1, .int v1)] [] := by
  unfold T_X10_guessFits at h
  refine gw_iconst (v := 0) hC dX10_guessFits_0 (by decide) ?_
  refine gw_istore_n (lv' := [(2, .int 0), (0, .ref (gx_ad w 0)), (1, .int v1)]) hC dX10_guessFits_1 rfl (by decide) rfl ?_
  obtain ⟨k4, h⟩ := h
  refine gw_sub (lv' := [(0, .ref (gx_ad w 0)), (1, .int v1), (2, .int 0)]) [1, 2, 0] rfl ?_
  exact J_X10_guessFits_2 hC hw hR hr  k4 v1 0 h
theorem c_X10_guessFits {l : Launch} {d : gx_D} {w : gx_V} {ca : Nat → ClassId} (hw : gx_isC ca w)   {M : gx_M} {v1 : Int32} {Q : Int32 → Prop} (h : T_X10_guessFits M v1 Q) : gx_Mi l d w yX10_guessFits cX10_guessFits 3 .boolean rm_X10_guessFits [.ref (gx_ad w 0), .int v1] M (fun r M1 => M1 = M ∧ Q r) := fun sz =>
  gx_of (own := RX10) (by decide +kernel) rfl (Nat.le_of_ble_eq_true rfl) (fun z hC hl hR hsz hr => by subst hsz; exact J_X10_guessFits hC hw hR hr  h) rfl
set_option maxRecDepth 20000 in
theorem J_X10_otherwise_131 {z : gx_X} {d : gx_D} {w : gx_V} {ca : Nat → ClassId} (hC : gx_C z d w cX10_otherwise 9 RX10) (hw : gx_isC ca w) (hR : gx_R z = rm_X10_otherwise) (hr : (gx_me z).sig.returnType = (some .int))  {Q : Int32 → gx_M → Prop} {K75 : gx_M → Int32 → Int32 → Int32 → Int32 → Int32 → Int32 → Int32 → Prop} (hK75 : ∀ (M : gx_M) (v2 : Int32) (v3 : Int32) (v4 : Int32) (v5 : Int32) (v6 : Int32) (v7 : Int32) (v8 : Int32), K75 M v2 v3 v4 v5 v6 v7 v8 → GW z w 9 (gx_Qi w Q (gx_s z).heap.size) M 75 [(0, .ref (gx_ad w 0)), (2, .int v2), (3, .int v3), (4, .int v4), (5, .int v5), (6, .int v6), (7, .int v7), (8, .int v8)] []) (M : gx_M) (v2 : Int32) (v3 : Int32) (v4 : Int32) (v5 : Int32) (v6 : Int32) (v7 : Int32) (v8 : Int32)  (h : T_X10_otherwise_131 Q K75 M v2 v3 v4 v5 v6 v7 v8) : GW z w 9 (gx_Qi w Q (gx_s z).heap.size) M 131 [(0, .ref (gx_ad w 0)), (2, .int v2), (3, .int v3), (4, .int v4), (5, .int v5), (6, .int v6), (7, .int v7), (8, .int v8)] [] := by
  unfold T_X10_otherwise_131 at h
  obtain ⟨x10, hx10⟩ : ∃ y : Int32, y = v8 + 1 := ⟨_, rfl⟩
  have h := h x10 hx10
  refine gw_iinc (v := x10) (lv' := [(8, .int x10), (0, .ref (gx_ad w 0)), (2, .int v2), (3, .int v3), (4, .int v4), (5, .int v5), (6, .int v6), (7, .int v7)]) hC dX10_otherwise_131 (k := 7) rfl (by rw [hx10]; rfl) (by decide) rfl ?_
  refine gw_goto (tgt := 75) hC dX10_otherwise_134 (by decide) ?_
  refine gw_sub (lv' := [(0, .ref (gx_ad w 0)), (2, .int v2), (3, .int v3), (4, .int v4), (5, .int v5), (6, .int v6), (7, .int v7), (8, .int x10)]) [1, 2, 3, 4, 5, 6, 7, 0] rfl ?_
  exact hK75 M v2 v3 v4 v5 v6 v7 x10 h
set_option maxRecDepth 20000 in
theorem J_X10_otherwise_75 {z : gx_X} {d : gx_D} {w : gx_V} {ca : Nat → ClassId} (hC : gx_C z d w cX10_otherwise 9 RX10) (hw : gx_isC ca w) (hR : gx_R z = rm_X10_otherwise) (hr : (gx_me z).sig.returnType = (some .int))  {Q : Int32 → gx_M → Prop} {K137 : gx_M → Int32 → Int32 → Int32 → Int32 → Int32 → Int32 → Prop} (hK137 : ∀ (M : gx_M) (v2 : Int32) (v3 : Int32) (v4 : Int32) (v5 : Int32) (v6 : Int32) (v7 : Int32), K137 M v2 v3 v4 v5 v6 v7 → GW z w 9 (gx_Qi w Q (gx_s z).heap.size) M 137 [(0, .ref (gx_ad w 0)), (2, .int v2), (3, .int v3), (4, .int v4), (5, .int v5), (6, .int v6), (7, .int v7)] []) : ∀ (n : Nat) (M : gx_M) (v2 : Int32) (v3 : Int32) (v4 : Int32) (v5 : Int32) (v6 : Int32) (v7 : Int32) (v8 : Int32) , T_X10_otherwise_75 Q K137 n M v2 v3 v4 v5 v6 v7 v8 → GW z w 9 (gx_Qi w Q (gx_s z).heap.size) M 75 [(0, .ref (gx_ad w 0)), (2, .int v2), (3, .int v3), (4, .int v4), (5, .int v5), (6, .int v6), (7, .int v7), (8, .int v8)] [] := by
  intro n
  induction n with
  | zero =>
    intro M v2 v3 v4 v5 v6 v7 v8 h
    exact h.elim
  | succ n ih =>
    intro M v2 v3 v4 v5 v6 v7 v8 h
    rw [T_X10_otherwise_75] at h
    refine gw_iload hC dX10_otherwise_75 7 rfl ?_
    refine gw_iload hC dX10_otherwise_77 5 rfl ?_
    refine gw_icmp_ge (tgt := 137) hC dX10_otherwise_79 (by decide) (fun hc => ?_) (fun hc => ?_)
    · have h := gx_t h hc
      refine gw_sub (lv' := [(0, .ref (gx_ad w 0)), (2, .int v2), (3, .int v3), (4, .int v4), (5, .int v5), (6, .int v6), (7, .int v7)]) [0, 1, 2, 3, 4, 5, 6] rfl ?_
      exact hK137 M v2 v3 v4 v5 v6 v7 h
    · have h := gx_f h hc
      refine gw_aload_n hC dX10_otherwise_82 rfl 0 rfl ?_
      refine gw_get hC cl_X10 fg_X10_57 (hw.lt (by decide)) (gc_0 hw _) (gv_X10_6 _ _ _) dX10_otherwise_83 ?_
      refine gw_iconst (v := 1) hC dX10_otherwise_86 (by decide) ?_
      refine gw_iload hC dX10_otherwise_87 3 rfl ?_
      refine gw_iload hC dX10_otherwise_89 5 rfl ?_
      refine gw_iload hC dX10_otherwise_91 6 rfl ?_
      refine gw_iload hC dX10_otherwise_93 7 rfl ?_
      refine gw_callv (gx_rV hC (n := 5) (As := [.int 1, .int v4, .int v6, .int v7, .int v8]) (rest := []) (fun sz => c_X3_set hw (by decide) h sz) cv_X10_196_X3_set (by rw [hR]; exact rr_X10_otherwise_X3_set) ⟨(hw.lt (by decide)), _, _, _, _, gc_Pt hw (by decide) _, cl_X3.1⟩ rfl rfl (Nat.le_of_ble_eq_true rfl) dX10_otherwise_95) ?_
      intro M7 h
      refine gw_aload_n hC dX10_otherwise_98 rfl 0 rfl ?_
      refine gw_iload_n hC dX10_otherwise_99 rfl 1 rfl ?_
      refine gw_calli (gx_rV hC (n := 1) (As := [.int v2]) (rest := []) (fun sz => c_X10_guessFits hw  h sz) cv_X10_199_X10_guessFits (by rw [hR]; exact rr_X10_otherwise_X10_guessFits) ⟨(hw.lt (by decide)), _, _, _, _, gc_0 hw _, cl_X10.1⟩ rfl rfl (Nat.le_of_ble_eq_true rfl) dX10_otherwise_100) ?_
      intro r8 m9 ⟨hm9, h⟩
      rw [hm9]
      refine gw_if_eq (tgt := 131) hC dX10_otherwise_103 (by decide) (fun hc => ?_) (fun hc => ?_)
      · have h := gx_t h hc
        exact J_X10_otherwise_131 hC hw hR hr ih M7 v2 v3 v4 v5 v6 v7 v8 h
      · have h := gx_f h hc
        refine gw_iload hC dX10_otherwise_106 4 rfl ?_
        refine gw_iload_n hC dX10_otherwise_108 rfl 2 rfl ?_
        refine gw_icmp_ne (tgt := 128) hC dX10_otherwise_109 (by decide) (fun hc => ?_) (fun hc => ?_)
        · have h := gx_f h hc
          obtain ⟨x11, hx11⟩ : ∃ y : Int32, y = v5 + 1 := ⟨_, rfl⟩
          have h := h x11 hx11
          refine gw_iinc (v := x11) (lv' := [(5, .int x11), (0, .ref (gx_ad w 0)), (2, .int v2), (3, .int v3), (4, .int v4), (6, .int v6), (7, .int v7), (8, .int v8)]) hC dX10_otherwise_128 (k := 4) rfl (by rw [hx11]; rfl) (by decide) rfl ?_
          refine gw_sub (lv' := [(0, .ref (gx_ad w 0)), (2, .int v2), (3, .int v3), (4, .int v4), (5, .int x11), (6, .int v6), (7, .int v7), (8, .int v8)]) [1, 2, 3, 4, 0, 5, 6, 7] rfl ?_
          exact J_X10_otherwise_131 hC hw hR hr ih M7 v2 v3 v4 x11 v6 v7 v8 h
        · have h := gx_t h hc
          refine gw_sipush (v := 10000) hC dX10_otherwise_112 (by decide) ?_
          refine gw_iload hC dX10_otherwise_115 5 rfl ?_
          refine gw_imul hC dX10_otherwise_117 ?_
          refine gw_bipush (v := 100) hC dX10_otherwise_118 (by decide) ?_
          refine gw_iload hC dX10_otherwise_120 6 rfl ?_
          refine gw_imul hC dX10_otherwise_122 ?_
          refine gw_iadd hC dX10_otherwise_123 ?_
          refine gw_iload hC dX10_otherwise_124 7 rfl ?_
          refine gw_iadd hC dX10_otherwise_126 ?_
          exact gw_iret hC hr dX10_otherwise_127 h
set_option maxRecDepth 20000 in
theorem J_X10_otherwise_65 {z : gx_X} {d : gx_D} {w : gx_V} {ca : Nat → ClassId} (hC : gx_C z d w cX10_otherwise 9 RX10) (hw : gx_isC ca w) (hR : gx_R z = rm_X10_otherwise) (hr : (gx_me z).sig.returnType = (some .int))  {Q : Int32 → gx_M → Prop} {K143 : gx_M → Int32 → Int32 → Int32 → Int32 → Int32 → Prop} (hK143 : ∀ (M : gx_M) (v2 : Int32) (v3 : Int32) (v4 : Int32) (v5 : Int32) (v6 : Int32), K143 M v2 v3 v4 v5 v6 → GW z w 9 (gx_Qi w Q (gx_s z).heap.size) M 143 [(0, .ref (gx_ad w 0)), (2, .int v2), (3, .int v3), (4, .int v4), (5, .int v5), (6, .int v6)] []) : ∀ (n : Nat) (M : gx_M) (v2 : Int32) (v3 : Int32) (v4 : Int32) (v5 : Int32) (v6 : Int32) (v7 : Int32) , T_X10_otherwise_65 Q K143 n M v2 v3 v4 v5 v6 v7 → GW z w 9 (gx_Qi w Q (gx_s z).heap.size) M 65 [(0, .ref (gx_ad w 0)), (2, .int v2), (3, .int v3), (4, .int v4), (5, .int v5), (6, .int v6), (7, .int v7)] [] := by
  intro n
  induction n with
  | zero =>
    intro M v2 v3 v4 v5 v6 v7 h
    exact h.elim
  | succ n ih =>
    intro M v2 v3 v4 v5 v6 v7 h
    rw [T_X10_otherwise_65] at h
    refine gw_iload hC dX10_otherwise_65 6 rfl ?_
    refine gw_iload hC dX10_otherwise_67 5 rfl ?_
    refine gw_icmp_ge (tgt := 143) hC dX10_otherwise_69 (by decide) (fun hc => ?_) (fun hc => ?_)
    · have h := gx_t h hc
      refine gw_sub (lv' := [(0, .ref (gx_ad w 0)), (2, .int v2), (3, .int v3), (4, .int v4), (5, .int v5), (6, .int v6)]) [0, 1, 2, 3, 4, 5] rfl ?_
      exact hK143 M v2 v3 v4 v5 v6 h
    · have h := gx_f h hc
      refine gw_iconst (v := 0) hC dX10_otherwise_72 (by decide) ?_
      refine gw_istore (lv' := [(8, .int 0), (0, .ref (gx_ad w 0)), (2, .int v2), (3, .int v3), (4, .int v4), (5, .int v5), (6, .int v6), (7, .int v7)]) hC dX10_otherwise_73 (by decide) rfl ?_
      obtain ⟨k12, h⟩ := h
      refine gw_sub (lv' := [(0, .ref (gx_ad w 0)), (2, .int v2), (3, .int v3), (4, .int v4), (5, .int v5), (6, .int v6), (7, .int v7), (8, .int 0)]) [1, 2, 3, 4, 5, 6, 7, 0] rfl ?_
      exact J_X10_otherwise_75 hC hw hR hr (fun M19 v2_13 v3_14 v4_15 v5_16 v6_17 v7_18 h => by
          obtain ⟨x20, hx20⟩ : ∃ y : Int32, y = v7_18 + 1 := ⟨_, rfl⟩
          have h := h x20 hx20
          refine gw_iinc (v := x20) (lv' := [(7, .int x20), (0, .ref (gx_ad w 0)), (2, .int v2_13), (3, .int v3_14), (4, .int v4_15), (5, .int v5_16), (6, .int v6_17)]) hC dX10_otherwise_137 (k := 6) rfl (by rw [hx20]; rfl) (by decide) rfl ?_
          refine gw_goto (tgt := 65) hC dX10_otherwise_140 (by decide) ?_
          refine gw_sub (lv' := [(0, .ref (gx_ad w 0)), (2, .int v2_13), (3, .int v3_14), (4, .int v4_15), (5, .int v5_16), (6, .int v6_17), (7, .int x20)]) [1, 2, 3, 4, 5, 6, 0] rfl ?_
          exact ih M19 v2_13 v3_14 v4_15 v5_16 v6_17 x20 h) k12 M v2 v3 v4 v5 v6 v7 0 h
