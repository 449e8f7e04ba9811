set_option maxRecDepth 20000 in
theorem J_X11_next_156 {z : gx_X} {d : gx_D} {w : gx_V} {ca : Nat → ClassId} (hC : gx_C z d w cX11_next 5 RX11) (hw : gx_isR ca w) (hR : gx_R z = rm_X11_next) (hr : (gx_me z).sig.returnType = none)  {Q : gx_M → Prop} {K99 : gx_M → Int64 → Int32 → Prop} (hK99 : ∀ (M : gx_M) (x2 : Int64) (v4 : Int32), K99 M x2 v4 → GW z w 5 (gx_Qv w Q (gx_s z).heap.size) M 99 [(0, .ref (gx_ad w 0)), (2, .long x2), (4, .int v4)] []) (M : gx_M) (u0 : Int64) (v4 : Int32)  (h : T_X11_next_156 Q K99 M u0 v4) : GW z w 5 (gx_Qv w Q (gx_s z).heap.size) M 156 [(0, .ref (gx_ad w 0)), (4, .int v4)] [.long u0] := by
  unfold T_X11_next_156 at h
  refine gw_lstore_n (lv' := [(2, .long u0), (0, .ref (gx_ad w 0)), (4, .int v4)]) hC dX11_next_156 rfl (by decide) rfl ?_
  obtain ⟨x29, hx29⟩ : ∃ y : Int32, y = v4 + 1 := ⟨_, rfl⟩
  have h := h x29 hx29
  refine gw_iinc (v := x29) (lv' := [(4, .int x29), (2, .long u0), (0, .ref (gx_ad w 0))]) hC dX11_next_157 (k := 2) rfl (by rw [hx29]; rfl) (by decide) rfl ?_
  refine gw_aload_n hC dX11_next_160 rfl 2 rfl ?_
  refine gw_dup hC dX11_next_161 rfl ?_
  refine gw_get hC cl_X11 fg_X11_152 (hw.lt (by decide)) (gd_0 hw _) (gv_X11_13 _ _ _) dX11_next_162 ?_
  refine gw_iconst (v := 1) hC dX11_next_165 (by decide) ?_
  refine gw_iadd hC dX11_next_166 ?_
  refine gw_put hC cl_X11 fp_X11_152 (hw.lt (by decide)) (gd_0 hw _) ((gd_0 hw _).trans (gs_X11_13 _ _ _ _)) rfl rfl (by simp [fs_X11]) dX11_next_167 ?_
  refine gw_nmM (fun M30 hM30 => ?_)
  have h := h M30 hM30
  refine gw_goto (tgt := 99) hC dX11_next_170 (by decide) ?_
  refine gw_sub (lv' := [(0, .ref (gx_ad w 0)), (2, .long u0), (4, .int x29)]) [2, 1, 0] rfl ?_
  exact hK99 M30 u0 x29 h
set_option maxRecDepth 20000 in
theorem J_X11_next_99 {z : gx_X} {d : gx_D} {w : gx_V} {ca : Nat → ClassId} (hC : gx_C z d w cX11_next 5 RX11) (hw : gx_isR ca w) (hR : gx_R z = rm_X11_next) (hr : (gx_me z).sig.returnType = none)  {Q : gx_M → Prop} {K173 : gx_M → Int64 → Int32 → Prop} (hK173 : ∀ (M : gx_M) (x2 : Int64) (v4 : Int32), K173 M x2 v4 → GW z w 5 (gx_Qv w Q (gx_s z).heap.size) M 173 [(0, .ref (gx_ad w 0)), (2, .long x2), (4, .int v4)] []) : ∀ (n : Nat) (M : gx_M) (x2 : Int64) (v4 : Int32) , T_X11_next_99 Q K173 n M x2 v4 → GW z w 5 (gx_Qv w Q (gx_s z).heap.size) M 99 [(0, .ref (gx_ad w 0)), (2, .long x2), (4, .int v4)] [] := by
  intro n
  induction n with
  | zero =>
    intro M x2 v4 h
    exact h.elim
  | succ n ih =>
    intro M x2 v4 h
    rw [T_X11_next_99] at h
    refine gw_aload_n hC dX11_next_99 rfl 0 rfl ?_
    refine gw_get hC cl_X11 fg_X11_152 (hw.lt (by decide)) (gd_0 hw _) (gv_X11_13 _ _ _) dX11_next_100 ?_
    refine gw_aload_n hC dX11_next_103 rfl 0 rfl ?_
    refine gw_get hC cl_X11 fg_X11_155 (hw.lt (by decide)) (gd_0 hw _) (gv_X11_12 _ _ _) dX11_next_104 ?_
    refine gw_icmp_ge (tgt := 173) hC dX11_next_107 (by decide) (fun hc => ?_) (fun hc => ?_)
    · have h := gx_t h hc
      exact hK173 M x2 v4 h
    · have h := gx_f h hc
      refine gw_aload_n hC dX11_next_110 rfl 0 rfl ?_
      refine gw_get hC cl_X11 fg_X11_16 (hw.lt (by decide)) (gd_0 hw _) (gv_X11_2 _ _ _) dX11_next_111 ?_
      refine gw_aload_n hC dX11_next_114 rfl 0 rfl ?_
      refine gw_get hC cl_X11 fg_X11_152 (hw.lt (by decide)) (gd_0 hw _) (gv_X11_13 _ _ _) dX11_next_115 ?_
      obtain ⟨hi, h⟩ := h
      refine gw_bald hC (hw.lt (by decide)) (gd_3 hw _) (gu_6 hw) hi dX11_next_118 ?_
      refine gw_calli (gx_rS hC (n := 1) (As := [.int (M 3 (M 0 13).toNatClampNeg)]) (rest := []) (fun sz => c_X11_isLetter hw  h sz) cs_X11_164_X11_isLetter (by rw [hR]; exact rr_X11_next_X11_isLetter) rfl rfl (Nat.le_of_ble_eq_true rfl) dX11_next_119) ?_
      intro r27 m28 ⟨hm28, h⟩
      rw [hm28]
      refine gw_if_eq (tgt := 173) hC dX11_next_122 (by decide) (fun hc => ?_) (fun hc => ?_)
      · have h := gx_t h hc
        exact hK173 M x2 v4 h
      · have h := gx_f h hc
        refine gw_iload hC dX11_next_125 2 rfl ?_
        refine gw_bipush (v := 8) hC dX11_next_127 (by decide) ?_
        refine gw_icmp_ge (tgt := 155) hC dX11_next_129 (by decide) (fun hc => ?_) (fun hc => ?_)
        · have h := gx_t h hc
          refine gw_lload_n hC dX11_next_155 rfl 1 rfl ?_
          refine gw_sub (lv' := [(0, .ref (gx_ad w 0)), (4, .int v4)]) [0, 2] rfl ?_
          exact J_X11_next_156 hC hw hR hr ih M x2 v4 h
        · have h := gx_f h hc
          refine gw_ldc2 hC kl_X11_167 dX11_next_132 ?_
          refine gw_lload_n hC dX11_next_135 rfl 1 rfl ?_
          refine gw_lmul hC dX11_next_136 ?_
          refine gw_aload_n hC dX11_next_137 rfl 0 rfl ?_
          refine gw_get hC cl_X11 fg_X11_16 (hw.lt (by decide)) (gd_0 hw _) (gv_X11_2 _ _ _) dX11_next_138 ?_
          refine gw_aload_n hC dX11_next_141 rfl 0 rfl ?_
          refine gw_get hC cl_X11 fg_X11_152 (hw.lt (by decide)) (gd_0 hw _) (gv_X11_13 _ _ _) dX11_next_142 ?_
          obtain ⟨hi, h⟩ := h
          refine gw_bald hC (hw.lt (by decide)) (gd_3 hw _) (gu_6 hw) hi dX11_next_145 ?_
          refine gw_i2l hC dX11_next_146 rfl ?_
          refine gw_ladd hC dX11_next_147 ?_
          refine gw_ldc2 hC kl_X11_167 dX11_next_148 ?_
          refine gw_lsub hC dX11_next_151 ?_
          refine gw_goto (tgt := 156) hC dX11_next_152 (by decide) ?_
          refine gw_sub (lv' := [(0, .ref (gx_ad w 0)), (4, .int v4)]) [0, 2] rfl ?_
          exact J_X11_next_156 hC hw hR hr ih M (((64 * x2) + ((M 3 (M 0 13).toNatClampNeg).toInt64)) - 64) v4 h
set_option maxRecDepth 20000 in
theorem J_X11_next_205 {z : gx_X} {d : gx_D} {w : gx_V} {ca : Nat → ClassId} (hC : gx_C z d w cX11_next 5 RX11) (hw : gx_isR ca w) (hR : gx_R z = rm_X11_next) (hr : (gx_me z).sig.returnType = none)  {Q : gx_M → Prop}   (M : gx_M) (t0 : Int32)  (h : T_X11_next_205 Q  M t0) : GW z w 5 (gx_Qv w Q (gx_s z).heap.size) M 205 [] [.int t0, .ref (gx_ad w 0)] := by
  unfold T_X11_next_205 at h
  refine gw_put hC cl_X11 fp_X11_161 (hw.lt (by decide)) (gd_0 hw _) ((gd_0 hw _).trans (gs_X11_15 _ _ _ _)) rfl rfl (by simp [fs_X11]) dX11_next_205 ?_
  refine gw_nmM (fun M38 hM38 => ?_)
  have h := h M38 hM38
  refine gw_goto (tgt := 439) hC dX11_next_208 (by decide) ?_
  exact gw_vret hC hr dX11_next_439 h
set_option maxRecDepth 20000 in
theorem J_X11_next_189 {z : gx_X} {d : gx_D} {w : gx_V} {ca : Nat → ClassId} (hC : gx_C z d w cX11_next 5 RX11) (hw : gx_isR ca w) (hR : gx_R z = rm_X11_next) (hr : (gx_me z).sig.returnType = none)  {Q : gx_M → Prop}   (M : gx_M) (t0 : Int32)  (h : T_X11_next_189 Q  M t0) : GW z w 5 (gx_Qv w Q (gx_s z).heap.size) M 189 [(0, .ref (gx_ad w 0))] [.int t0, .ref (gx_ad w 0)] := by
  unfold T_X11_next_189 at h
  refine gw_put hC cl_X11 fp_X11_173 (hw.lt (by decide)) (gd_0 hw _) ((gd_0 hw _).trans (gs_X11_16 _ _ _ _)) rfl rfl (by simp [fs_X11]) dX11_next_189 ?_
  refine gw_nmM (fun M37 hM37 => ?_)
  have h := h M37 hM37
  refine gw_aload_n hC dX11_next_192 rfl 0 rfl ?_
  refine gw_aload_n hC dX11_next_193 rfl 0 rfl ?_
  refine gw_get hC cl_X11 fg_X11_173 (hw.lt (by decide)) (gd_0 hw _) (gv_X11_16 _ _ _) dX11_next_194 ?_
  refine gw_if_ge (tgt := 204) hC dX11_next_197 (by decide) (fun hc => ?_) (fun hc => ?_)
  · have h := gx_t h hc
    refine gw_iconst (v := 1) hC dX11_next_204 (by decide) ?_
    refine gw_sub (lv' := []) [] rfl ?_
    exact J_X11_next_205 hC hw hR hr  M37 1 h
  · have h := gx_f h hc
    refine gw_iconst (v := 4) hC dX11_next_200 (by decide) ?_
    refine gw_goto (tgt := 205) hC dX11_next_201 (by decide) ?_
    refine gw_sub (lv' := []) [] rfl ?_
    exact J_X11_next_205 hC hw hR hr  M37 4 h
set_option maxRecDepth 20000 in
theorem J_X11_next_173 {z : gx_X} {d : gx_D} {w : gx_V} {ca : Nat → ClassId} (hC : gx_C z d w cX11_next 5 RX11) (hw : gx_isR ca w) (hR : gx_R z = rm_X11_next) (hr : (gx_me z).sig.returnType = none)  {Q : gx_M → Prop}   (M : gx_M) (x2 : Int64) (v4 : Int32)  (h : T_X11_next_173 Q  M x2 v4) : GW z w 5 (gx_Qv w Q (gx_s z).heap.size) M 173 [(0, .ref (gx_ad w 0)), (2, .long x2), (4, .int v4)] [] := by
  unfold T_X11_next_173 at h
  refine gw_aload_n hC dX11_next_173 rfl 0 rfl ?_
  refine gw_iload hC dX11_next_174 2 rfl ?_
  refine gw_bipush (v := 7) hC dX11_next_176 (by decide) ?_
  refine gw_icmp_le (tgt := 185) hC dX11_next_178 (by decide) (fun hc => ?_) (fun hc => ?_)
  · have h := gx_t h hc
    refine gw_lload_n hC dX11_next_185 rfl 1 rfl ?_
    refine gw_calli (gx_rS hC (n := 1) (As := [.long x2]) (rest := [.ref (gx_ad w 0)]) (fun sz => c_X11_wordOf hw  h sz) cs_X11_169_X11_wordOf (by rw [hR]; exact rr_X11_next_X11_wordOf) rfl rfl (Nat.le_of_ble_eq_true rfl) dX11_next_186) ?_
    intro r35 m36 ⟨hm36, h⟩
    rw [hm36]
    refine gw_sub (lv' := [(0, .ref (gx_ad w 0))]) [0] rfl ?_
    exact J_X11_next_189 hC hw hR hr  M r35 h
  · have h := gx_f h hc
    refine gw_iconst (v := (-1)) hC dX11_next_181 (by decide) ?_
    refine gw_goto (tgt := 189) hC dX11_next_182 (by decide) ?_
    refine gw_sub (lv' := [(0, .ref (gx_ad w 0))]) [0] rfl ?_
    exact J_X11_next_189 hC hw hR hr  M (-1) h
set_option maxRecDepth 20000 in
theorem J_X11_next_52 {z : gx_X} {d : gx_D} {w : gx_V} {ca : Nat → ClassId} (hC : gx_C z d w cX11_next 5 RX11) (hw : gx_isR ca w) (hR : gx_R z = rm_X11_next) (hr : (gx_me z).sig.returnType = none)  {Q : gx_M → Prop}   (M : gx_M)  (h : T_X11_next_52 Q  M) : GW z w 5 (gx_Qv w Q (gx_s z).heap.size) M 52 [(0, .ref (gx_ad w 0))] [] := by
  unfold T_X11_next_52 at h
  refine gw_aload_n hC dX11_next_52 rfl 0 rfl ?_
  refine gw_aload_n hC dX11_next_53 rfl 0 rfl ?_
  refine gw_get hC cl_X11 fg_X11_152 (hw.lt (by decide)) (gd_0 hw _) (gv_X11_13 _ _ _) dX11_next_54 ?_
  refine gw_put hC cl_X11 fp_X11_158 (hw.lt (by decide)) (gd_0 hw _) ((gd_0 hw _).trans (gs_X11_14 _ _ _ _)) rfl rfl (by simp [fs_X11]) dX11_next_57 ?_
  refine gw_nmM (fun M4 hM4 => ?_)
  have h := h M4 hM4
  refine gw_aload_n hC dX11_next_60 rfl 0 rfl ?_
  refine gw_get hC cl_X11 fg_X11_152 (hw.lt (by decide)) (gd_0 hw _) (gv_X11_13 _ _ _) dX11_next_61 ?_
  refine gw_aload_n hC dX11_next_64 rfl 0 rfl ?_
  refine gw_get hC cl_X11 fg_X11_155 (hw.lt (by decide)) (gd_0 hw _) (gv_X11_12 _ _ _) dX11_next_65 ?_
  refine gw_icmp_ne (tgt := 77) hC dX11_next_68 (by decide) (fun hc => ?_) (fun hc => ?_)
  · have h := gx_f h hc
    refine gw_aload_n hC dX11_next_77 rfl 0 rfl ?_
    refine gw_get hC cl_X11 fg_X11_16 (hw.lt (by decide)) (gd_0 hw _) (gv_X11_2 _ _ _) dX11_next_78 ?_
    refine gw_aload_n hC dX11_next_81 rfl 0 rfl ?_
    refine gw_get hC cl_X11 fg_X11_152 (hw.lt (by decide)) (gd_0 hw _) (gv_X11_13 _ _ _) dX11_next_82 ?_
    obtain ⟨hi, h⟩ := h
    refine gw_bald hC (hw.lt (by decide)) (gd_3 hw _) (gu_6 hw) hi dX11_next_85 ?_
    refine gw_nm (fun x5 hx5 => ?_)
    have h := h x5 hx5
    refine gw_istore_n (lv' := [(1, .int x5), (0, .ref (gx_ad w 0))]) hC dX11_next_86 rfl (by decide) rfl ?_
    refine gw_iload_n hC dX11_next_87 rfl 0 rfl ?_
    refine gw_calli (gx_rS hC (n := 1) (As := [.int x5]) (rest := []) (fun sz => c_X11_isLetter hw  h sz) cs_X11_164_X11_isLetter (by rw [hR]; exact rr_X11_next_X11_isLetter) rfl rfl (Nat.le_of_ble_eq_true rfl) dX11_next_88) ?_
    intro r6 m7 ⟨hm7, h⟩
    rw [hm7]
    refine gw_if_eq (tgt := 211) hC dX11_next_91 (by decide) (fun hc => ?_) (fun hc => ?_)
    · have h := gx_t h hc
      refine gw_iload_n hC dX11_next_211 rfl 0 rfl ?_
      refine gw_bipush (v := 48) hC dX11_next_212 (by decide) ?_
      refine gw_bipush (v := 57) hC dX11_next_214 (by decide) ?_
      refine gw_calli (gx_rS hC (n := 3) (As := [.int x5, .int 48, .int 57]) (rest := []) (fun sz => c_X11_in hw  h sz) cs_X11_97_X11_in (by rw [hR]; exact rr_X11_next_X11_in) rfl rfl (Nat.le_of_ble_eq_true rfl) dX11_next_216) ?_
      intro r8 m9 ⟨hm9, h⟩
      rw [hm9]
      refine gw_if_eq (tgt := 315) hC dX11_next_219 (by decide) (fun hc => ?_) (fun hc => ?_)
      · have h := gx_t h hc
        refine gw_aload_n hC dX11_next_315 rfl 1 rfl ?_
        refine gw_dup hC dX11_next_316 rfl ?_
        refine gw_get hC cl_X11 fg_X11_152 (hw.lt (by decide)) (gd_0 hw _) (gv_X11_13 _ _ _) dX11_next_317 ?_
        refine gw_iconst (v := 1) hC dX11_next_320 (by decide) ?_
        refine gw_iadd hC dX11_next_321 ?_
        refine gw_put hC cl_X11 fp_X11_152 (hw.lt (by decide)) (gd_0 hw _) ((gd_0 hw _).trans (gs_X11_13 _ _ _ _)) rfl rfl (by simp [fs_X11]) dX11_next_322 ?_
        refine gw_nmM (fun M10 hM10 => ?_)
        have h := h M10 hM10
        refine gw_aload_n hC dX11_next_325 rfl 1 rfl ?_
        refine gw_iload_n hC dX11_next_326 rfl 0 rfl ?_
        refine gw_put hC cl_X11 fp_X11_173 (hw.lt (by decide)) (gd_0 hw _) ((gd_0 hw _).trans (gs_X11_16 _ _ _ _)) rfl rfl (by simp [fs_X11]) dX11_next_327 ?_
        refine gw_nmM (fun M11 hM11 => ?_)
        have h := h M11 hM11
        refine gw_aload_n hC dX11_next_330 rfl 1 rfl ?_
        refine gw_iload_n hC dX11_next_331 rfl 0 rfl ?_
        refine gw_bipush (v := 59) hC dX11_next_332 (by decide) ?_
        refine gw_bipush (v := 62) hC dX11_next_334 (by decide) ?_
        refine gw_calli (gx_rS hC (n := 3) (As := [.int x5, .int 59, .int 62]) (rest := [.ref (gx_ad w 0)]) (fun sz => c_X11_in hw  h sz) cs_X11_97_X11_in (by rw [hR]; exact rr_X11_next_X11_in) rfl rfl (Nat.le_of_ble_eq_true rfl) dX11_next_336) ?_
        intro r12 m13 ⟨hm13, h⟩
        rw [hm13]
        refine gw_if_ne (tgt := 365) hC dX11_next_339 (by decide) (fun hc => ?_) (fun hc => ?_)
        · have h := gx_f h hc
          refine gw_sub (lv' := [(0, .ref (gx_ad w 0)), (1, .int x5)]) [1, 0] rfl ?_
          exact J_X11_next_365 hC hw hR hr  M11 x5 h
        · have h := gx_t h hc
          refine gw_iload_n hC dX11_next_342 rfl 0 rfl ?_
          refine gw_bipush (v := 40) hC dX11_next_343 (by decide) ?_
          refine gw_bipush (v := 45) hC dX11_next_345 (by decide) ?_
          refine gw_calli (gx_rS hC (n := 3) (As := [.int x5, .int 40, .int 45]) (rest := [.ref (gx_ad w 0)]) (fun sz => c_X11_in hw  h sz) cs_X11_97_X11_in (by rw [hR]; exact rr_X11_next_X11_in) rfl rfl (Nat.le_of_ble_eq_true rfl) dX11_next_347) ?_
          intro r17 m18 ⟨hm18, h⟩
          rw [hm18]
          refine gw_if_ne (tgt := 365) hC dX11_next_350 (by decide) (fun hc => ?_) (fun hc => ?_)
          · have h := gx_f h hc
            refine gw_sub (lv' := [(0, .ref (gx_ad w 0)), (1, .int x5)]) [1, 0] rfl ?_
            exact J_X11_next_365 hC hw hR hr  M11 x5 h
          · have h := gx_t h hc
            refine gw_iload_n hC dX11_next_353 rfl 0 rfl ?_
            refine gw_bipush (v := 47) hC dX11_next_354 (by decide) ?_
            refine gw_icmp_eq (tgt := 365) hC dX11_next_356 (by decide) (fun hc => ?_) (fun hc => ?_)
            · have h := gx_t h hc
              refine gw_sub (lv' := [(0, .ref (gx_ad w 0)), (1, .int x5)]) [1, 0] rfl ?_
              exact J_X11_next_365 hC hw hR hr  M11 x5 h
            · have h := gx_f h hc
              refine gw_iload_n hC dX11_next_359 rfl 0 rfl ?_
              refine gw_bipush (v := 35) hC dX11_next_360 (by decide) ?_
              refine gw_icmp_ne (tgt := 369) hC dX11_next_362 (by decide) (fun hc => ?_) (fun hc => ?_)
              · have h := gx_f h hc
                refine gw_iconst (v := 4) hC dX11_next_369 (by decide) ?_
                refine gw_sub (lv' := [(0, .ref (gx_ad w 0)), (1, .int x5)]) [1, 0] rfl ?_
                exact J_X11_next_370 hC hw hR hr  M11 4 x5 h
              · have h := gx_t h hc
                refine gw_sub (lv' := [(0, .ref (gx_ad w 0)), (1, .int x5)]) [1, 0] rfl ?_
                exact J_X11_next_365 hC hw hR hr  M11 x5 h
      · have h := gx_f h hc
        refine gw_aload_n hC dX11_next_222 rfl 1 rfl ?_
        refine gw_iconst (v := 2) hC dX11_next_223 (by decide) ?_
        refine gw_put hC cl_X11 fp_X11_161 (hw.lt (by decide)) (gd_0 hw _) ((gd_0 hw _).trans (gs_X11_15 _ _ _ _)) rfl rfl (by simp [fs_X11]) dX11_next_224 ?_
        refine gw_nmM (fun M19 hM19 => ?_)
        have h := h M19 hM19
        refine gw_aload_n hC dX11_next_227 rfl 1 rfl ?_
        refine gw_iconst (v := 0) hC dX11_next_228 (by decide) ?_
        refine gw_put hC cl_X11 fp_X11_173 (hw.lt (by decide)) (gd_0 hw _) ((gd_0 hw _).trans (gs_X11_16 _ _ _ _)) rfl rfl (by simp [fs_X11]) dX11_next_229 ?_
        refine gw_nmM (fun M20 hM20 => ?_)
        have h := h M20 hM20
        obtain ⟨k25, h⟩ := h
        refine gw_sub (lv' := [(0, .ref (gx_ad w 0))]) [1] rfl ?_
        exact J_X11_next_232 hC hw hR hr (fun M26 h => by
            exact gw_vret hC hr dX11_next_439 h) k25 M20 h
    · have h := gx_f h hc
      refine gw_lconst (v := 0) hC dX11_next_94 (by decide) ?_
      refine gw_lstore_n (lv' := [(2, .long 0), (1, .int x5), (0, .ref (gx_ad w 0))]) hC dX11_next_95 rfl (by decide) rfl ?_
      refine gw_iconst (v := 0) hC dX11_next_96 (by decide) ?_
      refine gw_istore (lv' := [(4, .int 0), (2, .long 0), (1, .int x5), (0, .ref (gx_ad w 0))]) hC dX11_next_97 (by decide) rfl ?_
      obtain ⟨k31, h⟩ := h
      refine gw_sub (lv' := [(0, .ref (gx_ad w 0)), (2, .long 0), (4, .int 0)]) [3, 1, 0] rfl ?_
      exact J_X11_next_99 hC hw hR hr (fun M34 x2_32 v4_33 h => by
          exact J_X11_next_173 hC hw hR hr  M34 x2_32 v4_33 h) k31 M4 0 0 h
  · have h := gx_t h hc
    refine gw_aload_n hC dX11_next_71 rfl 0 rfl ?_
    refine gw_iconst (v := 0) hC dX11_next_72 (by decide) ?_
    refine gw_put hC cl_X11 fp_X11_161 (hw.lt (by decide)) (gd_0 hw _) ((gd_0 hw _).trans (gs_X11_15 _ _ _ _)) rfl rfl (by simp [fs_X11]) dX11_next_73 ?_
    refine gw_nmM (fun M39 hM39 => ?_)
    have h := h M39 hM39
    exact gw_vret hC hr dX11_next_76 h
set_option maxRecDepth 20000 in
theorem J_X11_next {z : gx_X} {d : gx_D} {w : gx_V} {ca : Nat → ClassId} (hC : gx_C z d w cX11_next 5 RX11) (hw : gx_isR ca w) (hR : gx_R z = rm_X11_next) (hr : (gx_me z).sig.returnType = none)   {M : gx_M}  {Q : gx_M → Prop} (h : T_X11_next M  Q) : GW z w 5 (gx_Qv w Q (gx_s z).heap.size) M 0 [(0, .ref (gx_ad w 0))] [] := by
  unfold T_X11_next at h
  obtain ⟨k2, h⟩ := h
  exact J_X11_next_0 hC hw hR hr (fun M3 h => by
      exact J_X11_next_52 hC hw hR hr  M3 h) k2 M h
theorem c_X11_next {l : Launch} {d : gx_D} {w : gx_V} {ca : Nat → ClassId} (hw : gx_isR ca w)   {M : gx_M}  {Q : gx_M → Prop} (h : T_X11_next M  Q) : gx_Mv l d w yX11_next cX11_next 5 rm_X11_next [.ref (gx_ad w 0)] M Q := fun sz =>
  gx_of (own := RX11) (by decide +kernel) rfl (Nat.le_of_ble_eq_true rfl) (fun z hC hl hR hsz hr => by subst hsz; exact J_X11_next hC hw hR hr  h) rfl
set_option maxRecDepth 20000 in
theorem J_X11_isSign {z : gx_X} {d : gx_D} {w : gx_V} {ca : Nat → ClassId} (hC : gx_C z d w cX11_isSign 2 RX11) (hw : gx_isR ca w) (hR : gx_R z = rm_X11_isSign) (hr : (gx_me z).sig.returnType = (some .boolean))   {M : gx_M} {v1 : Int32} {Q : Int32 → Prop} (h : T_X11_isSign M v1 Q) : GW z w 2 (gx_Qi w (fun r M1 => M1 = M ∧ Q r) (gx_s z).heap.size) M 0 [(0, .ref (gx_ad w 0)), (1, .int v1)] [] := by
  unfold T_X11_isSign at h
  refine gw_aload_n hC dX11_isSign_0 rfl 0 rfl ?_
  refine gw_get hC cl_X11 fg_X11_161 (hw.lt (by decide)) (gd_0 hw _) (gv_X11_15 _ _ _) dX11_isSign_1 ?_
  refine gw_iconst (v := 3) hC dX11_isSign_4 (by decide) ?_
  refine gw_icmp_ne (tgt := 20) hC dX11_isSign_5 (by decide) (fun hc => ?_) (fun hc => ?_)
  · have h := gx_f h hc
    refine gw_iconst (v := 0) hC dX11_isSign_20 (by decide) ?_
    exact gw_zret hC hr rfl dX11_isSign_21 ⟨rfl, h⟩
  · have h := gx_t h hc
    refine gw_aload_n hC dX11_isSign_8 rfl 0 rfl ?_
    refine gw_get hC cl_X11 fg_X11_173 (hw.lt (by decide)) (gd_0 hw _) (gv_X11_16 _ _ _) dX11_isSign_9 ?_
    refine gw_iload_n hC dX11_isSign_12 rfl 1 rfl ?_
    refine gw_icmp_ne (tgt := 20) hC dX11_isSign_13 (by decide) (fun hc => ?_) (fun hc => ?_)
    · have h := gx_f h hc
      refine gw_iconst (v := 0) hC dX11_isSign_20 (by decide) ?_
      exact gw_zret hC hr rfl dX11_isSign_21 ⟨rfl, h⟩
    · have h := gx_t h hc
      refine gw_iconst (v := 1) hC dX11_isSign_16 (by decide) ?_
      refine gw_goto (tgt := 21) hC dX11_isSign_17 (by decide) ?_
      exact gw_zret hC hr rfl dX11_isSign_21 ⟨rfl, h⟩
theorem c_X11_isSign {l : Launch} {d : gx_D} {w : gx_V} {ca : Nat → ClassId} (hw : gx_isR ca w)   {M : gx_M} {v1 : Int32} {Q : Int32 → Prop} (h : T_X11_isSign M v1 Q) : gx_Mi l d w yX11_isSign cX11_isSign 2 .boolean rm_X11_isSign [.ref (gx_ad w 0), .int v1] M (fun r M1 => M1 = M ∧ Q r) := fun sz =>
  gx_of (own := RX11) (by decide +kernel) rfl (Nat.le_of_ble_eq_true rfl) (fun z hC hl hR hsz hr => by subst hsz; exact J_X11_isSign hC hw hR hr  h) rfl
set_option maxRecDepth 20000 in
theorem J_X11_isWord {z : gx_X} {d : gx_D} {w : gx_V} {ca : Nat → ClassId} (hC : gx_C z d w cX11_isWord 2 RX11) (hw : gx_isR ca w) (hR : gx_R z = rm_X11_isWord) (hr : (gx_me z).sig.returnType = (some .boolean))   {M : gx_M} {v1 : Int32} {Q : Int32 → Prop} (h : T_X11_isWord M v1 Q) : GW z w 2 (gx_Qi w (fun r M1 => M1 = M ∧ Q r) (gx_s z).heap.size) M 0 [(0, .ref (gx_ad w 0)), (1, .int v1)] [] := by
  unfold T_X11_isWord at h
  refine gw_aload_n hC dX11_isWord_0 rfl 0 rfl ?_
  refine gw_get hC cl_X11 fg_X11_161 (hw.lt (by decide)) (gd_0 hw _) (gv_X11_15 _ _ _) dX11_isWord_1 ?_
  refine gw_iconst (v := 1) hC dX11_isWord_4 (by decide) ?_
  refine gw_icmp_ne (tgt := 20) hC dX11_isWord_5 (by decide) (fun hc => ?_) (fun hc => ?_)
  · have h := gx_f h hc
    refine gw_iconst (v := 0) hC dX11_isWord_20 (by decide) ?_
    exact gw_zret hC hr rfl dX11_isWord_21 ⟨rfl, h⟩
  · have h := gx_t h hc
    refine gw_aload_n hC dX11_isWord_8 rfl 0 rfl ?_
    refine gw_get hC cl_X11 fg_X11_173 (hw.lt (by decide)) (gd_0 hw _) (gv_X11_16 _ _ _) dX11_isWord_9 ?_
    refine gw_iload_n hC dX11_isWord_12 rfl 1 rfl ?_
    refine gw_icmp_ne (tgt := 20) hC dX11_isWord_13 (by decide) (fun hc => ?_) (fun hc => ?_)
    · have h := gx_f h hc
      refine gw_iconst (v := 0) hC dX11_isWord_20 (by decide) ?_
      exact gw_zret hC hr rfl dX11_isWord_21 ⟨rfl, h⟩
    · have h := gx_t h hc
      refine gw_iconst (v := 1) hC dX11_isWord_16 (by decide) ?_
      refine gw_goto (tgt := 21) hC dX11_isWord_17 (by decide) ?_
      exact gw_zret hC hr rfl dX11_isWord_21 ⟨rfl, h⟩
theorem c_X11_isWord {l : Launch} {d : gx_D} {w : gx_V} {ca : Nat → ClassId} (hw : gx_isR ca w)   {M : gx_M} {v1 : Int32} {Q : Int32 → Prop} (h : T_X11_isWord M v1 Q) : gx_Mi l d w yX11_isWord cX11_isWord 2 .boolean rm_X11_isWord [.ref (gx_ad w 0), .int v1] M (fun r M1 => M1 = M ∧ Q r) := fun sz =>
  gx_of (own := RX11) (by decide +kernel) rfl (Nat.le_of_ble_eq_true rfl) (fun z hC hl hR hsz hr => by subst hsz; exact J_X11_isWord hC hw hR hr  h) rfl
set_option maxRecDepth 20000 in
theorem J_X11_errs {z : gx_X} {d : gx_D} {w : gx_V} {ca : Nat → ClassId} (hC : gx_C z d w cX11_errs 2 RX11) (hw : gx_isR ca w) (hR : gx_R z = rm_X11_errs) (hr : (gx_me z).sig.returnType = none)   {M : gx_M} {v1 : Int32} {Q : gx_M → Prop} (h : T_X11_errs M v1 Q) : GW z w 2 (gx_Qv w Q (gx_s z).heap.size) M 0 [(0, .ref (gx_ad w 0)), (1, .int v1)] [] := by
  unfold T_X11_errs at h
  refine gw_aload_n hC dX11_errs_0 rfl 0 rfl ?_
  refine gw_get hC cl_X11 fg_X11_177 (hw.lt (by decide)) (gd_0 hw _) (gv_X11_17 _ _ _) dX11_errs_1 ?_
  refine gw_if_ne (tgt := 20) hC dX11_errs_4 (by decide) (fun hc => ?_) (fun hc => ?_)
  · have h := gx_f h hc
    exact gw_vret hC hr dX11_errs_20 h
  · have h := gx_t h hc
    refine gw_aload_n hC dX11_errs_7 rfl 0 rfl ?_
    refine gw_iload_n hC dX11_errs_8 rfl 1 rfl ?_
    refine gw_put hC cl_X11 fp_X11_177 (hw.lt (by decide)) (gd_0 hw _) ((gd_0 hw _).trans (gs_X11_17 _ _ _ _)) rfl rfl (by simp [fs_X11]) dX11_errs_9 ?_
    refine gw_nmM (fun M1 hM1 => ?_)
    have h := h M1 hM1
    refine gw_aload_n hC dX11_errs_12 rfl 0 rfl ?_
    refine gw_aload_n hC dX11_errs_13 rfl 0 rfl ?_
    refine gw_get hC cl_X11 fg_X11_158 (hw.lt (by decide)) (gd_0 hw _) (gv_X11_14 _ _ _) dX11_errs_14 ?_
    refine gw_put hC cl_X11 fp_X11_180 (hw.lt (by decide)) (gd_0 hw _) ((gd_0 hw _).trans (gs_X11_18 _ _ _ _)) rfl rfl (by simp [fs_X11]) dX11_errs_17 ?_
    refine gw_nmM (fun M2 hM2 => ?_)
    have h := h M2 hM2
    exact gw_vret hC hr dX11_errs_20 h
theorem c_X11_errs {l : Launch} {d : gx_D} {w : gx_V} {ca : Nat → ClassId} (hw : gx_isR ca w)   {M : gx_M} {v1 : Int32} {Q : gx_M → Prop} (h : T_X11_errs M v1 Q) : gx_Mv l d w yX11_errs cX11_errs 2 rm_X11_errs [.ref (gx_ad w 0), .int v1] M Q := fun sz =>
  gx_of (own := RX11) (by decide +kernel) rfl (Nat.le_of_ble_eq_true rfl) (fun z hC hl hR hsz hr => by subst hsz; exact J_X11_errs hC hw hR hr  h) rfl
set_option maxRecDepth 20000 in
theorem J_X11_emits {z : gx_X} {d : gx_D} {w : gx_V} {ca : Nat → ClassId} (hC : gx_C z d w cX11_emits 3 RX11) (hw : gx_isR ca w) (hR : gx_R z = rm_X11_emits) (hr : (gx_me z).sig.returnType = none)   {M : gx_M} {v1 : Int32} {v2 : Int32} {Q : gx_M → Prop} (h : T_X11_emits M v1 v2 Q) : GW z w 3 (gx_Qv w Q (gx_s z).heap.size) M 0 [(0, .ref (gx_ad w 0)), (1, .int v1), (2, .int v2)] [] := by
  unfold T_X11_emits at h
  refine gw_aload_n hC dX11_emits_0 rfl 0 rfl ?_
  refine gw_get hC cl_X11 fg_X11_63 (hw.lt (by decide)) (gd_0 hw _) (gv_X11_31 _ _ _) dX11_emits_1 ?_
  refine gw_aload_n hC dX11_emits_4 rfl 0 rfl ?_
  refine gw_get hC cl_X11 fg_X11_183 (hw.lt (by decide)) (gd_0 hw _) (gv_X11_30 _ _ _) dX11_emits_5 ?_
  refine gw_iload_n hC dX11_emits_8 rfl 1 rfl ?_
  obtain ⟨hi, h⟩ := h
  refine gw_iast hC (hw.lt (by decide)) (gd_16 hw) (gu_0 hw) hi dX11_emits_9 ?_
  refine gw_nmM (fun M1 hM1 => ?_)
  have h := h M1 hM1
  refine gw_aload_n hC dX11_emits_10 rfl 0 rfl ?_
  refine gw_get hC cl_X11 fg_X11_66 (hw.lt (by decide)) (gd_0 hw _) (gv_X11_32 _ _ _) dX11_emits_11 ?_
  refine gw_aload_n hC dX11_emits_14 rfl 0 rfl ?_
  refine gw_get hC cl_X11 fg_X11_183 (hw.lt (by decide)) (gd_0 hw _) (gv_X11_30 _ _ _) dX11_emits_15 ?_
  refine gw_iload_n hC dX11_emits_18 rfl 2 rfl ?_
  obtain ⟨hi, h⟩ := h
  refine gw_iast hC (hw.lt (by decide)) (gd_17 hw) (gu_0 hw) hi dX11_emits_19 ?_
  refine gw_nmM (fun M2 hM2 => ?_)
  have h := h M2 hM2
  refine gw_aload_n hC dX11_emits_20 rfl 0 rfl ?_
  refine gw_dup hC dX11_emits_21 rfl ?_
  refine gw_get hC cl_X11 fg_X11_183 (hw.lt (by decide)) (gd_0 hw _) (gv_X11_30 _ _ _) dX11_emits_22 ?_
  refine gw_iconst (v := 1) hC dX11_emits_25 (by decide) ?_
  refine gw_iadd hC dX11_emits_26 ?_
  refine gw_put hC cl_X11 fp_X11_183 (hw.lt (by decide)) (gd_0 hw _) ((gd_0 hw _).trans (gs_X11_30 _ _ _ _)) rfl rfl (by simp [fs_X11]) dX11_emits_27 ?_
  refine gw_nmM (fun M3 hM3 => ?_)
  have h := h M3 hM3
  exact gw_vret hC hr dX11_emits_30 h
theorem c_X11_emits {l : Launch} {d : gx_D} {w : gx_V} {ca : Nat → ClassId} (hw : gx_isR ca w)   {M : gx_M} {v1 : Int32} {v2 : Int32} {Q : gx_M → Prop} (h : T_X11_emits M v1 v2 Q) : gx_Mv l d w yX11_emits cX11_emits 3 rm_X11_emits [.ref (gx_ad w 0), .int v1, .int v2] M Q := fun sz =>
  gx_of (own := RX11) (by decide +kernel) rfl (Nat.le_of_ble_eq_true rfl) (fun z hC hl hR hsz hr => by subst hsz; exact J_X11_emits hC hw hR hr  h) rfl
set_option maxRecDepth 20000 in
theorem J_X11_opensFrame {z : gx_X} {d : gx_D} {w : gx_V} {ca : Nat → ClassId} (hC : gx_C z d w cX11_opensFrame 2 RX11) (hw : gx_isR ca w) (hR : gx_R z = rm_X11_opensFrame) (hr : (gx_me z).sig.returnType = none)   {M : gx_M} {v1 : Int32} {Q : gx_M → Prop} (h : T_X11_opensFrame M v1 Q) : GW z w 2 (gx_Qv w Q (gx_s z).heap.size) M 0 [(0, .ref (gx_ad w 0)), (1, .int v1)] [] := by
  unfold T_X11_opensFrame at h
  refine gw_aload_n hC dX11_opensFrame_0 rfl 0 rfl ?_
  refine gw_get hC cl_X11 fg_X11_45 (hw.lt (by decide)) (gd_0 hw _) (gv_X11_21 _ _ _) dX11_opensFrame_1 ?_
  refine gw_aload_n hC dX11_opensFrame_4 rfl 0 rfl ?_
  refine gw_get hC cl_X11 fg_X11_186 (hw.lt (by decide)) (gd_0 hw _) (gv_X11_20 _ _ _) dX11_opensFrame_5 ?_
  refine gw_iload_n hC dX11_opensFrame_8 rfl 1 rfl ?_
  obtain ⟨hi, h⟩ := h
  refine gw_iast hC (hw.lt (by decide)) (gd_10 hw) (gu_0 hw) hi dX11_opensFrame_9 ?_
  refine gw_nmM (fun M1 hM1 => ?_)
  have h := h M1 hM1
  refine gw_aload_n hC dX11_opensFrame_10 rfl 0 rfl ?_
  refine gw_dup hC dX11_opensFrame_11 rfl ?_
  refine gw_get hC cl_X11 fg_X11_186 (hw.lt (by decide)) (gd_0 hw _) (gv_X11_20 _ _ _) dX11_opensFrame_12 ?_
  refine gw_iconst (v := 1) hC dX11_opensFrame_15 (by decide) ?_
  refine gw_iadd hC dX11_opensFrame_16 ?_
  refine gw_put hC cl_X11 fp_X11_186 (hw.lt (by decide)) (gd_0 hw _) ((gd_0 hw _).trans (gs_X11_20 _ _ _ _)) rfl rfl (by simp [fs_X11]) dX11_opensFrame_17 ?_
  refine gw_nmM (fun M2 hM2 => ?_)
  have h := h M2 hM2
  exact gw_vret hC hr dX11_opensFrame_20 h
theorem c_X11_opensFrame {l : Launch} {d : gx_D} {w : gx_V} {ca : Nat → ClassId} (hw : gx_isR ca w)   {M : gx_M} {v1 : Int32} {Q : gx_M → Prop} (h : T_X11_opensFrame M v1 Q) : gx_Mv l d w yX11_opensFrame cX11_opensFrame 2 rm_X11_opensFrame [.ref (gx_ad w 0), .int v1] M Q := fun sz =>
  gx_of (own := RX11) (by decide +kernel) rfl (Nat.le_of_ble_eq_true rfl) (fun z hC hl hR hsz hr => by subst hsz; exact J_X11_opensFrame hC hw hR hr  h) rfl
set_option maxRecDepth 20000 in
theorem J_X11_top {z : gx_X} {d : gx_D} {w : gx_V} {ca : Nat → ClassId} (hC : gx_C z d w cX11_top 1 RX11) (hw : gx_isR ca w) (hR : gx_R z = rm_X11_top) (hr : (gx_me z).sig.returnType = (some .int))   {M : gx_M}  {Q : Int32 → Prop} (h : T_X11_top M  Q) : GW z w 1 (gx_Qi w (fun r M1 => M1 = M ∧ Q r) (gx_s z).heap.size) M 0 [(0, .ref (gx_ad w 0))] [] := by
  unfold T_X11_top at h
  refine gw_aload_n hC dX11_top_0 rfl 0 rfl ?_
  refine gw_get hC cl_X11 fg_X11_45 (hw.lt (by decide)) (gd_0 hw _) (gv_X11_21 _ _ _) dX11_top_1 ?_
  refine gw_aload_n hC dX11_top_4 rfl 0 rfl ?_
  refine gw_get hC cl_X11 fg_X11_186 (hw.lt (by decide)) (gd_0 hw _) (gv_X11_20 _ _ _) dX11_top_5 ?_
  refine gw_iconst (v := 1) hC dX11_top_8 (by decide) ?_
  refine gw_isub hC dX11_top_9 ?_
  obtain ⟨hi, h⟩ := h
  refine gw_iald hC (hw.lt (by decide)) (gd_10 hw _) (gu_0 hw) hi dX11_top_10 ?_
  exact gw_iret hC hr dX11_top_11 ⟨rfl, h⟩
theorem c_X11_top {l : Launch} {d : gx_D} {w : gx_V} {ca : Nat → ClassId} (hw : gx_isR ca w)   {M : gx_M}  {Q : Int32 → Prop} (h : T_X11_top M  Q) : gx_Mi l d w yX11_top cX11_top 1 .int rm_X11_top [.ref (gx_ad w 0)] M (fun r M1 => M1 = M ∧ Q r) := fun sz =>
  gx_of (own := RX11) (by decide +kernel) rfl (Nat.le_of_ble_eq_true rfl) (fun z hC hl hR hsz hr => by subst hsz; exact J_X11_top hC hw hR hr  h) rfl
set_option maxRecDepth 20000 in
theorem J_X11_opensSign {z : gx_X} {d : gx_D} {w : gx_V} {ca : Nat → ClassId} (hC : gx_C z d w cX11_opensSign 2 RX11) (hw : gx_isR ca w) (hR : gx_R z = rm_X11_opensSign) (hr : (gx_me z).sig.returnType = (some .boolean))   {M : gx_M} {v1 : Int32} {Q : Int32 → gx_M → Prop} (h : T_X11_opensSign M v1 Q) : GW z w 2 (gx_Qi w Q (gx_s z).heap.size) M 0 [(0, .ref (gx_ad w 0)), (1, .int v1)] [] := by
  unfold T_X11_opensSign at h
  refine gw_aload_n hC dX11_opensSign_0 rfl 0 rfl ?_
  refine gw_get hC cl_X11 fg_X11_189 (hw.lt (by decide)) (gd_0 hw _) (gv_X11_19 _ _ _) dX11_opensSign_1 ?_
  refine gw_bipush (v := 8) hC dX11_opensSign_4 (by decide) ?_
  refine gw_icmp_ne (tgt := 16) hC dX11_opensSign_6 (by decide) (fun hc => ?_) (fun hc => ?_)
  · have h := gx_f h hc
    refine gw_aload_n hC dX11_opensSign_16 rfl 0 rfl ?_
    refine gw_dup hC dX11_opensSign_17 rfl ?_
    refine gw_get hC cl_X11 fg_X11_189 (hw.lt (by decide)) (gd_0 hw _) (gv_X11_19 _ _ _) dX11_opensSign_18 ?_
    refine gw_iconst (v := 1) hC dX11_opensSign_21 (by decide) ?_
    refine gw_iadd hC dX11_opensSign_22 ?_
    refine gw_put hC cl_X11 fp_X11_189 (hw.lt (by decide)) (gd_0 hw _) ((gd_0 hw _).trans (gs_X11_19 _ _ _ _)) rfl rfl (by simp [fs_X11]) dX11_opensSign_23 ?_
    refine gw_nmM (fun M1 hM1 => ?_)
    have h := h M1 hM1
    refine gw_aload_n hC dX11_opensSign_26 rfl 0 rfl ?_
    refine gw_iload_n hC dX11_opensSign_27 rfl 1 rfl ?_
    refine gw_callv (gx_rV hC (n := 1) (As := [.int v1]) (rest := []) (fun sz => c_X11_opensFrame hw  h sz) cv_X11_195_X11_opensFrame (by rw [hR]; exact rr_X11_opensSign_X11_opensFrame) ⟨(hw.lt (by decide)), _, _, _, _, gd_0 hw _, cl_X11.1⟩ rfl rfl (Nat.le_of_ble_eq_true rfl) dX11_opensSign_28) ?_
    intro M2 h
    refine gw_aload_n hC dX11_opensSign_31 rfl 0 rfl ?_
    refine gw_callv (gx_rV hC (n := 0) (As := []) (rest := []) (fun sz => c_X11_next hw  h sz) cv_X11_198_X11_next (by rw [hR]; exact rr_X11_opensSign_X11_next) ⟨(hw.lt (by decide)), _, _, _, _, gd_0 hw _, cl_X11.1⟩ rfl rfl (Nat.le_of_ble_eq_true rfl) dX11_opensSign_32) ?_
    intro M3 h
    refine gw_iconst (v := 1) hC dX11_opensSign_35 (by decide) ?_
    exact gw_zret hC hr rfl dX11_opensSign_36 h
  · have h := gx_t h hc
    refine gw_aload_n hC dX11_opensSign_9 rfl 0 rfl ?_
    refine gw_iconst (v := 3) hC dX11_opensSign_10 (by decide) ?_
    refine gw_callv (gx_rV hC (n := 1) (As := [.int 3]) (rest := []) (fun sz => c_X11_errs hw  h sz) cv_X11_192_X11_errs (by rw [hR]; exact rr_X11_opensSign_X11_errs) ⟨(hw.lt (by decide)), _, _, _, _, gd_0 hw _, cl_X11.1⟩ rfl rfl (Nat.le_of_ble_eq_true rfl) dX11_opensSign_11) ?_
    intro M4 h
    refine gw_iconst (v := 0) hC dX11_opensSign_14 (by decide) ?_
    exact gw_zret hC hr rfl dX11_opensSign_15 h
theorem c_X11_opensSign {l : Launch} {d : gx_D} {w : gx_V} {ca : Nat → ClassId} (hw : gx_isR ca w)   {M : gx_M} {v1 : Int32} {Q : Int32 → gx_M → Prop} (h : T_X11_opensSign M v1 Q) : gx_Mi l d w yX11_opensSign cX11_opensSign 2 .boolean rm_X11_opensSign [.ref (gx_ad w 0), .int v1] M Q := fun sz =>
  gx_of (own := RX11) (by decide +kernel) rfl (Nat.le_of_ble_eq_true rfl) (fun z hC hl hR hsz hr => by subst hsz; exact J_X11_opensSign hC hw hR hr  h) rfl
set_option maxRecDepth 20000 in
theorem J_X11_rank_34 {z : gx_X} {d : gx_D} {w : gx_V} {ca : Nat → ClassId} (hC : gx_C z d w cX11_rank 1 RX11) (hw : gx_isR ca w) (hR : gx_R z = rm_X11_rank) (hr : (gx_me z).sig.returnType = (some .int)) {M : gx_M} {Q : Int32 → Prop}     (h : T_X11_rank_34 M Q  ) : GW z w 1 (gx_Qi w (fun r M1 => M1 = M ∧ Q r) (gx_s z).heap.size) M 34 [] [] := by
  unfold T_X11_rank_34 at h
  refine gw_iconst (v := 3) hC dX11_rank_34 (by decide) ?_
  refine gw_goto (tgt := 39) hC dX11_rank_35 (by decide) ?_
  exact gw_iret hC hr dX11_rank_39 ⟨rfl, h⟩
set_option maxRecDepth 20000 in
theorem J_X11_rank {z : gx_X} {d : gx_D} {w : gx_V} {ca : Nat → ClassId} (hC : gx_C z d w cX11_rank 1 RX11) (hw : gx_isR ca w) (hR : gx_R z = rm_X11_rank) (hr : (gx_me z).sig.returnType = (some .int))   {M : gx_M} {v0 : Int32} {Q : Int32 → Prop} (h : T_X11_rank M v0 Q) : GW z w 1 (gx_Qi w (fun r M1 => M1 = M ∧ Q r) (gx_s z).heap.size) M 0 [(0, .int v0)] [] := by
  unfold T_X11_rank at h
  refine gw_iload_n hC dX11_rank_0 rfl 0 rfl ?_
  refine gw_sipush (v := 407) hC dX11_rank_1 (by decide) ?_
  refine gw_icmp_ne (tgt := 11) hC dX11_rank_4 (by decide) (fun hc => ?_) (fun hc => ?_)
  · have h := gx_f h hc
    refine gw_iload_n hC dX11_rank_11 rfl 0 rfl ?_
    refine gw_sipush (v := 406) hC dX11_rank_12 (by decide) ?_
    refine gw_icmp_ne (tgt := 22) hC dX11_rank_15 (by decide) (fun hc => ?_) (fun hc => ?_)
    · have h := gx_f h hc
      refine gw_iload_n hC dX11_rank_22 rfl 0 rfl ?_
      refine gw_bipush (v := 43) hC dX11_rank_23 (by decide) ?_
      refine gw_icmp_eq (tgt := 34) hC dX11_rank_25 (by decide) (fun hc => ?_) (fun hc => ?_)
      · have h := gx_t h hc
        refine gw_sub (lv' := []) [] rfl ?_
        exact J_X11_rank_34 hC hw hR hr   h
      · have h := gx_f h hc
        refine gw_iload_n hC dX11_rank_28 rfl 0 rfl ?_
        refine gw_bipush (v := 45) hC dX11_rank_29 (by decide) ?_
        refine gw_icmp_ne (tgt := 38) hC dX11_rank_31 (by decide) (fun hc => ?_) (fun hc => ?_)
        · have h := gx_f h hc
          refine gw_iconst (v := 4) hC dX11_rank_38 (by decide) ?_
          exact gw_iret hC hr dX11_rank_39 ⟨rfl, h⟩
        · have h := gx_t h hc
          refine gw_sub (lv' := []) [] rfl ?_
          exact J_X11_rank_34 hC hw hR hr   h
    · have h := gx_t h hc
      refine gw_iconst (v := 2) hC dX11_rank_18 (by decide) ?_
      refine gw_goto (tgt := 39) hC dX11_rank_19 (by decide) ?_
      exact gw_iret hC hr dX11_rank_39 ⟨rfl, h⟩
  · have h := gx_t h hc
    refine gw_iconst (v := 1) hC dX11_rank_7 (by decide) ?_
    refine gw_goto (tgt := 39) hC dX11_rank_8 (by decide) ?_
    exact gw_iret hC hr dX11_rank_39 ⟨rfl, h⟩
theorem c_X11_rank {l : Launch} {d : gx_D} {w : gx_V} {ca : Nat → ClassId} (hw : gx_isR ca w)   {M : gx_M} {v0 : Int32} {Q : Int32 → Prop} (h : T_X11_rank M v0 Q) : gx_Mi l d w yX11_rank cX11_rank 1 .int rm_X11_rank [.int v0] M (fun r M1 => M1 = M ∧ Q r) := fun sz =>
  gx_of (own := RX11) (by decide +kernel) rfl (Nat.le_of_ble_eq_true rfl) (fun z hC hl hR hsz hr => by subst hsz; exact J_X11_rank hC hw hR hr  h) rfl
set_option maxRecDepth 20000 in
theorem J_X11_works_0 {z : gx_X} {d : gx_D} {w : gx_V} {ca : Nat → ClassId} (hC : gx_C z d w cX11_works 2 RX11) (hw : gx_isR ca w) (hR : gx_R z = rm_X11_works) (hr : (gx_me z).sig.returnType = none)  {Q : gx_M → Prop} {K70 : gx_M → Prop} (hK70 : ∀ (M : gx_M), K70 M → GW z w 2 (gx_Qv w Q (gx_s z).heap.size) M 70 [] []) : ∀ (n : Nat) (M : gx_M) (v1 : Int32) , T_X11_works_0 Q K70 n M v1 → GW z w 2 (gx_Qv w Q (gx_s z).heap.size) M 0 [(0, .ref (gx_ad w 0)), (1, .int v1)] [] := by
  intro n
  induction n with
  | zero =>
    intro M v1 h
    exact h.elim
  | succ n ih =>
    intro M v1 h
    rw [T_X11_works_0] at h
    refine gw_aload_n hC dX11_works_0 rfl 0 rfl ?_
    refine gw_get hC cl_X11 fg_X11_201 (hw.lt (by decide)) (gd_0 hw _) (gv_X11_23 _ _ _) dX11_works_1 ?_
    refine gw_if_le (tgt := 70) hC dX11_works_4 (by decide) (fun hc => ?_) (fun hc => ?_)
    · have h := gx_t h hc
      refine gw_sub (lv' := []) [] rfl ?_
      exact hK70 M h
    · have h := gx_f h hc
      refine gw_aload_n hC dX11_works_7 rfl 0 rfl ?_
      refine gw_get hC cl_X11 fg_X11_54 (hw.lt (by decide)) (gd_0 hw _) (gv_X11_25 _ _ _) dX11_works_8 ?_
      refine gw_aload_n hC dX11_works_11 rfl 0 rfl ?_
      refine gw_get hC cl_X11 fg_X11_201 (hw.lt (by decide)) (gd_0 hw _) (gv_X11_23 _ _ _) dX11_works_12 ?_
      refine gw_iconst (v := 1) hC dX11_works_15 (by decide) ?_
      refine gw_isub hC dX11_works_16 ?_
      obtain ⟨hi, h⟩ := h
      refine gw_iald hC (hw.lt (by decide)) (gd_13 hw _) (gu_0 hw) hi dX11_works_17 ?_
      refine gw_aload_n hC dX11_works_18 rfl 0 rfl ?_
      refine gw_get hC cl_X11 fg_X11_186 (hw.lt (by decide)) (gd_0 hw _) (gv_X11_20 _ _ _) dX11_works_19 ?_
      refine gw_icmp_ne (tgt := 70) hC dX11_works_22 (by decide) (fun hc => ?_) (fun hc => ?_)
      · have h := gx_f h hc
        refine gw_sub (lv' := []) [] rfl ?_
        exact hK70 M h
      · have h := gx_t h hc
        refine gw_aload_n hC dX11_works_25 rfl 0 rfl ?_
        refine gw_get hC cl_X11 fg_X11_51 (hw.lt (by decide)) (gd_0 hw _) (gv_X11_24 _ _ _) dX11_works_26 ?_
        refine gw_aload_n hC dX11_works_29 rfl 0 rfl ?_
        refine gw_get hC cl_X11 fg_X11_201 (hw.lt (by decide)) (gd_0 hw _) (gv_X11_23 _ _ _) dX11_works_30 ?_
        refine gw_iconst (v := 1) hC dX11_works_33 (by decide) ?_
        refine gw_isub hC dX11_works_34 ?_
        obtain ⟨hi, h⟩ := h
        refine gw_iald hC (hw.lt (by decide)) (gd_12 hw _) (gu_0 hw) hi dX11_works_35 ?_
        refine gw_calli (gx_rS hC (n := 1) (As := [.int (M 12 ((M 0 23) - 1).toNatClampNeg)]) (rest := []) (fun sz => c_X11_rank hw  h sz) cs_X11_204_X11_rank (by rw [hR]; exact rr_X11_works_X11_rank) rfl rfl (Nat.le_of_ble_eq_true rfl) dX11_works_36) ?_
        intro r1 m2 ⟨hm2, h⟩
        rw [hm2]
        refine gw_iload_n hC dX11_works_39 rfl 1 rfl ?_
        refine gw_icmp_lt (tgt := 70) hC dX11_works_40 (by decide) (fun hc => ?_) (fun hc => ?_)
        · have h := gx_t h hc
          refine gw_sub (lv' := []) [] rfl ?_
          exact hK70 M h
        · have h := gx_f h hc
          refine gw_aload_n hC dX11_works_43 rfl 0 rfl ?_
          refine gw_dup hC dX11_works_44 rfl ?_
          refine gw_get hC cl_X11 fg_X11_201 (hw.lt (by decide)) (gd_0 hw _) (gv_X11_23 _ _ _) dX11_works_45 ?_
          refine gw_iconst (v := 1) hC dX11_works_48 (by decide) ?_
          refine gw_isub hC dX11_works_49 ?_
          refine gw_put hC cl_X11 fp_X11_201 (hw.lt (by decide)) (gd_0 hw _) ((gd_0 hw _).trans (gs_X11_23 _ _ _ _)) rfl rfl (by simp [fs_X11]) dX11_works_50 ?_
          refine gw_nmM (fun M3 hM3 => ?_)
          have h := h M3 hM3
          refine gw_aload_n hC dX11_works_53 rfl 0 rfl ?_
          refine gw_aload_n hC dX11_works_54 rfl 0 rfl ?_
          refine gw_get hC cl_X11 fg_X11_51 (hw.lt (by decide)) (gd_0 hw _) (gv_X11_24 _ _ _) dX11_works_55 ?_
          refine gw_aload_n hC dX11_works_58 rfl 0 rfl ?_
          refine gw_get hC cl_X11 fg_X11_201 (hw.lt (by decide)) (gd_0 hw _) (gv_X11_23 _ _ _) dX11_works_59 ?_
          obtain ⟨hi, h⟩ := h
          refine gw_iald hC (hw.lt (by decide)) (gd_12 hw _) (gu_0 hw) hi dX11_works_62 ?_
          refine gw_iconst (v := 0) hC dX11_works_63 (by decide) ?_
          refine gw_callv (gx_rV hC (n := 2) (As := [.int (M3 12 (M3 0 23).toNatClampNeg), .int 0]) (rest := []) (fun sz => c_X11_emits hw  h sz) cv_X11_208_X11_emits (by rw [hR]; exact rr_X11_works_X11_emits) ⟨(hw.lt (by decide)), _, _, _, _, gd_0 hw _, cl_X11.1⟩ rfl rfl (Nat.le_of_ble_eq_true rfl) dX11_works_64) ?_
          intro M4 h
          refine gw_goto (tgt := 0) hC dX11_works_67 (by decide) ?_
          exact ih M4 v1 h
set_option maxRecDepth 20000 in
theorem J_X11_works {z : gx_X} {d : gx_D} {w : gx_V} {ca : Nat → ClassId} (hC : gx_C z d w cX11_works 2 RX11) (hw : gx_isR ca w) (hR : gx_R z = rm_X11_works) (hr : (gx_me z).sig.returnType = none)   {M : gx_M} {v1 : Int32} {Q : gx_M → Prop} (h : T_X11_works M v1 Q) : GW z w 2 (gx_Qv w Q (gx_s z).heap.size) M 0 [(0, .ref (gx_ad w 0)), (1, .int v1)] [] := by
  unfold T_X11_works at h
  obtain ⟨k5, h⟩ := h
  exact J_X11_works_0 hC hw hR hr (fun M6 h => by
      exact gw_vret hC hr dX11_works_70 h) k5 M v1 h
theorem c_X11_works {l : Launch} {d : gx_D} {w : gx_V} {ca : Nat → ClassId} (hw : gx_isR ca w)   {M : gx_M} {v1 : Int32} {Q : gx_M → Prop} (h : T_X11_works M v1 Q) : gx_Mv l d w yX11_works cX11_works 2 rm_X11_works [.ref (gx_ad w 0), .int v1] M Q := fun sz =>
  gx_of (own := RX11) (by decide +kernel) rfl (Nat.le_of_ble_eq_true rfl) (fun z hC hl hR hsz hr => by subst hsz; exact J_X11_works hC hw hR hr  h) rfl
set_option maxRecDepth 20000 in
theorem J_X11_waitsFor {z : gx_X} {d : gx_D} {w : gx_V} {ca : Nat → ClassId} (hC : gx_C z d w cX11_waitsFor 2 RX11) (hw : gx_isR ca w) (hR : gx_R z = rm_X11_waitsFor) (hr : (gx_me z).sig.returnType = none)   {M : gx_M} {v1 : Int32} {Q : gx_M → Prop} (h : T_X11_waitsFor M v1 Q) : GW z w 2 (gx_Qv w Q (gx_s z).heap.size) M 0 [(0, .ref (gx_ad w 0)), (1, .int v1)] [] := by
  unfold T_X11_waitsFor at h
  refine gw_aload_n hC dX11_waitsFor_0 rfl 0 rfl ?_
  refine gw_iload_n hC dX11_waitsFor_1 rfl 1 rfl ?_
  refine gw_calli (gx_rS hC (n := 1) (As := [.int v1]) (rest := [.ref (gx_ad w 0)]) (fun sz => c_X11_rank hw  h sz) cs_X11_204_X11_rank (by rw [hR]; exact rr_X11_waitsFor_X11_rank) rfl rfl (Nat.le_of_ble_eq_true rfl) dX11_waitsFor_2) ?_
  intro r1 m2 ⟨hm2, h⟩
  rw [hm2]
  refine gw_callv (gx_rV hC (n := 1) (As := [.int r1]) (rest := []) (fun sz => c_X11_works hw  h sz) cv_X11_212_X11_works (by rw [hR]; exact rr_X11_waitsFor_X11_works) ⟨(hw.lt (by decide)), _, _, _, _, gd_0 hw _, cl_X11.1⟩ rfl rfl (Nat.le_of_ble_eq_true rfl) dX11_waitsFor_5) ?_
  intro M3 h
  refine gw_aload_n hC dX11_waitsFor_8 rfl 0 rfl ?_
  refine gw_get hC cl_X11 fg_X11_51 (hw.lt (by decide)) (gd_0 hw _) (gv_X11_24 _ _ _) dX11_waitsFor_9 ?_
  refine gw_aload_n hC dX11_waitsFor_12 rfl 0 rfl ?_
  refine gw_get hC cl_X11 fg_X11_201 (hw.lt (by decide)) (gd_0 hw _) (gv_X11_23 _ _ _) dX11_waitsFor_13 ?_
  refine gw_iload_n hC dX11_waitsFor_16 rfl 1 rfl ?_
  obtain ⟨hi, h⟩ := h
  refine gw_iast hC (hw.lt (by decide)) (gd_12 hw) (gu_0 hw) hi dX11_waitsFor_17 ?_
  refine gw_nmM (fun M4 hM4 => ?_)
  have h := h M4 hM4
  refine gw_aload_n hC dX11_waitsFor_18 rfl 0 rfl ?_
  refine gw_get hC cl_X11 fg_X11_54 (hw.lt (by decide)) (gd_0 hw _) (gv_X11_25 _ _ _) dX11_waitsFor_19 ?_
  refine gw_aload_n hC dX11_waitsFor_22 rfl 0 rfl ?_
  refine gw_get hC cl_X11 fg_X11_201 (hw.lt (by decide)) (gd_0 hw _) (gv_X11_23 _ _ _) dX11_waitsFor_23 ?_
  refine gw_aload_n hC dX11_waitsFor_26 rfl 0 rfl ?_
  refine gw_get hC cl_X11 fg_X11_186 (hw.lt (by decide)) (gd_0 hw _) (gv_X11_20 _ _ _) dX11_waitsFor_27 ?_
  obtain ⟨hi, h⟩ := h
  refine gw_iast hC (hw.lt (by decide)) (gd_13 hw) (gu_0 hw) hi dX11_waitsFor_30 ?_
  refine gw_nmM (fun M5 hM5 => ?_)
  have h := h M5 hM5
  refine gw_aload_n hC dX11_waitsFor_31 rfl 0 rfl ?_
  refine gw_dup hC dX11_waitsFor_32 rfl ?_
  refine gw_get hC cl_X11 fg_X11_201 (hw.lt (by decide)) (gd_0 hw _) (gv_X11_23 _ _ _) dX11_waitsFor_33 ?_
  refine gw_iconst (v := 1) hC dX11_waitsFor_36 (by decide) ?_
  refine gw_iadd hC dX11_waitsFor_37 ?_
  refine gw_put hC cl_X11 fp_X11_201 (hw.lt (by decide)) (gd_0 hw _) ((gd_0 hw _).trans (gs_X11_23 _ _ _ _)) rfl rfl (by simp [fs_X11]) dX11_waitsFor_38 ?_
  refine gw_nmM (fun M6 hM6 => ?_)
  have h := h M6 hM6
  refine gw_aload_n hC dX11_waitsFor_41 rfl 0 rfl ?_
  refine gw_callv (gx_rV hC (n := 0) (As := []) (rest := []) (fun sz => c_X11_next hw  h sz) cv_X11_198_X11_next (by rw [hR]; exact rr_X11_waitsFor_X11_next) ⟨(hw.lt (by decide)), _, _, _, _, gd_0 hw _, cl_X11.1⟩ rfl rfl (Nat.le_of_ble_eq_true rfl) dX11_waitsFor_42) ?_
  intro M7 h
  exact gw_vret hC hr dX11_waitsFor_45 h
theorem c_X11_waitsFor {l : Launch} {d : gx_D} {w : gx_V} {ca : Nat → ClassId} (hw : gx_isR ca w)   {M : gx_M} {v1 : Int32} {Q : gx_M → Prop} (h : T_X11_waitsFor M v1 Q) : gx_Mv l d w yX11_waitsFor cX11_waitsFor 2 rm_X11_waitsFor [.ref (gx_ad w 0), .int v1] M Q := fun sz =>
  gx_of (own := RX11) (by decide +kernel) rfl (Nat.le_of_ble_eq_true rfl) (fun z hC hl hR hsz hr => by subst hsz; exact J_X11_waitsFor hC hw hR hr  h) rfl
set_option maxRecDepth 20000 in
theorem J_X11_asks {z : gx_X} {d : gx_D} {w : gx_V} {ca : Nat → ClassId} (hC : gx_C z d w cX11_asks 2 RX11) (hw : gx_isR ca w) (hR : gx_R z = rm_X11_asks) (hr : (gx_me z).sig.returnType = none)   {M : gx_M}  {Q : gx_M → Prop} (h : T_X11_asks M  Q) : GW z w 2 (gx_Qv w Q (gx_s z).heap.size) M 0 [(0, .ref (gx_ad w 0))] [] := by
  unfold T_X11_asks at h
  refine gw_aload_n hC dX11_asks_0 rfl 0 rfl ?_
  refine gw_iconst (v := 4) hC dX11_asks_1 (by decide) ?_
  refine gw_calli (gx_rV hC (n := 1) (As := [.int 4]) (rest := []) (fun sz => c_X11_isWord hw  h sz) cv_X11_215_X11_isWord (by rw [hR]; exact rr_X11_asks_X11_isWord) ⟨(hw.lt (by decide)), _, _, _, _, gd_0 hw _, cl_X11.1⟩ rfl rfl (Nat.le_of_ble_eq_true rfl) dX11_asks_2) ?_
  intro r1 m2 ⟨hm2, h⟩
  rw [hm2]
  refine gw_if_eq (tgt := 17) hC dX11_asks_5 (by decide) (fun hc => ?_) (fun hc => ?_)
  · have h := gx_t h hc
    refine gw_aload_n hC dX11_asks_17 rfl 0 rfl ?_
    refine gw_iconst (v := 4) hC dX11_asks_18 (by decide) ?_
    refine gw_callv (gx_rV hC (n := 1) (As := [.int 4]) (rest := []) (fun sz => c_X11_opensFrame hw  h sz) cv_X11_195_X11_opensFrame (by rw [hR]; exact rr_X11_asks_X11_opensFrame) ⟨(hw.lt (by decide)), _, _, _, _, gd_0 hw _, cl_X11.1⟩ rfl rfl (Nat.le_of_ble_eq_true rfl) dX11_asks_19) ?_
    intro M3 h
    refine gw_aload_n hC dX11_asks_22 rfl 0 rfl ?_
    refine gw_iconst (v := 1) hC dX11_asks_23 (by decide) ?_
    refine gw_put hC cl_X11 fp_X11_221 (hw.lt (by decide)) (gd_0 hw _) ((gd_0 hw _).trans (gs_X11_26 _ _ _ _)) rfl rfl (by simp [fs_X11]) dX11_asks_24 ?_
    refine gw_nmM (fun M4 hM4 => ?_)
    have h := h M4 hM4
    exact gw_vret hC hr dX11_asks_27 h
  · have h := gx_f h hc
    refine gw_aload_n hC dX11_asks_8 rfl 0 rfl ?_
    refine gw_iconst (v := 3) hC dX11_asks_9 (by decide) ?_
    refine gw_calli (gx_rV hC (n := 1) (As := [.int 3]) (rest := []) (fun sz => c_X11_opensSign hw  h sz) cv_X11_218_X11_opensSign (by rw [hR]; exact rr_X11_asks_X11_opensSign) ⟨(hw.lt (by decide)), _, _, _, _, gd_0 hw _, cl_X11.1⟩ rfl rfl (Nat.le_of_ble_eq_true rfl) dX11_asks_10) ?_
    intro r6 M5 h
    refine gw_istore_n (lv' := [(1, .int r6), (0, .ref (gx_ad w 0))]) hC dX11_asks_13 rfl (by decide) rfl ?_
    refine gw_goto (tgt := 27) hC dX11_asks_14 (by decide) ?_
    exact gw_vret hC hr dX11_asks_27 h
theorem c_X11_asks {l : Launch} {d : gx_D} {w : gx_V} {ca : Nat → ClassId} (hw : gx_isR ca w)   {M : gx_M}  {Q : gx_M → Prop} (h : T_X11_asks M  Q) : gx_Mv l d w yX11_asks cX11_asks 2 rm_X11_asks [.ref (gx_ad w 0)] M Q := fun sz =>
  gx_of (own := RX11) (by decide +kernel) rfl (Nat.le_of_ble_eq_true rfl) (fun z hC hl hR hsz hr => by subst hsz; exact J_X11_asks hC hw hR hr  h) rfl
set_option maxRecDepth 20000 in
theorem J_X11_oneIsOver_0 {z : gx_X} {d : gx_D} {w : gx_V} {ca : Nat → ClassId} (hC : gx_C z d w cX11_oneIsOver 1 RX11) (hw : gx_isR ca w) (hR : gx_R z = rm_X11_oneIsOver) (hr : (gx_me z).sig.returnType = none)  {Q : gx_M → Prop}   : ∀ (n : Nat) (M : gx_M) , T_X11_oneIsOver_0 Q  n M → GW z w 1 (gx_Qv w Q (gx_s z).heap.size) M 0 [(0, .ref (gx_ad w 0))] [] := by
  intro n
  induction n with
  | zero =>
    intro M h
    exact h.elim
  | succ n ih =>
    intro M h
    rw [T_X11_oneIsOver_0] at h
    refine gw_aload_n hC dX11_oneIsOver_0 rfl 0 rfl ?_
    refine gw_calli (gx_rV hC (n := 0) (As := []) (rest := []) (fun sz => c_X11_top hw  h sz) cv_X11_230_X11_top (by rw [hR]; exact rr_X11_oneIsOver_X11_top) ⟨(hw.lt (by decide)), _, _, _, _, gd_0 hw _, cl_X11.1⟩ rfl rfl (Nat.le_of_ble_eq_true rfl) dX11_oneIsOver_1) ?_
    intro r1 m2 ⟨hm2, h⟩
    rw [hm2]
    refine gw_bipush (v := 7) hC dX11_oneIsOver_4 (by decide) ?_
    refine gw_icmp_ne (tgt := 40) hC dX11_oneIsOver_6 (by decide) (fun hc => ?_) (fun hc => ?_)
    · have h := gx_f h hc
      refine gw_aload_n hC dX11_oneIsOver_40 rfl 0 rfl ?_
      refine gw_iconst (v := 2) hC dX11_oneIsOver_41 (by decide) ?_
      refine gw_put hC cl_X11 fp_X11_221 (hw.lt (by decide)) (gd_0 hw _) ((gd_0 hw _).trans (gs_X11_26 _ _ _ _)) rfl rfl (by simp [fs_X11]) dX11_oneIsOver_42 ?_
      refine gw_nmM (fun M3 hM3 => ?_)
      have h := h M3 hM3
      exact gw_vret hC hr dX11_oneIsOver_45 h
    · have h := gx_t h hc
      refine gw_aload_n hC dX11_oneIsOver_9 rfl 0 rfl ?_
      refine gw_dup hC dX11_oneIsOver_10 rfl ?_
      refine gw_get hC cl_X11 fg_X11_186 (hw.lt (by decide)) (gd_0 hw _) (gv_X11_20 _ _ _) dX11_oneIsOver_11 ?_
      refine gw_iconst (v := 1) hC dX11_oneIsOver_14 (by decide) ?_
      refine gw_isub hC dX11_oneIsOver_15 ?_
      refine gw_put hC cl_X11 fp_X11_186 (hw.lt (by decide)) (gd_0 hw _) ((gd_0 hw _).trans (gs_X11_20 _ _ _ _)) rfl rfl (by simp [fs_X11]) dX11_oneIsOver_16 ?_
      refine gw_nmM (fun M4 hM4 => ?_)
      have h := h M4 hM4
      refine gw_aload_n hC dX11_oneIsOver_19 rfl 0 rfl ?_
      refine gw_dup hC dX11_oneIsOver_20 rfl ?_
      refine gw_get hC cl_X11 fg_X11_189 (hw.lt (by decide)) (gd_0 hw _) (gv_X11_19 _ _ _) dX11_oneIsOver_21 ?_
      refine gw_iconst (v := 1) hC dX11_oneIsOver_24 (by decide) ?_
      refine gw_isub hC dX11_oneIsOver_25 ?_
      refine gw_put hC cl_X11 fp_X11_189 (hw.lt (by decide)) (gd_0 hw _) ((gd_0 hw _).trans (gs_X11_19 _ _ _ _)) rfl rfl (by simp [fs_X11]) dX11_oneIsOver_26 ?_
      refine gw_nmM (fun M5 hM5 => ?_)
      have h := h M5 hM5
      refine gw_aload_n hC dX11_oneIsOver_29 rfl 0 rfl ?_
      refine gw_sipush (v := 402) hC dX11_oneIsOver_30 (by decide) ?_
      refine gw_iconst (v := 0) hC dX11_oneIsOver_33 (by decide) ?_
      refine gw_callv (gx_rV hC (n := 2) (As := [.int 402, .int 0]) (rest := []) (fun sz => c_X11_emits hw  h sz) cv_X11_208_X11_emits (by rw [hR]; exact rr_X11_oneIsOver_X11_emits) ⟨(hw.lt (by decide)), _, _, _, _, gd_0 hw _, cl_X11.1⟩ rfl rfl (Nat.le_of_ble_eq_true rfl) dX11_oneIsOver_34) ?_
      intro M6 h
      refine gw_goto (tgt := 0) hC dX11_oneIsOver_37 (by decide) ?_
      exact ih M6 h
set_option maxRecDepth 20000 in
theorem J_X11_oneIsOver {z : gx_X} {d : gx_D} {w : gx_V} {ca : Nat → ClassId} (hC : gx_C z d w cX11_oneIsOver 1 RX11) (hw : gx_isR ca w) (hR : gx_R z = rm_X11_oneIsOver) (hr : (gx_me z).sig.returnType = none)   {M : gx_M}  {Q : gx_M → Prop} (h : T_X11_oneIsOver M  Q) : GW z w 1 (gx_Qv w Q (gx_s z).heap.size) M 0 [(0, .ref (gx_ad w 0))] [] := by
  unfold T_X11_oneIsOver at h
  obtain ⟨k7, h⟩ := h
  exact J_X11_oneIsOver_0 hC hw hR hr  k7 M h
theorem c_X11_oneIsOver {l : Launch} {d : gx_D} {w : gx_V} {ca : Nat → ClassId} (hw : gx_isR ca w)   {M : gx_M}  {Q : gx_M → Prop} (h : T_X11_oneIsOver M  Q) : gx_Mv l d w yX11_oneIsOver cX11_oneIsOver 1 rm_X11_oneIsOver [.ref (gx_ad w 0)] M Q := fun sz =>
  gx_of (own := RX11) (by decide +kernel) rfl (Nat.le_of_ble_eq_true rfl) (fun z hC hl hR hsz hr => by subst hsz; exact J_X11_oneIsOver hC hw hR hr  h) rfl
set_option maxRecDepth 20000 in
theorem J_X11_begins_88 {z : gx_X} {d : gx_D} {w : gx_V} {ca : Nat → ClassId} (hC : gx_C z d w cX11_begins 2 RX11) (hw : gx_isR ca w) (hR : gx_R z = rm_X11_begins) (hr : (gx_me z).sig.returnType = none)  {Q : gx_M → Prop}   (M : gx_M)  (h : T_X11_begins_88 Q  M) : GW z w 2 (gx_Qv w Q (gx_s z).heap.size) M 88 [(0, .ref (gx_ad w 0))] [] := by
  unfold T_X11_begins_88 at h
  refine gw_aload_n hC dX11_begins_88 rfl 0 rfl ?_
  refine gw_bipush (v := 40) hC dX11_begins_89 (by decide) ?_
  refine gw_calli (gx_rV hC (n := 1) (As := [.int 40]) (rest := []) (fun sz => c_X11_isSign hw  h sz) cv_X11_227_X11_isSign (by rw [hR]; exact rr_X11_begins_X11_isSign) ⟨(hw.lt (by decide)), _, _, _, _, gd_0 hw _, cl_X11.1⟩ rfl rfl (Nat.le_of_ble_eq_true rfl) dX11_begins_91) ?_
  intro r1 m2 ⟨hm2, h⟩
  rw [hm2]
  refine gw_if_eq (tgt := 107) hC dX11_begins_94 (by decide) (fun hc => ?_) (fun hc => ?_)
  · have h := gx_t h hc
    refine gw_aload_n hC dX11_begins_107 rfl 0 rfl ?_
    refine gw_bipush (v := 45) hC dX11_begins_108 (by decide) ?_
    refine gw_calli (gx_rV hC (n := 1) (As := [.int 45]) (rest := []) (fun sz => c_X11_isSign hw  h sz) cv_X11_227_X11_isSign (by rw [hR]; exact rr_X11_begins_X11_isSign) ⟨(hw.lt (by decide)), _, _, _, _, gd_0 hw _, cl_X11.1⟩ rfl rfl (Nat.le_of_ble_eq_true rfl) dX11_begins_110) ?_
    intro r3 m4 ⟨hm4, h⟩
    rw [hm4]
    refine gw_if_eq (tgt := 126) hC dX11_begins_113 (by decide) (fun hc => ?_) (fun hc => ?_)
    · have h := gx_t h hc
      refine gw_aload_n hC dX11_begins_126 rfl 0 rfl ?_
      refine gw_iconst (v := 1) hC dX11_begins_127 (by decide) ?_
      refine gw_callv (gx_rV hC (n := 1) (As := [.int 1]) (rest := []) (fun sz => c_X11_errs hw  h sz) cv_X11_192_X11_errs (by rw [hR]; exact rr_X11_begins_X11_errs) ⟨(hw.lt (by decide)), _, _, _, _, gd_0 hw _, cl_X11.1⟩ rfl rfl (Nat.le_of_ble_eq_true rfl) dX11_begins_128) ?_
      intro M5 h
      exact gw_vret hC hr dX11_begins_131 h
    · have h := gx_f h hc
      refine gw_aload_n hC dX11_begins_116 rfl 0 rfl ?_
      refine gw_bipush (v := 7) hC dX11_begins_117 (by decide) ?_
      refine gw_calli (gx_rV hC (n := 1) (As := [.int 7]) (rest := []) (fun sz => c_X11_opensSign hw  h sz) cv_X11_218_X11_opensSign (by rw [hR]; exact rr_X11_begins_X11_opensSign) ⟨(hw.lt (by decide)), _, _, _, _, gd_0 hw _, cl_X11.1⟩ rfl rfl (Nat.le_of_ble_eq_true rfl) dX11_begins_119) ?_
      intro r7 M6 h
      refine gw_istore_n (lv' := [(1, .int r7), (0, .ref (gx_ad w 0))]) hC dX11_begins_122 rfl (by decide) rfl ?_
      refine gw_goto (tgt := 131) hC dX11_begins_123 (by decide) ?_
      exact gw_vret hC hr dX11_begins_131 h
  · have h := gx_f h hc
    refine gw_aload_n hC dX11_begins_97 rfl 0 rfl ?_
    refine gw_bipush (v := 6) hC dX11_begins_98 (by decide) ?_
    refine gw_calli (gx_rV hC (n := 1) (As := [.int 6]) (rest := []) (fun sz => c_X11_opensSign hw  h sz) cv_X11_218_X11_opensSign (by rw [hR]; exact rr_X11_begins_X11_opensSign) ⟨(hw.lt (by decide)), _, _, _, _, gd_0 hw _, cl_X11.1⟩ rfl rfl (Nat.le_of_ble_eq_true rfl) dX11_begins_100) ?_
    intro r9 M8 h
    refine gw_istore_n (lv' := [(1, .int r9), (0, .ref (gx_ad w 0))]) hC dX11_begins_103 rfl (by decide) rfl ?_
    refine gw_goto (tgt := 131) hC dX11_begins_104 (by decide) ?_
    exact gw_vret hC hr dX11_begins_131 h
set_option maxRecDepth 20000 in
theorem J_X11_begins {z : gx_X} {d : gx_D} {w : gx_V} {ca : Nat → ClassId} (hC : gx_C z d w cX11_begins 2 RX11) (hw : gx_isR ca w) (hR : gx_R z = rm_X11_begins) (hr : (gx_me z).sig.returnType = none)   {M : gx_M}  {Q : gx_M → Prop} (h : T_X11_begins M  Q) : GW z w 2 (gx_Qv w Q (gx_s z).heap.size) M 0 [(0, .ref (gx_ad w 0))] [] := by
  unfold T_X11_begins at h
  refine gw_aload_n hC dX11_begins_0 rfl 0 rfl ?_
  refine gw_get hC cl_X11 fg_X11_161 (hw.lt (by decide)) (gd_0 hw _) (gv_X11_15 _ _ _) dX11_begins_1 ?_
  refine gw_iconst (v := 2) hC dX11_begins_4 (by decide) ?_
  refine gw_icmp_ne (tgt := 46) hC dX11_begins_5 (by decide) (fun hc => ?_) (fun hc => ?_)
  · have h := gx_f h hc
    refine gw_aload_n hC dX11_begins_46 rfl 0 rfl ?_
    refine gw_get hC cl_X11 fg_X11_161 (hw.lt (by decide)) (gd_0 hw _) (gv_X11_15 _ _ _) dX11_begins_47 ?_
    refine gw_iconst (v := 1) hC dX11_begins_50 (by decide) ?_
    refine gw_icmp_ne (tgt := 88) hC dX11_begins_51 (by decide) (fun hc => ?_) (fun hc => ?_)
    · have h := gx_f h hc
      exact J_X11_begins_88 hC hw hR hr  M h
    · have h := gx_t h hc
      refine gw_aload_n hC dX11_begins_54 rfl 0 rfl ?_
      refine gw_get hC cl_X11 fg_X11_173 (hw.lt (by decide)) (gd_0 hw _) (gv_X11_16 _ _ _) dX11_begins_55 ?_
      refine gw_iconst (v := 4) hC dX11_begins_58 (by decide) ?_
      refine gw_icmp_le (tgt := 88) hC dX11_begins_59 (by decide) (fun hc => ?_) (fun hc => ?_)
      · have h := gx_t h hc
        exact J_X11_begins_88 hC hw hR hr  M h
      · have h := gx_f h hc
        refine gw_aload_n hC dX11_begins_62 rfl 0 rfl ?_
        refine gw_sipush (v := 401) hC dX11_begins_63 (by decide) ?_
        refine gw_aload_n hC dX11_begins_66 rfl 0 rfl ?_
        refine gw_get hC cl_X11 fg_X11_173 (hw.lt (by decide)) (gd_0 hw _) (gv_X11_16 _ _ _) dX11_begins_67 ?_
        refine gw_iconst (v := 4) hC dX11_begins_70 (by decide) ?_
        refine gw_isub hC dX11_begins_71 ?_
        refine gw_iconst (v := 1) hC dX11_begins_72 (by decide) ?_
        refine gw_isub hC dX11_begins_73 ?_
        refine gw_callv (gx_rV hC (n := 2) (As := [.int 401, .int (((M 0 16) - 4) - 1)]) (rest := []) (fun sz => c_X11_emits hw  h sz) cv_X11_208_X11_emits (by rw [hR]; exact rr_X11_begins_X11_emits) ⟨(hw.lt (by decide)), _, _, _, _, gd_0 hw _, cl_X11.1⟩ rfl rfl (Nat.le_of_ble_eq_true rfl) dX11_begins_74) ?_
        intro M10 h
        refine gw_aload_n hC dX11_begins_77 rfl 0 rfl ?_
        refine gw_callv (gx_rV hC (n := 0) (As := []) (rest := []) (fun sz => c_X11_next hw  h sz) cv_X11_198_X11_next (by rw [hR]; exact rr_X11_begins_X11_next) ⟨(hw.lt (by decide)), _, _, _, _, gd_0 hw _, cl_X11.1⟩ rfl rfl (Nat.le_of_ble_eq_true rfl) dX11_begins_78) ?_
        intro M11 h
        refine gw_aload_n hC dX11_begins_81 rfl 0 rfl ?_
        refine gw_callv (gx_rV hC (n := 0) (As := []) (rest := []) (fun sz => c_X11_oneIsOver hw  h sz) cv_X11_224_X11_oneIsOver (by rw [hR]; exact rr_X11_begins_X11_oneIsOver) ⟨(hw.lt (by decide)), _, _, _, _, gd_0 hw _, cl_X11.1⟩ rfl rfl (Nat.le_of_ble_eq_true rfl) dX11_begins_82) ?_
        intro M12 h
        refine gw_goto (tgt := 131) hC dX11_begins_85 (by decide) ?_
        exact gw_vret hC hr dX11_begins_131 h
  · have h := gx_t h hc
    refine gw_aload_n hC dX11_begins_8 rfl 0 rfl ?_
    refine gw_get hC cl_X11 fg_X11_173 (hw.lt (by decide)) (gd_0 hw _) (gv_X11_16 _ _ _) dX11_begins_9 ?_
    refine gw_sipush (v := 9999) hC dX11_begins_12 (by decide) ?_
    refine gw_icmp_le (tgt := 24) hC dX11_begins_15 (by decide) (fun hc => ?_) (fun hc => ?_)
    · have h := gx_t h hc
      refine gw_aload_n hC dX11_begins_24 rfl 0 rfl ?_
      refine gw_sipush (v := 400) hC dX11_begins_25 (by decide) ?_
      refine gw_aload_n hC dX11_begins_28 rfl 0 rfl ?_
      refine gw_get hC cl_X11 fg_X11_173 (hw.lt (by decide)) (gd_0 hw _) (gv_X11_16 _ _ _) dX11_begins_29 ?_
      refine gw_callv (gx_rV hC (n := 2) (As := [.int 400, .int (M 0 16)]) (rest := []) (fun sz => c_X11_emits hw  h sz) cv_X11_208_X11_emits (by rw [hR]; exact rr_X11_begins_X11_emits) ⟨(hw.lt (by decide)), _, _, _, _, gd_0 hw _, cl_X11.1⟩ rfl rfl (Nat.le_of_ble_eq_true rfl) dX11_begins_32) ?_
      intro M13 h
      refine gw_aload_n hC dX11_begins_35 rfl 0 rfl ?_
      refine gw_callv (gx_rV hC (n := 0) (As := []) (rest := []) (fun sz => c_X11_next hw  h sz) cv_X11_198_X11_next (by rw [hR]; exact rr_X11_begins_X11_next) ⟨(hw.lt (by decide)), _, _, _, _, gd_0 hw _, cl_X11.1⟩ rfl rfl (Nat.le_of_ble_eq_true rfl) dX11_begins_36) ?_
      intro M14 h
      refine gw_aload_n hC dX11_begins_39 rfl 0 rfl ?_
      refine gw_callv (gx_rV hC (n := 0) (As := []) (rest := []) (fun sz => c_X11_oneIsOver hw  h sz) cv_X11_224_X11_oneIsOver (by rw [hR]; exact rr_X11_begins_X11_oneIsOver) ⟨(hw.lt (by decide)), _, _, _, _, gd_0 hw _, cl_X11.1⟩ rfl rfl (Nat.le_of_ble_eq_true rfl) dX11_begins_40) ?_
      intro M15 h
      refine gw_goto (tgt := 131) hC dX11_begins_43 (by decide) ?_
      exact gw_vret hC hr dX11_begins_131 h
    · have h := gx_f h hc
      refine gw_aload_n hC dX11_begins_18 rfl 0 rfl ?_
      refine gw_iconst (v := 2) hC dX11_begins_19 (by decide) ?_
      refine gw_callv (gx_rV hC (n := 1) (As := [.int 2]) (rest := []) (fun sz => c_X11_errs hw  h sz) cv_X11_192_X11_errs (by rw [hR]; exact rr_X11_begins_X11_errs) ⟨(hw.lt (by decide)), _, _, _, _, gd_0 hw _, cl_X11.1⟩ rfl rfl (Nat.le_of_ble_eq_true rfl) dX11_begins_20) ?_
      intro M16 h
      exact gw_vret hC hr dX11_begins_23 h
theorem c_X11_begins {l : Launch} {d : gx_D} {w : gx_V} {ca : Nat → ClassId} (hw : gx_isR ca w)   {M : gx_M}  {Q : gx_M → Prop} (h : T_X11_begins M  Q) : gx_Mv l d w yX11_begins cX11_begins 2 rm_X11_begins [.ref (gx_ad w 0)] M Q := fun sz =>
  gx_of (own := RX11) (by decide +kernel) rfl (Nat.le_of_ble_eq_true rfl) (fun z hC hl hR hsz hr => by subst hsz; exact J_X11_begins hC hw hR hr  h) rfl
set_option maxRecDepth 20000 in
theorem J_X11_askIsOver_0 {z : gx_X} {d : gx_D} {w : gx_V} {ca : Nat → ClassId} (hC : gx_C z d w cX11_askIsOver 1 RX11) (hw : gx_isR ca w) (hR : gx_R z = rm_X11_askIsOver) (hr : (gx_me z).sig.returnType = none)  {Q : gx_M → Prop}   : ∀ (n : Nat) (M : gx_M) , T_X11_askIsOver_0 Q  n M → GW z w 1 (gx_Qv w Q (gx_s z).heap.size) M 0 [(0, .ref (gx_ad w 0))] [] := by
  intro n
  induction n with
  | zero =>
    intro M h
    exact h.elim
  | succ n ih =>
    intro M h
    rw [T_X11_askIsOver_0] at h
    refine gw_aload_n hC dX11_askIsOver_0 rfl 0 rfl ?_
    refine gw_calli (gx_rV hC (n := 0) (As := []) (rest := []) (fun sz => c_X11_top hw  h sz) cv_X11_230_X11_top (by rw [hR]; exact rr_X11_askIsOver_X11_top) ⟨(hw.lt (by decide)), _, _, _, _, gd_0 hw _, cl_X11.1⟩ rfl rfl (Nat.le_of_ble_eq_true rfl) dX11_askIsOver_1) ?_
    intro r1 m2 ⟨hm2, h⟩
    rw [hm2]
    refine gw_iconst (v := 3) hC dX11_askIsOver_4 (by decide) ?_
    refine gw_icmp_ne (tgt := 39) hC dX11_askIsOver_5 (by decide) (fun hc => ?_) (fun hc => ?_)
    · have h := gx_f h hc
      refine gw_aload_n hC dX11_askIsOver_39 rfl 0 rfl ?_
      refine gw_iconst (v := 3) hC dX11_askIsOver_40 (by decide) ?_
      refine gw_put hC cl_X11 fp_X11_221 (hw.lt (by decide)) (gd_0 hw _) ((gd_0 hw _).trans (gs_X11_26 _ _ _ _)) rfl rfl (by simp [fs_X11]) dX11_askIsOver_41 ?_
      refine gw_nmM (fun M3 hM3 => ?_)
      have h := h M3 hM3
      exact gw_vret hC hr dX11_askIsOver_44 h
    · have h := gx_t h hc
      refine gw_aload_n hC dX11_askIsOver_8 rfl 0 rfl ?_
      refine gw_dup hC dX11_askIsOver_9 rfl ?_
      refine gw_get hC cl_X11 fg_X11_186 (hw.lt (by decide)) (gd_0 hw _) (gv_X11_20 _ _ _) dX11_askIsOver_10 ?_
      refine gw_iconst (v := 1) hC dX11_askIsOver_13 (by decide) ?_
      refine gw_isub hC dX11_askIsOver_14 ?_
      refine gw_put hC cl_X11 fp_X11_186 (hw.lt (by decide)) (gd_0 hw _) ((gd_0 hw _).trans (gs_X11_20 _ _ _ _)) rfl rfl (by simp [fs_X11]) dX11_askIsOver_15 ?_
      refine gw_nmM (fun M4 hM4 => ?_)
      have h := h M4 hM4
      refine gw_aload_n hC dX11_askIsOver_18 rfl 0 rfl ?_
      refine gw_dup hC dX11_askIsOver_19 rfl ?_
      refine gw_get hC cl_X11 fg_X11_189 (hw.lt (by decide)) (gd_0 hw _) (gv_X11_19 _ _ _) dX11_askIsOver_20 ?_
      refine gw_iconst (v := 1) hC dX11_askIsOver_23 (by decide) ?_
      refine gw_isub hC dX11_askIsOver_24 ?_
      refine gw_put hC cl_X11 fp_X11_189 (hw.lt (by decide)) (gd_0 hw _) ((gd_0 hw _).trans (gs_X11_19 _ _ _ _)) rfl rfl (by simp [fs_X11]) dX11_askIsOver_25 ?_
      refine gw_nmM (fun M5 hM5 => ?_)
      have h := h M5 hM5
      refine gw_aload_n hC dX11_askIsOver_28 rfl 0 rfl ?_
      refine gw_sipush (v := 405) hC dX11_askIsOver_29 (by decide) ?_
      refine gw_iconst (v := 0) hC dX11_askIsOver_32 (by decide) ?_
      refine gw_callv (gx_rV hC (n := 2) (As := [.int 405, .int 0]) (rest := []) (fun sz => c_X11_emits hw  h sz) cv_X11_208_X11_emits (by rw [hR]; exact rr_X11_askIsOver_X11_emits) ⟨(hw.lt (by decide)), _, _, _, _, gd_0 hw _, cl_X11.1⟩ rfl rfl (Nat.le_of_ble_eq_true rfl) dX11_askIsOver_33) ?_
      intro M6 h
      refine gw_goto (tgt := 0) hC dX11_askIsOver_36 (by decide) ?_
      exact ih M6 h
set_option maxRecDepth 20000 in
theorem J_X11_askIsOver {z : gx_X} {d : gx_D} {w : gx_V} {ca : Nat → ClassId} (hC : gx_C z d w cX11_askIsOver 1 RX11) (hw : gx_isR ca w) (hR : gx_R z = rm_X11_askIsOver) (hr : (gx_me z).sig.returnType = none)   {M : gx_M}  {Q : gx_M → Prop} (h : T_X11_askIsOver M  Q) : GW z w 1 (gx_Qv w Q (gx_s z).heap.size) M 0 [(0, .ref (gx_ad w 0))] [] := by
  unfold T_X11_askIsOver at h
  obtain ⟨k7, h⟩ := h
  exact J_X11_askIsOver_0 hC hw hR hr  k7 M h
theorem c_X11_askIsOver {l : Launch} {d : gx_D} {w : gx_V} {ca : Nat → ClassId} (hw : gx_isR ca w)   {M : gx_M}  {Q : gx_M → Prop} (h : T_X11_askIsOver M  Q) : gx_Mv l d w yX11_askIsOver cX11_askIsOver 1 rm_X11_askIsOver [.ref (gx_ad w 0)] M Q := fun sz =>
  gx_of (own := RX11) (by decide +kernel) rfl (Nat.le_of_ble_eq_true rfl) (fun z hC hl hR hsz hr => by subst hsz; exact J_X11_askIsOver hC hw hR hr  h) rfl
set_option maxRecDepth 20000 in
theorem J_X11_isAsking_38 {z : gx_X} {d : gx_D} {w : gx_V} {ca : Nat → ClassId} (hC : gx_C z d w cX11_isAsking 1 RX11) (hw : gx_isR ca w) (hR : gx_R z = rm_X11_isAsking) (hr : (gx_me z).sig.returnType = (some .boolean)) {M : gx_M} {Q : Int32 → Prop}     (h : T_X11_isAsking_38 M Q  ) : GW z w 1 (gx_Qi w (fun r M1 => M1 = M ∧ Q r) (gx_s z).heap.size) M 38 [] [] := by
  unfold T_X11_isAsking_38 at h
  refine gw_iconst (v := 1) hC dX11_isAsking_38 (by decide) ?_
  refine gw_goto (tgt := 43) hC dX11_isAsking_39 (by decide) ?_
  exact gw_zret hC hr rfl dX11_isAsking_43 ⟨rfl, h⟩
set_option maxRecDepth 20000 in
theorem J_X11_isAsking {z : gx_X} {d : gx_D} {w : gx_V} {ca : Nat → ClassId} (hC : gx_C z d w cX11_isAsking 1 RX11) (hw : gx_isR ca w) (hR : gx_R z = rm_X11_isAsking) (hr : (gx_me z).sig.returnType = (some .boolean))   {M : gx_M} {v0 : Int32} {Q : Int32 → Prop} (h : T_X11_isAsking M v0 Q) : GW z w 1 (gx_Qi w (fun r M1 => M1 = M ∧ Q r) (gx_s z).heap.size) M 0 [(0, .int v0)] [] := by
  unfold T_X11_isAsking at h
  refine gw_iload_n hC dX11_isAsking_0 rfl 0 rfl ?_
  refine gw_bipush (v := 60) hC dX11_isAsking_1 (by decide) ?_
  refine gw_icmp_eq (tgt := 38) hC dX11_isAsking_3 (by decide) (fun hc => ?_) (fun hc => ?_)
  · have h := gx_t h hc
    refine gw_sub (lv' := []) [] rfl ?_
    exact J_X11_isAsking_38 hC hw hR hr   h
  · have h := gx_f h hc
    refine gw_iload_n hC dX11_isAsking_6 rfl 0 rfl ?_
    refine gw_bipush (v := 62) hC dX11_isAsking_7 (by decide) ?_
    refine gw_icmp_eq (tgt := 38) hC dX11_isAsking_9 (by decide) (fun hc => ?_) (fun hc => ?_)
    · have h := gx_t h hc
      refine gw_sub (lv' := []) [] rfl ?_
      exact J_X11_isAsking_38 hC hw hR hr   h
    · have h := gx_f h hc
      refine gw_iload_n hC dX11_isAsking_12 rfl 0 rfl ?_
      refine gw_bipush (v := 61) hC dX11_isAsking_13 (by decide) ?_
      refine gw_icmp_eq (tgt := 38) hC dX11_isAsking_15 (by decide) (fun hc => ?_) (fun hc => ?_)
      · have h := gx_t h hc
        refine gw_sub (lv' := []) [] rfl ?_
        exact J_X11_isAsking_38 hC hw hR hr   h
      · have h := gx_f h hc
        refine gw_iload_n hC dX11_isAsking_18 rfl 0 rfl ?_
        refine gw_bipush (v := 35) hC dX11_isAsking_19 (by decide) ?_
        refine gw_icmp_eq (tgt := 38) hC dX11_isAsking_21 (by decide) (fun hc => ?_) (fun hc => ?_)
        · have h := gx_t h hc
          refine gw_sub (lv' := []) [] rfl ?_
          exact J_X11_isAsking_38 hC hw hR hr   h
        · have h := gx_f h hc
          refine gw_iload_n hC dX11_isAsking_24 rfl 0 rfl ?_
          refine gw_sipush (v := 300) hC dX11_isAsking_25 (by decide) ?_
          refine gw_icmp_eq (tgt := 38) hC dX11_isAsking_28 (by decide) (fun hc => ?_) (fun hc => ?_)
          · have h := gx_t h hc
            refine gw_sub (lv' := []) [] rfl ?_
            exact J_X11_isAsking_38 hC hw hR hr   h
          · have h := gx_f h hc
            refine gw_iload_n hC dX11_isAsking_31 rfl 0 rfl ?_
            refine gw_sipush (v := 301) hC dX11_isAsking_32 (by decide) ?_
            refine gw_icmp_ne (tgt := 42) hC dX11_isAsking_35 (by decide) (fun hc => ?_) (fun hc => ?_)
            · have h := gx_f h hc
              refine gw_iconst (v := 0) hC dX11_isAsking_42 (by decide) ?_
              exact gw_zret hC hr rfl dX11_isAsking_43 ⟨rfl, h⟩
            · have h := gx_t h hc
              refine gw_sub (lv' := []) [] rfl ?_
              exact J_X11_isAsking_38 hC hw hR hr   h
theorem c_X11_isAsking {l : Launch} {d : gx_D} {w : gx_V} {ca : Nat → ClassId} (hw : gx_isR ca w)   {M : gx_M} {v0 : Int32} {Q : Int32 → Prop} (h : T_X11_isAsking M v0 Q) : gx_Mi l d w yX11_isAsking cX11_isAsking 1 .boolean rm_X11_isAsking [.int v0] M (fun r M1 => M1 = M ∧ Q r) := fun sz =>
  gx_of (own := RX11) (by decide +kernel) rfl (Nat.le_of_ble_eq_true rfl) (fun z hC hl hR hsz hr => by subst hsz; exact J_X11_isAsking hC hw hR hr  h) rfl
set_option maxRecDepth 20000 in
theorem J_X11_clauseIsOver {z : gx_X} {d : gx_D} {w : gx_V} {ca : Nat → ClassId} (hC : gx_C z d w cX11_clauseIsOver 1 RX11) (hw : gx_isR ca w) (hR : gx_R z = rm_X11_clauseIsOver) (hr : (gx_me z).sig.returnType = none)   {M : gx_M}  {Q : gx_M → Prop} (h : T_X11_clauseIsOver M  Q) : GW z w 1 (gx_Qv w Q (gx_s z).heap.size) M 0 [(0, .ref (gx_ad w 0))] [] := by
  unfold T_X11_clauseIsOver at h
  refine gw_aload_n hC dX11_clauseIsOver_0 rfl 0 rfl ?_
  refine gw_iconst (v := 1) hC dX11_clauseIsOver_1 (by decide) ?_
  refine gw_callv (gx_rV hC (n := 1) (As := [.int 1]) (rest := []) (fun sz => c_X11_works hw  h sz) cv_X11_212_X11_works (by rw [hR]; exact rr_X11_clauseIsOver_X11_works) ⟨(hw.lt (by decide)), _, _, _, _, gd_0 hw _, cl_X11.1⟩ rfl rfl (Nat.le_of_ble_eq_true rfl) dX11_clauseIsOver_2) ?_
  intro M1 h
  refine gw_aload_n hC dX11_clauseIsOver_5 rfl 0 rfl ?_
  refine gw_iconst (v := 0) hC dX11_clauseIsOver_6 (by decide) ?_
  refine gw_put hC cl_X11 fp_X11_186 (hw.lt (by decide)) (gd_0 hw _) ((gd_0 hw _).trans (gs_X11_20 _ _ _ _)) rfl rfl (by simp [fs_X11]) dX11_clauseIsOver_7 ?_
  refine gw_nmM (fun M2 hM2 => ?_)
  have h := h M2 hM2
  refine gw_aload_n hC dX11_clauseIsOver_10 rfl 0 rfl ?_
  refine gw_sipush (v := 408) hC dX11_clauseIsOver_11 (by decide) ?_
  refine gw_iconst (v := 0) hC dX11_clauseIsOver_14 (by decide) ?_
  refine gw_callv (gx_rV hC (n := 2) (As := [.int 408, .int 0]) (rest := []) (fun sz => c_X11_emits hw  h sz) cv_X11_208_X11_emits (by rw [hR]; exact rr_X11_clauseIsOver_X11_emits) ⟨(hw.lt (by decide)), _, _, _, _, gd_0 hw _, cl_X11.1⟩ rfl rfl (Nat.le_of_ble_eq_true rfl) dX11_clauseIsOver_15) ?_
  intro M3 h
  refine gw_aload_n hC dX11_clauseIsOver_18 rfl 0 rfl ?_
  refine gw_dup hC dX11_clauseIsOver_19 rfl ?_
  refine gw_get hC cl_X11 fg_X11_246 (hw.lt (by decide)) (gd_0 hw _) (gv_X11_27 _ _ _) dX11_clauseIsOver_20 ?_
  refine gw_iconst (v := 1) hC dX11_clauseIsOver_23 (by decide) ?_
  refine gw_iadd hC dX11_clauseIsOver_24 ?_
  refine gw_put hC cl_X11 fp_X11_246 (hw.lt (by decide)) (gd_0 hw _) ((gd_0 hw _).trans (gs_X11_27 _ _ _ _)) rfl rfl (by simp [fs_X11]) dX11_clauseIsOver_25 ?_
  refine gw_nmM (fun M4 hM4 => ?_)
  have h := h M4 hM4
  refine gw_aload_n hC dX11_clauseIsOver_28 rfl 0 rfl ?_
  refine gw_callv (gx_rV hC (n := 0) (As := []) (rest := []) (fun sz => c_X11_next hw  h sz) cv_X11_198_X11_next (by rw [hR]; exact rr_X11_clauseIsOver_X11_next) ⟨(hw.lt (by decide)), _, _, _, _, gd_0 hw _, cl_X11.1⟩ rfl rfl (Nat.le_of_ble_eq_true rfl) dX11_clauseIsOver_29) ?_
  intro M5 h
  refine gw_aload_n hC dX11_clauseIsOver_32 rfl 0 rfl ?_
  refine gw_iconst (v := 4) hC dX11_clauseIsOver_33 (by decide) ?_
  refine gw_put hC cl_X11 fp_X11_221 (hw.lt (by decide)) (gd_0 hw _) ((gd_0 hw _).trans (gs_X11_26 _ _ _ _)) rfl rfl (by simp [fs_X11]) dX11_clauseIsOver_34 ?_
  refine gw_nmM (fun M6 hM6 => ?_)
  have h := h M6 hM6
  exact gw_vret hC hr dX11_clauseIsOver_37 h
theorem c_X11_clauseIsOver {l : Launch} {d : gx_D} {w : gx_V} {ca : Nat → ClassId} (hw : gx_isR ca w)   {M : gx_M}  {Q : gx_M → Prop} (h : T_X11_clauseIsOver M  Q) : gx_Mv l d w yX11_clauseIsOver cX11_clauseIsOver 1 rm_X11_clauseIsOver [.ref (gx_ad w 0)] M Q := fun sz =>
  gx_of (own := RX11) (by decide +kernel) rfl (Nat.le_of_ble_eq_true rfl) (fun z hC hl hR hsz hr => by subst hsz; exact J_X11_clauseIsOver hC hw hR hr  h) rfl
set_option maxRecDepth 20000 in
theorem J_X11_goesOn_245 {z : gx_X} {d : gx_D} {w : gx_V} {ca : Nat → ClassId} (hC : gx_C z d w cX11_goesOn 3 RX11) (hw : gx_isR ca w) (hR : gx_R z = rm_X11_goesOn) (hr : (gx_me z).sig.returnType = none)  {Q : gx_M → Prop}   (M : gx_M)  (h : T_X11_goesOn_245 Q  M) : GW z w 3 (gx_Qv w Q (gx_s z).heap.size) M 245 [(0, .ref (gx_ad w 0))] [] := by
  unfold T_X11_goesOn_245 at h
  refine gw_aload_n hC dX11_goesOn_245 rfl 0 rfl ?_
  refine gw_iconst (v := 1) hC dX11_goesOn_246 (by decide) ?_
  refine gw_callv (gx_rV hC (n := 1) (As := [.int 1]) (rest := []) (fun sz => c_X11_errs hw  h sz) cv_X11_192_X11_errs (by rw [hR]; exact rr_X11_goesOn_X11_errs) ⟨(hw.lt (by decide)), _, _, _, _, gd_0 hw _, cl_X11.1⟩ rfl rfl (Nat.le_of_ble_eq_true rfl) dX11_goesOn_247) ?_
  intro M3 h
  exact gw_vret hC hr dX11_goesOn_250 h
set_option maxRecDepth 20000 in
theorem J_X11_goesOn_181 {z : gx_X} {d : gx_D} {w : gx_V} {ca : Nat → ClassId} (hC : gx_C z d w cX11_goesOn 3 RX11) (hw : gx_isR ca w) (hR : gx_R z = rm_X11_goesOn) (hr : (gx_me z).sig.returnType = none)  {Q : gx_M → Prop}   (M : gx_M) (v1 : Int32)  (h : T_X11_goesOn_181 Q  M v1) : GW z w 3 (gx_Qv w Q (gx_s z).heap.size) M 181 [(0, .ref (gx_ad w 0)), (1, .int v1)] [] := by
  unfold T_X11_goesOn_181 at h
  refine gw_iload_n hC dX11_goesOn_181 rfl 1 rfl ?_
  refine gw_iconst (v := 5) hC dX11_goesOn_182 (by decide) ?_
  refine gw_icmp_ne (tgt := 224) hC dX11_goesOn_183 (by decide) (fun hc => ?_) (fun hc => ?_)
  · have h := gx_f h hc
    refine gw_iload_n hC dX11_goesOn_224 rfl 1 rfl ?_
    refine gw_iconst (v := 1) hC dX11_goesOn_225 (by decide) ?_
    refine gw_icmp_ne (tgt := 245) hC dX11_goesOn_226 (by decide) (fun hc => ?_) (fun hc => ?_)
    · have h := gx_f h hc
      refine gw_sub (lv' := [(0, .ref (gx_ad w 0))]) [0] rfl ?_
      exact J_X11_goesOn_245 hC hw hR hr  M h
    · have h := gx_t h hc
      refine gw_aload_n hC dX11_goesOn_229 rfl 0 rfl ?_
      refine gw_bipush (v := 59) hC dX11_goesOn_230 (by decide) ?_
      refine gw_calli (gx_rV hC (n := 1) (As := [.int 59]) (rest := []) (fun sz => c_X11_isSign hw  h sz) cv_X11_227_X11_isSign (by rw [hR]; exact rr_X11_goesOn_X11_isSign) ⟨(hw.lt (by decide)), _, _, _, _, gd_0 hw _, cl_X11.1⟩ rfl rfl (Nat.le_of_ble_eq_true rfl) dX11_goesOn_232) ?_
      intro r4 m5 ⟨hm5, h⟩
      rw [hm5]
      refine gw_if_eq (tgt := 245) hC dX11_goesOn_235 (by decide) (fun hc => ?_) (fun hc => ?_)
      · have h := gx_t h hc
        refine gw_sub (lv' := [(0, .ref (gx_ad w 0))]) [0] rfl ?_
        exact J_X11_goesOn_245 hC hw hR hr  M h
      · have h := gx_f h hc
        refine gw_aload_n hC dX11_goesOn_238 rfl 0 rfl ?_
        refine gw_callv (gx_rV hC (n := 0) (As := []) (rest := []) (fun sz => c_X11_clauseIsOver hw  h sz) cv_X11_243_X11_clauseIsOver (by rw [hR]; exact rr_X11_goesOn_X11_clauseIsOver) ⟨(hw.lt (by decide)), _, _, _, _, gd_0 hw _, cl_X11.1⟩ rfl rfl (Nat.le_of_ble_eq_true rfl) dX11_goesOn_239) ?_
        intro M6 h
        refine gw_goto (tgt := 250) hC dX11_goesOn_242 (by decide) ?_
        exact gw_vret hC hr dX11_goesOn_250 h
  · have h := gx_t h hc
    refine gw_aload_n hC dX11_goesOn_186 rfl 0 rfl ?_
    refine gw_iconst (v := 3) hC dX11_goesOn_187 (by decide) ?_
    refine gw_callv (gx_rV hC (n := 1) (As := [.int 3]) (rest := []) (fun sz => c_X11_works hw  h sz) cv_X11_212_X11_works (by rw [hR]; exact rr_X11_goesOn_X11_works) ⟨(hw.lt (by decide)), _, _, _, _, gd_0 hw _, cl_X11.1⟩ rfl rfl (Nat.le_of_ble_eq_true rfl) dX11_goesOn_188) ?_
    intro M7 h
    refine gw_aload_n hC dX11_goesOn_191 rfl 0 rfl ?_
    refine gw_get hC cl_X11 fg_X11_48 (hw.lt (by decide)) (gd_0 hw _) (gv_X11_22 _ _ _) dX11_goesOn_192 ?_
    refine gw_aload_n hC dX11_goesOn_195 rfl 0 rfl ?_
    refine gw_get hC cl_X11 fg_X11_186 (hw.lt (by decide)) (gd_0 hw _) (gv_X11_20 _ _ _) dX11_goesOn_196 ?_
    obtain ⟨hi, h⟩ := h
    refine gw_iald hC (hw.lt (by decide)) (gd_11 hw _) (gu_0 hw) hi dX11_goesOn_199 ?_
    refine gw_nm (fun x8 hx8 => ?_)
    have h := h x8 hx8
    refine gw_istore_n (lv' := [(2, .int x8), (0, .ref (gx_ad w 0)), (1, .int v1)]) hC dX11_goesOn_200 rfl (by decide) rfl ?_
    refine gw_aload_n hC dX11_goesOn_201 rfl 1 rfl ?_
    refine gw_dup hC dX11_goesOn_202 rfl ?_
    refine gw_get hC cl_X11 fg_X11_186 (hw.lt (by decide)) (gd_0 hw _) (gv_X11_20 _ _ _) dX11_goesOn_203 ?_
    refine gw_iconst (v := 1) hC dX11_goesOn_206 (by decide) ?_
    refine gw_isub hC dX11_goesOn_207 ?_
    refine gw_put hC cl_X11 fp_X11_186 (hw.lt (by decide)) (gd_0 hw _) ((gd_0 hw _).trans (gs_X11_20 _ _ _ _)) rfl rfl (by simp [fs_X11]) dX11_goesOn_208 ?_
    refine gw_nmM (fun M9 hM9 => ?_)
    have h := h M9 hM9
    refine gw_aload_n hC dX11_goesOn_211 rfl 1 rfl ?_
    refine gw_iload_n hC dX11_goesOn_212 rfl 0 rfl ?_
    refine gw_iconst (v := 0) hC dX11_goesOn_213 (by decide) ?_
    refine gw_callv (gx_rV hC (n := 2) (As := [.int x8, .int 0]) (rest := []) (fun sz => c_X11_emits hw  h sz) cv_X11_208_X11_emits (by rw [hR]; exact rr_X11_goesOn_X11_emits) ⟨(hw.lt (by decide)), _, _, _, _, gd_0 hw _, cl_X11.1⟩ rfl rfl (Nat.le_of_ble_eq_true rfl) dX11_goesOn_214) ?_
    intro M10 h
    refine gw_aload_n hC dX11_goesOn_217 rfl 1 rfl ?_
    refine gw_callv (gx_rV hC (n := 0) (As := []) (rest := []) (fun sz => c_X11_askIsOver hw  h sz) cv_X11_240_X11_askIsOver (by rw [hR]; exact rr_X11_goesOn_X11_askIsOver) ⟨(hw.lt (by decide)), _, _, _, _, gd_0 hw _, cl_X11.1⟩ rfl rfl (Nat.le_of_ble_eq_true rfl) dX11_goesOn_218) ?_
    intro M11 h
    refine gw_goto (tgt := 250) hC dX11_goesOn_221 (by decide) ?_
    exact gw_vret hC hr dX11_goesOn_250 h
set_option maxRecDepth 20000 in
theorem J_X11_goesOn_116 {z : gx_X} {d : gx_D} {w : gx_V} {ca : Nat → ClassId} (hC : gx_C z d w cX11_goesOn 3 RX11) (hw : gx_isR ca w) (hR : gx_R z = rm_X11_goesOn) (hr : (gx_me z).sig.returnType = none)  {Q : gx_M → Prop}   (M : gx_M) (v1 : Int32)  (h : T_X11_goesOn_116 Q  M v1) : GW z w 3 (gx_Qv w Q (gx_s z).heap.size) M 116 [(0, .ref (gx_ad w 0)), (1, .int v1)] [] := by
  unfold T_X11_goesOn_116 at h
  refine gw_iload_n hC dX11_goesOn_116 rfl 1 rfl ?_
  refine gw_iconst (v := 4) hC dX11_goesOn_117 (by decide) ?_
  refine gw_icmp_ne (tgt := 181) hC dX11_goesOn_118 (by decide) (fun hc => ?_) (fun hc => ?_)
  · have h := gx_f h hc
    exact J_X11_goesOn_181 hC hw hR hr  M v1 h
  · have h := gx_t h hc
    refine gw_aload_n hC dX11_goesOn_121 rfl 0 rfl ?_
    refine gw_get hC cl_X11 fg_X11_161 (hw.lt (by decide)) (gd_0 hw _) (gv_X11_15 _ _ _) dX11_goesOn_122 ?_
    refine gw_iconst (v := 3) hC dX11_goesOn_125 (by decide) ?_
    refine gw_icmp_ne (tgt := 181) hC dX11_goesOn_126 (by decide) (fun hc => ?_) (fun hc => ?_)
    · have h := gx_f h hc
      exact J_X11_goesOn_181 hC hw hR hr  M v1 h
    · have h := gx_t h hc
      refine gw_aload_n hC dX11_goesOn_129 rfl 0 rfl ?_
      refine gw_get hC cl_X11 fg_X11_173 (hw.lt (by decide)) (gd_0 hw _) (gv_X11_16 _ _ _) dX11_goesOn_130 ?_
      refine gw_calli (gx_rS hC (n := 1) (As := [.int (M 0 16)]) (rest := []) (fun sz => c_X11_isAsking hw  h sz) cs_X11_237_X11_isAsking (by rw [hR]; exact rr_X11_goesOn_X11_isAsking) rfl rfl (Nat.le_of_ble_eq_true rfl) dX11_goesOn_133) ?_
      intro r12 m13 ⟨hm13, h⟩
      rw [hm13]
      refine gw_if_eq (tgt := 181) hC dX11_goesOn_136 (by decide) (fun hc => ?_) (fun hc => ?_)
      · have h := gx_t h hc
        exact J_X11_goesOn_181 hC hw hR hr  M v1 h
      · have h := gx_f h hc
        refine gw_aload_n hC dX11_goesOn_139 rfl 0 rfl ?_
        refine gw_iconst (v := 3) hC dX11_goesOn_140 (by decide) ?_
        refine gw_callv (gx_rV hC (n := 1) (As := [.int 3]) (rest := []) (fun sz => c_X11_works hw  h sz) cv_X11_212_X11_works (by rw [hR]; exact rr_X11_goesOn_X11_works) ⟨(hw.lt (by decide)), _, _, _, _, gd_0 hw _, cl_X11.1⟩ rfl rfl (Nat.le_of_ble_eq_true rfl) dX11_goesOn_141) ?_
        intro M14 h
        refine gw_aload_n hC dX11_goesOn_144 rfl 0 rfl ?_
        refine gw_get hC cl_X11 fg_X11_48 (hw.lt (by decide)) (gd_0 hw _) (gv_X11_22 _ _ _) dX11_goesOn_145 ?_
        refine gw_aload_n hC dX11_goesOn_148 rfl 0 rfl ?_
        refine gw_get hC cl_X11 fg_X11_186 (hw.lt (by decide)) (gd_0 hw _) (gv_X11_20 _ _ _) dX11_goesOn_149 ?_
        refine gw_aload_n hC dX11_goesOn_152 rfl 0 rfl ?_
        refine gw_get hC cl_X11 fg_X11_173 (hw.lt (by decide)) (gd_0 hw _) (gv_X11_16 _ _ _) dX11_goesOn_153 ?_
        obtain ⟨hi, h⟩ := h
        refine gw_iast hC (hw.lt (by decide)) (gd_11 hw) (gu_0 hw) hi dX11_goesOn_156 ?_
        refine gw_nmM (fun M15 hM15 => ?_)
        have h := h M15 hM15
        refine gw_aload_n hC dX11_goesOn_157 rfl 0 rfl ?_
        refine gw_get hC cl_X11 fg_X11_45 (hw.lt (by decide)) (gd_0 hw _) (gv_X11_21 _ _ _) dX11_goesOn_158 ?_
        refine gw_aload_n hC dX11_goesOn_161 rfl 0 rfl ?_
        refine gw_get hC cl_X11 fg_X11_186 (hw.lt (by decide)) (gd_0 hw _) (gv_X11_20 _ _ _) dX11_goesOn_162 ?_
        refine gw_iconst (v := 1) hC dX11_goesOn_165 (by decide) ?_
        refine gw_isub hC dX11_goesOn_166 ?_
        refine gw_iconst (v := 5) hC dX11_goesOn_167 (by decide) ?_
        obtain ⟨hi, h⟩ := h
        refine gw_iast hC (hw.lt (by decide)) (gd_10 hw) (gu_0 hw) hi dX11_goesOn_168 ?_
        refine gw_nmM (fun M16 hM16 => ?_)
        have h := h M16 hM16
        refine gw_aload_n hC dX11_goesOn_169 rfl 0 rfl ?_
        refine gw_callv (gx_rV hC (n := 0) (As := []) (rest := []) (fun sz => c_X11_next hw  h sz) cv_X11_198_X11_next (by rw [hR]; exact rr_X11_goesOn_X11_next) ⟨(hw.lt (by decide)), _, _, _, _, gd_0 hw _, cl_X11.1⟩ rfl rfl (Nat.le_of_ble_eq_true rfl) dX11_goesOn_170) ?_
        intro M17 h
        refine gw_aload_n hC dX11_goesOn_173 rfl 0 rfl ?_
        refine gw_iconst (v := 1) hC dX11_goesOn_174 (by decide) ?_
        refine gw_put hC cl_X11 fp_X11_221 (hw.lt (by decide)) (gd_0 hw _) ((gd_0 hw _).trans (gs_X11_26 _ _ _ _)) rfl rfl (by simp [fs_X11]) dX11_goesOn_175 ?_
        refine gw_nmM (fun M18 hM18 => ?_)
        have h := h M18 hM18
        refine gw_goto (tgt := 250) hC dX11_goesOn_178 (by decide) ?_
        exact gw_vret hC hr dX11_goesOn_250 h
set_option maxRecDepth 20000 in
theorem J_X11_goesOn_65 {z : gx_X} {d : gx_D} {w : gx_V} {ca : Nat → ClassId} (hC : gx_C z d w cX11_goesOn 3 RX11) (hw : gx_isR ca w) (hR : gx_R z = rm_X11_goesOn) (hr : (gx_me z).sig.returnType = none)  {Q : gx_M → Prop}   (M : gx_M) (v1 : Int32)  (h : T_X11_goesOn_65 Q  M v1) : GW z w 3 (gx_Qv w Q (gx_s z).heap.size) M 65 [(0, .ref (gx_ad w 0)), (1, .int v1)] [] := by
  unfold T_X11_goesOn_65 at h
  refine gw_iload_n hC dX11_goesOn_65 rfl 1 rfl ?_
  refine gw_bipush (v := 6) hC dX11_goesOn_66 (by decide) ?_
  refine gw_icmp_ne (tgt := 116) hC dX11_goesOn_68 (by decide) (fun hc => ?_) (fun hc => ?_)
  · have h := gx_f h hc
    exact J_X11_goesOn_116 hC hw hR hr  M v1 h
  · have h := gx_t h hc
    refine gw_aload_n hC dX11_goesOn_71 rfl 0 rfl ?_
    refine gw_bipush (v := 41) hC dX11_goesOn_72 (by decide) ?_
    refine gw_calli (gx_rV hC (n := 1) (As := [.int 41]) (rest := []) (fun sz => c_X11_isSign hw  h sz) cv_X11_227_X11_isSign (by rw [hR]; exact rr_X11_goesOn_X11_isSign) ⟨(hw.lt (by decide)), _, _, _, _, gd_0 hw _, cl_X11.1⟩ rfl rfl (Nat.le_of_ble_eq_true rfl) dX11_goesOn_74) ?_
    intro r19 m20 ⟨hm20, h⟩
    rw [hm20]
    refine gw_if_eq (tgt := 116) hC dX11_goesOn_77 (by decide) (fun hc => ?_) (fun hc => ?_)
    · have h := gx_t h hc
      exact J_X11_goesOn_116 hC hw hR hr  M v1 h
    · have h := gx_f h hc
      refine gw_aload_n hC dX11_goesOn_80 rfl 0 rfl ?_
      refine gw_iconst (v := 3) hC dX11_goesOn_81 (by decide) ?_
      refine gw_callv (gx_rV hC (n := 1) (As := [.int 3]) (rest := []) (fun sz => c_X11_works hw  h sz) cv_X11_212_X11_works (by rw [hR]; exact rr_X11_goesOn_X11_works) ⟨(hw.lt (by decide)), _, _, _, _, gd_0 hw _, cl_X11.1⟩ rfl rfl (Nat.le_of_ble_eq_true rfl) dX11_goesOn_82) ?_
      intro M21 h
      refine gw_aload_n hC dX11_goesOn_85 rfl 0 rfl ?_
      refine gw_dup hC dX11_goesOn_86 rfl ?_
      refine gw_get hC cl_X11 fg_X11_186 (hw.lt (by decide)) (gd_0 hw _) (gv_X11_20 _ _ _) dX11_goesOn_87 ?_
      refine gw_iconst (v := 1) hC dX11_goesOn_90 (by decide) ?_
      refine gw_isub hC dX11_goesOn_91 ?_
      refine gw_put hC cl_X11 fp_X11_186 (hw.lt (by decide)) (gd_0 hw _) ((gd_0 hw _).trans (gs_X11_20 _ _ _ _)) rfl rfl (by simp [fs_X11]) dX11_goesOn_92 ?_
      refine gw_nmM (fun M22 hM22 => ?_)
      have h := h M22 hM22
      refine gw_aload_n hC dX11_goesOn_95 rfl 0 rfl ?_
      refine gw_dup hC dX11_goesOn_96 rfl ?_
      refine gw_get hC cl_X11 fg_X11_189 (hw.lt (by decide)) (gd_0 hw _) (gv_X11_19 _ _ _) dX11_goesOn_97 ?_
      refine gw_iconst (v := 1) hC dX11_goesOn_100 (by decide) ?_
      refine gw_isub hC dX11_goesOn_101 ?_
      refine gw_put hC cl_X11 fp_X11_189 (hw.lt (by decide)) (gd_0 hw _) ((gd_0 hw _).trans (gs_X11_19 _ _ _ _)) rfl rfl (by simp [fs_X11]) dX11_goesOn_102 ?_
      refine gw_nmM (fun M23 hM23 => ?_)
      have h := h M23 hM23
      refine gw_aload_n hC dX11_goesOn_105 rfl 0 rfl ?_
      refine gw_callv (gx_rV hC (n := 0) (As := []) (rest := []) (fun sz => c_X11_next hw  h sz) cv_X11_198_X11_next (by rw [hR]; exact rr_X11_goesOn_X11_next) ⟨(hw.lt (by decide)), _, _, _, _, gd_0 hw _, cl_X11.1⟩ rfl rfl (Nat.le_of_ble_eq_true rfl) dX11_goesOn_106) ?_
      intro M24 h
      refine gw_aload_n hC dX11_goesOn_109 rfl 0 rfl ?_
      refine gw_callv (gx_rV hC (n := 0) (As := []) (rest := []) (fun sz => c_X11_oneIsOver hw  h sz) cv_X11_224_X11_oneIsOver (by rw [hR]; exact rr_X11_goesOn_X11_oneIsOver) ⟨(hw.lt (by decide)), _, _, _, _, gd_0 hw _, cl_X11.1⟩ rfl rfl (Nat.le_of_ble_eq_true rfl) dX11_goesOn_110) ?_
      intro M25 h
      refine gw_goto (tgt := 250) hC dX11_goesOn_113 (by decide) ?_
      exact gw_vret hC hr dX11_goesOn_250 h
set_option maxRecDepth 20000 in
theorem J_X11_goesOn_49 {z : gx_X} {d : gx_D} {w : gx_V} {ca : Nat → ClassId} (hC : gx_C z d w cX11_goesOn 3 RX11) (hw : gx_isR ca w) (hR : gx_R z = rm_X11_goesOn) (hr : (gx_me z).sig.returnType = none)  {Q : gx_M → Prop}   (M : gx_M)  (h : T_X11_goesOn_49 Q  M) : GW z w 3 (gx_Qv w Q (gx_s z).heap.size) M 49 [(0, .ref (gx_ad w 0))] [] := by
  unfold T_X11_goesOn_49 at h
  refine gw_aload_n hC dX11_goesOn_49 rfl 0 rfl ?_
  refine gw_aload_n hC dX11_goesOn_50 rfl 0 rfl ?_
  refine gw_get hC cl_X11 fg_X11_173 (hw.lt (by decide)) (gd_0 hw _) (gv_X11_16 _ _ _) dX11_goesOn_51 ?_
  refine gw_callv (gx_rV hC (n := 1) (As := [.int (M 0 16)]) (rest := []) (fun sz => c_X11_waitsFor hw  h sz) cv_X11_234_X11_waitsFor (by rw [hR]; exact rr_X11_goesOn_X11_waitsFor) ⟨(hw.lt (by decide)), _, _, _, _, gd_0 hw _, cl_X11.1⟩ rfl rfl (Nat.le_of_ble_eq_true rfl) dX11_goesOn_54) ?_
  intro M26 h
  refine gw_aload_n hC dX11_goesOn_57 rfl 0 rfl ?_
  refine gw_iconst (v := 1) hC dX11_goesOn_58 (by decide) ?_
  refine gw_put hC cl_X11 fp_X11_221 (hw.lt (by decide)) (gd_0 hw _) ((gd_0 hw _).trans (gs_X11_26 _ _ _ _)) rfl rfl (by simp [fs_X11]) dX11_goesOn_59 ?_
  refine gw_nmM (fun M27 hM27 => ?_)
  have h := h M27 hM27
  refine gw_goto (tgt := 250) hC dX11_goesOn_62 (by decide) ?_
  exact gw_vret hC hr dX11_goesOn_250 h
set_option maxRecDepth 20000 in
theorem J_X11_goesOn {z : gx_X} {d : gx_D} {w : gx_V} {ca : Nat → ClassId} (hC : gx_C z d w cX11_goesOn 3 RX11) (hw : gx_isR ca w) (hR : gx_R z = rm_X11_goesOn) (hr : (gx_me z).sig.returnType = none)   {M : gx_M}  {Q : gx_M → Prop} (h : T_X11_goesOn M  Q) : GW z w 3 (gx_Qv w Q (gx_s z).heap.size) M 0 [(0, .ref (gx_ad w 0))] [] := by
  unfold T_X11_goesOn at h
  refine gw_aload_n hC dX11_goesOn_0 rfl 0 rfl ?_
  refine gw_calli (gx_rV hC (n := 0) (As := []) (rest := []) (fun sz => c_X11_top hw  h sz) cv_X11_230_X11_top (by rw [hR]; exact rr_X11_goesOn_X11_top) ⟨(hw.lt (by decide)), _, _, _, _, gd_0 hw _, cl_X11.1⟩ rfl rfl (Nat.le_of_ble_eq_true rfl) dX11_goesOn_1) ?_
  intro r1 m2 ⟨hm2, h⟩
  rw [hm2]
  refine gw_istore_n (lv' := [(1, .int r1), (0, .ref (gx_ad w 0))]) hC dX11_goesOn_4 rfl (by decide) rfl ?_
  refine gw_aload_n hC dX11_goesOn_5 rfl 1 rfl ?_
  refine gw_get hC cl_X11 fg_X11_161 (hw.lt (by decide)) (gd_0 hw _) (gv_X11_15 _ _ _) dX11_goesOn_6 ?_
  refine gw_iconst (v := 3) hC dX11_goesOn_9 (by decide) ?_
  refine gw_icmp_ne (tgt := 65) hC dX11_goesOn_10 (by decide) (fun hc => ?_) (fun hc => ?_)
  · have h := gx_f h hc
    refine gw_sub (lv' := [(0, .ref (gx_ad w 0)), (1, .int r1)]) [1, 0] rfl ?_
    exact J_X11_goesOn_65 hC hw hR hr  M r1 h
  · have h := gx_t h hc
    refine gw_aload_n hC dX11_goesOn_13 rfl 1 rfl ?_
    refine gw_get hC cl_X11 fg_X11_173 (hw.lt (by decide)) (gd_0 hw _) (gv_X11_16 _ _ _) dX11_goesOn_14 ?_
    refine gw_bipush (v := 43) hC dX11_goesOn_17 (by decide) ?_
    refine gw_icmp_eq (tgt := 49) hC dX11_goesOn_19 (by decide) (fun hc => ?_) (fun hc => ?_)
    · have h := gx_t h hc
      refine gw_sub (lv' := [(0, .ref (gx_ad w 0))]) [1] rfl ?_
      exact J_X11_goesOn_49 hC hw hR hr  M h
    · have h := gx_f h hc
      refine gw_aload_n hC dX11_goesOn_22 rfl 1 rfl ?_
      refine gw_get hC cl_X11 fg_X11_173 (hw.lt (by decide)) (gd_0 hw _) (gv_X11_16 _ _ _) dX11_goesOn_23 ?_
      refine gw_bipush (v := 45) hC dX11_goesOn_26 (by decide) ?_
      refine gw_icmp_eq (tgt := 49) hC dX11_goesOn_28 (by decide) (fun hc => ?_) (fun hc => ?_)
      · have h := gx_t h hc
        refine gw_sub (lv' := [(0, .ref (gx_ad w 0))]) [1] rfl ?_
        exact J_X11_goesOn_49 hC hw hR hr  M h
      · have h := gx_f h hc
        refine gw_aload_n hC dX11_goesOn_31 rfl 1 rfl ?_
        refine gw_get hC cl_X11 fg_X11_173 (hw.lt (by decide)) (gd_0 hw _) (gv_X11_16 _ _ _) dX11_goesOn_32 ?_
        refine gw_bipush (v := 42) hC dX11_goesOn_35 (by decide) ?_
        refine gw_icmp_eq (tgt := 49) hC dX11_goesOn_37 (by decide) (fun hc => ?_) (fun hc => ?_)
        · have h := gx_t h hc
          refine gw_sub (lv' := [(0, .ref (gx_ad w 0))]) [1] rfl ?_
          exact J_X11_goesOn_49 hC hw hR hr  M h
        · have h := gx_f h hc
          refine gw_aload_n hC dX11_goesOn_40 rfl 1 rfl ?_
          refine gw_get hC cl_X11 fg_X11_173 (hw.lt (by decide)) (gd_0 hw _) (gv_X11_16 _ _ _) dX11_goesOn_41 ?_
          refine gw_bipush (v := 47) hC dX11_goesOn_44 (by decide) ?_
          refine gw_icmp_ne (tgt := 65) hC dX11_goesOn_46 (by decide) (fun hc => ?_) (fun hc => ?_)
          · have h := gx_f h hc
            refine gw_sub (lv' := [(0, .ref (gx_ad w 0)), (1, .int r1)]) [1, 0] rfl ?_
            exact J_X11_goesOn_65 hC hw hR hr  M r1 h
          · have h := gx_t h hc
            refine gw_sub (lv' := [(0, .ref (gx_ad w 0))]) [1] rfl ?_
            exact J_X11_goesOn_49 hC hw hR hr  M h
theorem c_X11_goesOn {l : Launch} {d : gx_D} {w : gx_V} {ca : Nat → ClassId} (hw : gx_isR ca w)   {M : gx_M}  {Q : gx_M → Prop} (h : T_X11_goesOn M  Q) : gx_Mv l d w yX11_goesOn cX11_goesOn 3 rm_X11_goesOn [.ref (gx_ad w 0)] M Q := fun sz =>
  gx_of (own := RX11) (by decide +kernel) rfl (Nat.le_of_ble_eq_true rfl) (fun z hC hl hR hsz hr => by subst hsz; exact J_X11_goesOn hC hw hR hr  h) rfl
set_option maxRecDepth 20000 in
theorem J_X11_asksOn_34 {z : gx_X} {d : gx_D} {w : gx_V} {ca : Nat → ClassId} (hC : gx_C z d w cX11_asksOn 1 RX11) (hw : gx_isR ca w) (hR : gx_R z = rm_X11_asksOn) (hr : (gx_me z).sig.returnType = none)  {Q : gx_M → Prop}   (M : gx_M) (t0 : Int32)  (h : T_X11_asksOn_34 Q  M t0) : GW z w 1 (gx_Qv w Q (gx_s z).heap.size) M 34 [(0, .ref (gx_ad w 0))] [.int t0, .ref (gx_ad w 0)] := by
  unfold T_X11_asksOn_34 at h
  refine gw_callv (gx_rV hC (n := 1) (As := [.int t0]) (rest := []) (fun sz => c_X11_waitsFor hw  h sz) cv_X11_234_X11_waitsFor (by rw [hR]; exact rr_X11_asksOn_X11_waitsFor) ⟨(hw.lt (by decide)), _, _, _, _, gd_0 hw _, cl_X11.1⟩ rfl rfl (Nat.le_of_ble_eq_true rfl) dX11_asksOn_34) ?_
  intro M5 h
  refine gw_aload_n hC dX11_asksOn_37 rfl 0 rfl ?_
  refine gw_iconst (v := 0) hC dX11_asksOn_38 (by decide) ?_
  refine gw_put hC cl_X11 fp_X11_221 (hw.lt (by decide)) (gd_0 hw _) ((gd_0 hw _).trans (gs_X11_26 _ _ _ _)) rfl rfl (by simp [fs_X11]) dX11_asksOn_39 ?_
  refine gw_nmM (fun M6 hM6 => ?_)
  have h := h M6 hM6
  refine gw_goto (tgt := 74) hC dX11_asksOn_42 (by decide) ?_
  exact gw_vret hC hr dX11_asksOn_74 h
set_option maxRecDepth 20000 in
theorem J_X11_asksOn_16 {z : gx_X} {d : gx_D} {w : gx_V} {ca : Nat → ClassId} (hC : gx_C z d w cX11_asksOn 1 RX11) (hw : gx_isR ca w) (hR : gx_R z = rm_X11_asksOn) (hr : (gx_me z).sig.returnType = none)  {Q : gx_M → Prop}   (M : gx_M)  (h : T_X11_asksOn_16 Q  M) : GW z w 1 (gx_Qv w Q (gx_s z).heap.size) M 16 [(0, .ref (gx_ad w 0))] [] := by
  unfold T_X11_asksOn_16 at h
  refine gw_aload_n hC dX11_asksOn_16 rfl 0 rfl ?_
  refine gw_aload_n hC dX11_asksOn_17 rfl 0 rfl ?_
  refine gw_iconst (v := 2) hC dX11_asksOn_18 (by decide) ?_
  refine gw_calli (gx_rV hC (n := 1) (As := [.int 2]) (rest := [.ref (gx_ad w 0)]) (fun sz => c_X11_isWord hw  h sz) cv_X11_215_X11_isWord (by rw [hR]; exact rr_X11_asksOn_X11_isWord) ⟨(hw.lt (by decide)), _, _, _, _, gd_0 hw _, cl_X11.1⟩ rfl rfl (Nat.le_of_ble_eq_true rfl) dX11_asksOn_19) ?_
  intro r3 m4 ⟨hm4, h⟩
  rw [hm4]
  refine gw_if_eq (tgt := 31) hC dX11_asksOn_22 (by decide) (fun hc => ?_) (fun hc => ?_)
  · have h := gx_t h hc
    refine gw_sipush (v := 406) hC dX11_asksOn_31 (by decide) ?_
    exact J_X11_asksOn_34 hC hw hR hr  M 406 h
  · have h := gx_f h hc
    refine gw_sipush (v := 407) hC dX11_asksOn_25 (by decide) ?_
    refine gw_goto (tgt := 34) hC dX11_asksOn_28 (by decide) ?_
    exact J_X11_asksOn_34 hC hw hR hr  M 407 h
set_option maxRecDepth 20000 in
theorem J_X11_asksOn_69 {z : gx_X} {d : gx_D} {w : gx_V} {ca : Nat → ClassId} (hC : gx_C z d w cX11_asksOn 1 RX11) (hw : gx_isR ca w) (hR : gx_R z = rm_X11_asksOn) (hr : (gx_me z).sig.returnType = none)  {Q : gx_M → Prop}   (M : gx_M)  (h : T_X11_asksOn_69 Q  M) : GW z w 1 (gx_Qv w Q (gx_s z).heap.size) M 69 [(0, .ref (gx_ad w 0))] [] := by
  unfold T_X11_asksOn_69 at h
  refine gw_aload_n hC dX11_asksOn_69 rfl 0 rfl ?_
  refine gw_iconst (v := 1) hC dX11_asksOn_70 (by decide) ?_
  refine gw_callv (gx_rV hC (n := 1) (As := [.int 1]) (rest := []) (fun sz => c_X11_errs hw  h sz) cv_X11_192_X11_errs (by rw [hR]; exact rr_X11_asksOn_X11_errs) ⟨(hw.lt (by decide)), _, _, _, _, gd_0 hw _, cl_X11.1⟩ rfl rfl (Nat.le_of_ble_eq_true rfl) dX11_asksOn_71) ?_
  intro M11 h
  exact gw_vret hC hr dX11_asksOn_74 h
set_option maxRecDepth 20000 in
theorem J_X11_asksOn {z : gx_X} {d : gx_D} {w : gx_V} {ca : Nat → ClassId} (hC : gx_C z d w cX11_asksOn 1 RX11) (hw : gx_isR ca w) (hR : gx_R z = rm_X11_asksOn) (hr : (gx_me z).sig.returnType = none)   {M : gx_M}  {Q : gx_M → Prop} (h : T_X11_asksOn M  Q) : GW z w 1 (gx_Qv w Q (gx_s z).heap.size) M 0 [(0, .ref (gx_ad w 0))] [] := by
  unfold T_X11_asksOn at h
  refine gw_aload_n hC dX11_asksOn_0 rfl 0 rfl ?_
  refine gw_iconst (v := 2) hC dX11_asksOn_1 (by decide) ?_
  refine gw_calli (gx_rV hC (n := 1) (As := [.int 2]) (rest := []) (fun sz => c_X11_isWord hw  h sz) cv_X11_215_X11_isWord (by rw [hR]; exact rr_X11_asksOn_X11_isWord) ⟨(hw.lt (by decide)), _, _, _, _, gd_0 hw _, cl_X11.1⟩ rfl rfl (Nat.le_of_ble_eq_true rfl) dX11_asksOn_2) ?_
  intro r1 m2 ⟨hm2, h⟩
  rw [hm2]
  refine gw_if_ne (tgt := 16) hC dX11_asksOn_5 (by decide) (fun hc => ?_) (fun hc => ?_)
  · have h := gx_f h hc
    exact J_X11_asksOn_16 hC hw hR hr  M h
  · have h := gx_t h hc
    refine gw_aload_n hC dX11_asksOn_8 rfl 0 rfl ?_
    refine gw_iconst (v := 3) hC dX11_asksOn_9 (by decide) ?_
    refine gw_calli (gx_rV hC (n := 1) (As := [.int 3]) (rest := []) (fun sz => c_X11_isWord hw  h sz) cv_X11_215_X11_isWord (by rw [hR]; exact rr_X11_asksOn_X11_isWord) ⟨(hw.lt (by decide)), _, _, _, _, gd_0 hw _, cl_X11.1⟩ rfl rfl (Nat.le_of_ble_eq_true rfl) dX11_asksOn_10) ?_
    intro r7 m8 ⟨hm8, h⟩
    rw [hm8]
    refine gw_if_eq (tgt := 45) hC dX11_asksOn_13 (by decide) (fun hc => ?_) (fun hc => ?_)
    · have h := gx_t h hc
      refine gw_aload_n hC dX11_asksOn_45 rfl 0 rfl ?_
      refine gw_calli (gx_rV hC (n := 0) (As := []) (rest := []) (fun sz => c_X11_top hw  h sz) cv_X11_230_X11_top (by rw [hR]; exact rr_X11_asksOn_X11_top) ⟨(hw.lt (by decide)), _, _, _, _, gd_0 hw _, cl_X11.1⟩ rfl rfl (Nat.le_of_ble_eq_true rfl) dX11_asksOn_46) ?_
      intro r9 m10 ⟨hm10, h⟩
      rw [hm10]
      refine gw_iconst (v := 2) hC dX11_asksOn_49 (by decide) ?_
      refine gw_icmp_ne (tgt := 69) hC dX11_asksOn_50 (by decide) (fun hc => ?_) (fun hc => ?_)
      · have h := gx_f h hc
        exact J_X11_asksOn_69 hC hw hR hr  M h
      · have h := gx_t h hc
        refine gw_aload_n hC dX11_asksOn_53 rfl 0 rfl ?_
        refine gw_bipush (v := 59) hC dX11_asksOn_54 (by decide) ?_
        refine gw_calli (gx_rV hC (n := 1) (As := [.int 59]) (rest := []) (fun sz => c_X11_isSign hw  h sz) cv_X11_227_X11_isSign (by rw [hR]; exact rr_X11_asksOn_X11_isSign) ⟨(hw.lt (by decide)), _, _, _, _, gd_0 hw _, cl_X11.1⟩ rfl rfl (Nat.le_of_ble_eq_true rfl) dX11_asksOn_56) ?_
        intro r12 m13 ⟨hm13, h⟩
        rw [hm13]
        refine gw_if_eq (tgt := 69) hC dX11_asksOn_59 (by decide) (fun hc => ?_) (fun hc => ?_)
        · have h := gx_t h hc
          exact J_X11_asksOn_69 hC hw hR hr  M h
        · have h := gx_f h hc
          refine gw_aload_n hC dX11_asksOn_62 rfl 0 rfl ?_
          refine gw_callv (gx_rV hC (n := 0) (As := []) (rest := []) (fun sz => c_X11_clauseIsOver hw  h sz) cv_X11_243_X11_clauseIsOver (by rw [hR]; exact rr_X11_asksOn_X11_clauseIsOver) ⟨(hw.lt (by decide)), _, _, _, _, gd_0 hw _, cl_X11.1⟩ rfl rfl (Nat.le_of_ble_eq_true rfl) dX11_asksOn_63) ?_
          intro M14 h
          refine gw_goto (tgt := 74) hC dX11_asksOn_66 (by decide) ?_
          exact gw_vret hC hr dX11_asksOn_74 h
    · have h := gx_f h hc
      exact J_X11_asksOn_16 hC hw hR hr  M h
theorem c_X11_asksOn {l : Launch} {d : gx_D} {w : gx_V} {ca : Nat → ClassId} (hw : gx_isR ca w)   {M : gx_M}  {Q : gx_M → Prop} (h : T_X11_asksOn M  Q) : gx_Mv l d w yX11_asksOn cX11_asksOn 1 rm_X11_asksOn [.ref (gx_ad w 0)] M Q := fun sz =>
  gx_of (own := RX11) (by decide +kernel) rfl (Nat.le_of_ble_eq_true rfl) (fun z hC hl hR hsz hr => by subst hsz; exact J_X11_asksOn hC hw hR hr  h) rfl
set_option maxRecDepth 20000 in
theorem J_X11_wasHold_30 {z : gx_X} {d : gx_D} {w : gx_V} {ca : Nat → ClassId} (hC : gx_C z d w cX11_wasHold 3 RX11) (hw : gx_isR ca w) (hR : gx_R z = rm_X11_wasHold) (hr : (gx_me z).sig.returnType = (some .boolean)) {M : gx_M} {Q : Int32 → Prop} {K4 : Int32 → Int32 → Prop} (hK4 : ∀ (v1 : Int32) (v2 : Int32), K4 v1 v2 → GW z w 3 (gx_Qi w (fun r M1 => M1 = M ∧ Q r) (gx_s z).heap.size) M 4 [(0, .ref (gx_ad w 0)), (1, .int v1), (2, .int v2)] []) (t0 : Int32) (v2 : Int32)  (h : T_X11_wasHold_30 M Q K4 t0 v2) : GW z w 3 (gx_Qi w (fun r M1 => M1 = M ∧ Q r) (gx_s z).heap.size) M 30 [(0, .ref (gx_ad w 0)), (2, .int v2)] [.int t0] := by
  unfold T_X11_wasHold_30 at h
  refine gw_istore_n (lv' := [(1, .int t0), (0, .ref (gx_ad w 0)), (2, .int v2)]) hC dX11_wasHold_30 rfl (by decide) rfl ?_
  obtain ⟨x1, hx1⟩ : ∃ y : Int32, y = v2 + 1 := ⟨_, rfl⟩
  have h := h x1 hx1
  refine gw_iinc (v := x1) (lv' := [(2, .int x1), (1, .int t0), (0, .ref (gx_ad w 0))]) hC dX11_wasHold_31 (k := 2) rfl (by rw [hx1]; rfl) (by decide) rfl ?_
  refine gw_goto (tgt := 4) hC dX11_wasHold_34 (by decide) ?_
  refine gw_sub (lv' := [(0, .ref (gx_ad w 0)), (1, .int t0), (2, .int x1)]) [2, 1, 0] rfl ?_
  exact hK4 t0 x1 h
set_option maxRecDepth 20000 in
theorem J_X11_wasHold_25 {z : gx_X} {d : gx_D} {w : gx_V} {ca : Nat → ClassId} (hC : gx_C z d w cX11_wasHold 3 RX11) (hw : gx_isR ca w) (hR : gx_R z = rm_X11_wasHold) (hr : (gx_me z).sig.returnType = (some .boolean)) {M : gx_M} {Q : Int32 → Prop} {K4 : Int32 → Int32 → Prop} (hK4 : ∀ (v1 : Int32) (v2 : Int32), K4 v1 v2 → GW z w 3 (gx_Qi w (fun r M1 => M1 = M ∧ Q r) (gx_s z).heap.size) M 4 [(0, .ref (gx_ad w 0)), (1, .int v1), (2, .int v2)] []) (v2 : Int32)  (h : T_X11_wasHold_25 M Q K4 v2) : GW z w 3 (gx_Qi w (fun r M1 => M1 = M ∧ Q r) (gx_s z).heap.size) M 25 [(0, .ref (gx_ad w 0)), (2, .int v2)] [] := by
  unfold T_X11_wasHold_25 at h
  refine gw_iconst (v := 1) hC dX11_wasHold_25 (by decide) ?_
  refine gw_goto (tgt := 30) hC dX11_wasHold_26 (by decide) ?_
  exact J_X11_wasHold_30 hC hw hR hr hK4 1 v2 h
set_option maxRecDepth 20000 in
theorem J_X11_wasHold_4 {z : gx_X} {d : gx_D} {w : gx_V} {ca : Nat → ClassId} (hC : gx_C z d w cX11_wasHold 3 RX11) (hw : gx_isR ca w) (hR : gx_R z = rm_X11_wasHold) (hr : (gx_me z).sig.returnType = (some .boolean)) {M : gx_M} {Q : Int32 → Prop}   : ∀ (n : Nat) (v1 : Int32) (v2 : Int32) , T_X11_wasHold_4 M Q  n v1 v2 → GW z w 3 (gx_Qi w (fun r M1 => M1 = M ∧ Q r) (gx_s z).heap.size) M 4 [(0, .ref (gx_ad w 0)), (1, .int v1), (2, .int v2)] [] := by
  intro n
  induction n with
  | zero =>
    intro v1 v2 h
    exact h.elim
  | succ n ih =>
    intro v1 v2 h
    rw [T_X11_wasHold_4] at h
    refine gw_iload_n hC dX11_wasHold_4 rfl 2 rfl ?_
    refine gw_aload_n hC dX11_wasHold_5 rfl 0 rfl ?_
    refine gw_get hC cl_X11 fg_X11_246 (hw.lt (by decide)) (gd_0 hw _) (gv_X11_27 _ _ _) dX11_wasHold_6 ?_
    refine gw_icmp_ge (tgt := 37) hC dX11_wasHold_9 (by decide) (fun hc => ?_) (fun hc => ?_)
    · have h := gx_t h hc
      refine gw_iload_n hC dX11_wasHold_37 rfl 1 rfl ?_
      obtain ⟨hz, h⟩ := h
      exact gw_zret hC hr (gx_nz hz) dX11_wasHold_38 ⟨rfl, h⟩
    · have h := gx_f h hc
      refine gw_iload_n hC dX11_wasHold_12 rfl 1 rfl ?_
      refine gw_if_ne (tgt := 25) hC dX11_wasHold_13 (by decide) (fun hc => ?_) (fun hc => ?_)
      · have h := gx_f h hc
        refine gw_sub (lv' := [(0, .ref (gx_ad w 0)), (2, .int v2)]) [0, 2] rfl ?_
        exact J_X11_wasHold_25 hC hw hR hr ih v2 h
      · have h := gx_t h hc
        refine gw_aload_n hC dX11_wasHold_16 rfl 0 rfl ?_
        refine gw_get hC cl_X11 fg_X11_57 (hw.lt (by decide)) (gd_0 hw _) (gv_X11_28 _ _ _) dX11_wasHold_17 ?_
        refine gw_iload_n hC dX11_wasHold_20 rfl 2 rfl ?_
        obtain ⟨hi, h⟩ := h
        refine gw_iald hC (hw.lt (by decide)) (gd_14 hw _) (gu_0 hw) hi dX11_wasHold_21 ?_
        refine gw_if_ne (tgt := 29) hC dX11_wasHold_22 (by decide) (fun hc => ?_) (fun hc => ?_)
        · have h := gx_f h hc
          refine gw_iconst (v := 0) hC dX11_wasHold_29 (by decide) ?_
          refine gw_sub (lv' := [(0, .ref (gx_ad w 0)), (2, .int v2)]) [0, 2] rfl ?_
          exact J_X11_wasHold_30 hC hw hR hr ih 0 v2 h
        · have h := gx_t h hc
          refine gw_sub (lv' := [(0, .ref (gx_ad w 0)), (2, .int v2)]) [0, 2] rfl ?_
          exact J_X11_wasHold_25 hC hw hR hr ih v2 h
set_option maxRecDepth 20000 in
theorem J_X11_wasHold {z : gx_X} {d : gx_D} {w : gx_V} {ca : Nat → ClassId} (hC : gx_C z d w cX11_wasHold 3 RX11) (hw : gx_isR ca w) (hR : gx_R z = rm_X11_wasHold) (hr : (gx_me z).sig.returnType = (some .boolean))   {M : gx_M}  {Q : Int32 → Prop} (h : T_X11_wasHold M  Q) : GW z w 3 (gx_Qi w (fun r M1 => M1 = M ∧ Q r) (gx_s z).heap.size) M 0 [(0, .ref (gx_ad w 0))] [] := by
  unfold T_X11_wasHold at h
  refine gw_iconst (v := 0) hC dX11_wasHold_0 (by decide) ?_
  refine gw_istore_n (lv' := [(1, .int 0), (0, .ref (gx_ad w 0))]) hC dX11_wasHold_1 rfl (by decide) rfl ?_
  refine gw_iconst (v := 0) hC dX11_wasHold_2 (by decide) ?_
  refine gw_istore_n (lv' := [(2, .int 0), (1, .int 0), (0, .ref (gx_ad w 0))]) hC dX11_wasHold_3 rfl (by decide) rfl ?_
  obtain ⟨k2, h⟩ := h
  refine gw_sub (lv' := [(0, .ref (gx_ad w 0)), (1, .int 0), (2, .int 0)]) [2, 1, 0] rfl ?_
  exact J_X11_wasHold_4 hC hw hR hr  k2 0 0 h
theorem c_X11_wasHold {l : Launch} {d : gx_D} {w : gx_V} {ca : Nat → ClassId} (hw : gx_isR ca w)   {M : gx_M}  {Q : Int32 → Prop} (h : T_X11_wasHold M  Q) : gx_Mi l d w yX11_wasHold cX11_wasHold 3 .boolean rm_X11_wasHold [.ref (gx_ad w 0)] M (fun r M1 => M1 = M ∧ Q r) := fun sz =>
  gx_of (own := RX11) (by decide +kernel) rfl (Nat.le_of_ble_eq_true rfl) (fun z hC hl hR hsz hr => by subst hsz; exact J_X11_wasHold hC hw hR hr  h) rfl
set_option maxRecDepth 20000 in
theorem J_X11_clause_16 {z : gx_X} {d : gx_D} {w : gx_V} {ca : Nat → ClassId} (hC : gx_C z d w cX11_clause 2 RX11) (hw : gx_isR ca w) (hR : gx_R z = rm_X11_clause) (hr : (gx_me z).sig.returnType = none)  {Q : gx_M → Prop}   (M : gx_M)  (h : T_X11_clause_16 Q  M) : GW z w 2 (gx_Qv w Q (gx_s z).heap.size) M 16 [(0, .ref (gx_ad w 0))] [] := by
  unfold T_X11_clause_16 at h
  refine gw_aload_n hC dX11_clause_16 rfl 0 rfl ?_
  refine gw_iconst (v := 1) hC dX11_clause_17 (by decide) ?_
  refine gw_callv (gx_rV hC (n := 1) (As := [.int 1]) (rest := []) (fun sz => c_X11_errs hw  h sz) cv_X11_192_X11_errs (by rw [hR]; exact rr_X11_clause_X11_errs) ⟨(hw.lt (by decide)), _, _, _, _, gd_0 hw _, cl_X11.1⟩ rfl rfl (Nat.le_of_ble_eq_true rfl) dX11_clause_18) ?_
  intro M1 h
  exact gw_vret hC hr dX11_clause_21 h
set_option maxRecDepth 20000 in
theorem J_X11_clause_105 {z : gx_X} {d : gx_D} {w : gx_V} {ca : Nat → ClassId} (hC : gx_C z d w cX11_clause 2 RX11) (hw : gx_isR ca w) (hR : gx_R z = rm_X11_clause) (hr : (gx_me z).sig.returnType = none)  {Q : gx_M → Prop}   (M : gx_M) (t0 : Int32) (v1 : Int32)  (h : T_X11_clause_105 Q  M t0 v1) : GW z w 2 (gx_Qv w Q (gx_s z).heap.size) M 105 [(0, .ref (gx_ad w 0)), (1, .int v1)] [.int t0, .ref (gx_ad w 0)] := by
  unfold T_X11_clause_105 at h
  refine gw_callv (gx_rV hC (n := 1) (As := [.int t0]) (rest := []) (fun sz => c_X11_opensFrame hw  h sz) cv_X11_195_X11_opensFrame (by rw [hR]; exact rr_X11_clause_X11_opensFrame) ⟨(hw.lt (by decide)), _, _, _, _, gd_0 hw _, cl_X11.1⟩ rfl rfl (Nat.le_of_ble_eq_true rfl) dX11_clause_105) ?_
  intro M6 h
  refine gw_aload_n hC dX11_clause_108 rfl 0 rfl ?_
  refine gw_iload_n hC dX11_clause_109 rfl 1 rfl ?_
  refine gw_if_ne (tgt := 117) hC dX11_clause_110 (by decide) (fun hc => ?_) (fun hc => ?_)
  · have h := gx_f h hc
    refine gw_iconst (v := 0) hC dX11_clause_117 (by decide) ?_
    refine gw_put hC cl_X11 fp_X11_221 (hw.lt (by decide)) (gd_0 hw _) ((gd_0 hw _).trans (gs_X11_26 _ _ _ _)) rfl rfl (by simp [fs_X11]) dX11_clause_118 ?_
    refine gw_nmM (fun M7 hM7 => ?_)
    have h := h M7 hM7
    exact gw_vret hC hr dX11_clause_121 h
  · have h := gx_t h hc
    refine gw_iconst (v := 1) hC dX11_clause_113 (by decide) ?_
    refine gw_goto (tgt := 118) hC dX11_clause_114 (by decide) ?_
    refine gw_put hC cl_X11 fp_X11_221 (hw.lt (by decide)) (gd_0 hw _) ((gd_0 hw _).trans (gs_X11_26 _ _ _ _)) rfl rfl (by simp [fs_X11]) dX11_clause_118 ?_
    refine gw_nmM (fun M8 hM8 => ?_)
    have h := h M8 hM8
    exact gw_vret hC hr dX11_clause_121 h
set_option maxRecDepth 20000 in
theorem J_X11_clause_60 {z : gx_X} {d : gx_D} {w : gx_V} {ca : Nat → ClassId} (hC : gx_C z d w cX11_clause 2 RX11) (hw : gx_isR ca w) (hR : gx_R z = rm_X11_clause) (hr : (gx_me z).sig.returnType = none)  {Q : gx_M → Prop}   (M : gx_M) (v1 : Int32)  (h : T_X11_clause_60 Q  M v1) : GW z w 2 (gx_Qv w Q (gx_s z).heap.size) M 60 [(0, .ref (gx_ad w 0)), (1, .int v1)] [] := by
  unfold T_X11_clause_60 at h
  refine gw_aload_n hC dX11_clause_60 rfl 0 rfl ?_
  refine gw_get hC cl_X11 fg_X11_177 (hw.lt (by decide)) (gd_0 hw _) (gv_X11_17 _ _ _) dX11_clause_61 ?_
  refine gw_if_le (tgt := 68) hC dX11_clause_64 (by decide) (fun hc => ?_) (fun hc => ?_)
  · have h := gx_t h hc
    refine gw_aload_n hC dX11_clause_68 rfl 0 rfl ?_
    refine gw_get hC cl_X11 fg_X11_57 (hw.lt (by decide)) (gd_0 hw _) (gv_X11_28 _ _ _) dX11_clause_69 ?_
    refine gw_aload_n hC dX11_clause_72 rfl 0 rfl ?_
    refine gw_get hC cl_X11 fg_X11_246 (hw.lt (by decide)) (gd_0 hw _) (gv_X11_27 _ _ _) dX11_clause_73 ?_
    refine gw_iload_n hC dX11_clause_76 rfl 1 rfl ?_
    obtain ⟨hi, h⟩ := h
    refine gw_iast hC (hw.lt (by decide)) (gd_14 hw) (gu_0 hw) hi dX11_clause_77 ?_
    refine gw_nmM (fun M3 hM3 => ?_)
    have h := h M3 hM3
    refine gw_aload_n hC dX11_clause_78 rfl 0 rfl ?_
    refine gw_get hC cl_X11 fg_X11_60 (hw.lt (by decide)) (gd_0 hw _) (gv_X11_29 _ _ _) dX11_clause_79 ?_
    refine gw_aload_n hC dX11_clause_82 rfl 0 rfl ?_
    refine gw_get hC cl_X11 fg_X11_246 (hw.lt (by decide)) (gd_0 hw _) (gv_X11_27 _ _ _) dX11_clause_83 ?_
    refine gw_aload_n hC dX11_clause_86 rfl 0 rfl ?_
    refine gw_get hC cl_X11 fg_X11_183 (hw.lt (by decide)) (gd_0 hw _) (gv_X11_30 _ _ _) dX11_clause_87 ?_
    obtain ⟨hi, h⟩ := h
    refine gw_iast hC (hw.lt (by decide)) (gd_15 hw) (gu_0 hw) hi dX11_clause_90 ?_
    refine gw_nmM (fun M4 hM4 => ?_)
    have h := h M4 hM4
    refine gw_aload_n hC dX11_clause_91 rfl 0 rfl ?_
    refine gw_callv (gx_rV hC (n := 0) (As := []) (rest := []) (fun sz => c_X11_next hw  h sz) cv_X11_198_X11_next (by rw [hR]; exact rr_X11_clause_X11_next) ⟨(hw.lt (by decide)), _, _, _, _, gd_0 hw _, cl_X11.1⟩ rfl rfl (Nat.le_of_ble_eq_true rfl) dX11_clause_92) ?_
    intro M5 h
    refine gw_aload_n hC dX11_clause_95 rfl 0 rfl ?_
    refine gw_iload_n hC dX11_clause_96 rfl 1 rfl ?_
    refine gw_if_ne (tgt := 104) hC dX11_clause_97 (by decide) (fun hc => ?_) (fun hc => ?_)
    · have h := gx_f h hc
      refine gw_iconst (v := 2) hC dX11_clause_104 (by decide) ?_
      exact J_X11_clause_105 hC hw hR hr  M5 2 v1 h
    · have h := gx_t h hc
      refine gw_iconst (v := 1) hC dX11_clause_100 (by decide) ?_
      refine gw_goto (tgt := 105) hC dX11_clause_101 (by decide) ?_
      exact J_X11_clause_105 hC hw hR hr  M5 1 v1 h
  · have h := gx_f h hc
    exact gw_vret hC hr dX11_clause_67 h
set_option maxRecDepth 20000 in
theorem J_X11_clause_46 {z : gx_X} {d : gx_D} {w : gx_V} {ca : Nat → ClassId} (hC : gx_C z d w cX11_clause 2 RX11) (hw : gx_isR ca w) (hR : gx_R z = rm_X11_clause) (hr : (gx_me z).sig.returnType = none)  {Q : gx_M → Prop}   (M : gx_M) (v1 : Int32)  (h : T_X11_clause_46 Q  M v1) : GW z w 2 (gx_Qv w Q (gx_s z).heap.size) M 46 [(0, .ref (gx_ad w 0)), (1, .int v1)] [] := by
  unfold T_X11_clause_46 at h
  refine gw_aload_n hC dX11_clause_46 rfl 0 rfl ?_
  refine gw_get hC cl_X11 fg_X11_246 (hw.lt (by decide)) (gd_0 hw _) (gv_X11_27 _ _ _) dX11_clause_47 ?_
  refine gw_bipush (v := 10) hC dX11_clause_50 (by decide) ?_
  refine gw_icmp_ne (tgt := 60) hC dX11_clause_52 (by decide) (fun hc => ?_) (fun hc => ?_)
  · have h := gx_f h hc
    exact J_X11_clause_60 hC hw hR hr  M v1 h
  · have h := gx_t h hc
    refine gw_aload_n hC dX11_clause_55 rfl 0 rfl ?_
    refine gw_iconst (v := 5) hC dX11_clause_56 (by decide) ?_
    refine gw_callv (gx_rV hC (n := 1) (As := [.int 5]) (rest := []) (fun sz => c_X11_errs hw  h sz) cv_X11_192_X11_errs (by rw [hR]; exact rr_X11_clause_X11_errs) ⟨(hw.lt (by decide)), _, _, _, _, gd_0 hw _, cl_X11.1⟩ rfl rfl (Nat.le_of_ble_eq_true rfl) dX11_clause_57) ?_
    intro M9 h
    exact J_X11_clause_60 hC hw hR hr  M9 v1 h
set_option maxRecDepth 20000 in
theorem J_X11_clause {z : gx_X} {d : gx_D} {w : gx_V} {ca : Nat → ClassId} (hC : gx_C z d w cX11_clause 2 RX11) (hw : gx_isR ca w) (hR : gx_R z = rm_X11_clause) (hr : (gx_me z).sig.returnType = none)   {M : gx_M}  {Q : gx_M → Prop} (h : T_X11_clause M  Q) : GW z w 2 (gx_Qv w Q (gx_s z).heap.size) M 0 [(0, .ref (gx_ad w 0))] [] := by
  unfold T_X11_clause at h
  refine gw_aload_n hC dX11_clause_0 rfl 0 rfl ?_
  refine gw_get hC cl_X11 fg_X11_161 (hw.lt (by decide)) (gd_0 hw _) (gv_X11_15 _ _ _) dX11_clause_1 ?_
  refine gw_iconst (v := 1) hC dX11_clause_4 (by decide) ?_
  refine gw_icmp_ne (tgt := 16) hC dX11_clause_5 (by decide) (fun hc => ?_) (fun hc => ?_)
  · have h := gx_f h hc
    exact J_X11_clause_16 hC hw hR hr  M h
  · have h := gx_t h hc
    refine gw_aload_n hC dX11_clause_8 rfl 0 rfl ?_
    refine gw_get hC cl_X11 fg_X11_173 (hw.lt (by decide)) (gd_0 hw _) (gv_X11_16 _ _ _) dX11_clause_9 ?_
    refine gw_iconst (v := 1) hC dX11_clause_12 (by decide) ?_
    refine gw_icmp_le (tgt := 22) hC dX11_clause_13 (by decide) (fun hc => ?_) (fun hc => ?_)
    · have h := gx_t h hc
      refine gw_aload_n hC dX11_clause_22 rfl 0 rfl ?_
      refine gw_get hC cl_X11 fg_X11_173 (hw.lt (by decide)) (gd_0 hw _) (gv_X11_16 _ _ _) dX11_clause_23 ?_
      refine gw_nm (fun x2 hx2 => ?_)
      have h := h x2 hx2
      refine gw_istore_n (lv' := [(1, .int x2), (0, .ref (gx_ad w 0))]) hC dX11_clause_26 rfl (by decide) rfl ?_
      refine gw_iload_n hC dX11_clause_27 rfl 0 rfl ?_
      refine gw_if_ne (tgt := 46) hC dX11_clause_28 (by decide) (fun hc => ?_) (fun hc => ?_)
      · have h := gx_f h hc
        refine gw_sub (lv' := [(0, .ref (gx_ad w 0)), (1, .int x2)]) [1, 0] rfl ?_
        exact J_X11_clause_46 hC hw hR hr  M x2 h
      · have h := gx_t h hc
        refine gw_aload_n hC dX11_clause_31 rfl 1 rfl ?_
        refine gw_calli (gx_rV hC (n := 0) (As := []) (rest := []) (fun sz => c_X11_wasHold hw  h sz) cv_X11_249_X11_wasHold (by rw [hR]; exact rr_X11_clause_X11_wasHold) ⟨(hw.lt (by decide)), _, _, _, _, gd_0 hw _, cl_X11.1⟩ rfl rfl (Nat.le_of_ble_eq_true rfl) dX11_clause_32) ?_
        intro r10 m11 ⟨hm11, h⟩
        rw [hm11]
        refine gw_if_eq (tgt := 46) hC dX11_clause_35 (by decide) (fun hc => ?_) (fun hc => ?_)
        · have h := gx_t h hc
          refine gw_sub (lv' := [(0, .ref (gx_ad w 0)), (1, .int x2)]) [1, 0] rfl ?_
          exact J_X11_clause_46 hC hw hR hr  M x2 h
        · have h := gx_f h hc
          refine gw_aload_n hC dX11_clause_38 rfl 1 rfl ?_
          refine gw_iconst (v := 4) hC dX11_clause_39 (by decide) ?_
          refine gw_callv (gx_rV hC (n := 1) (As := [.int 4]) (rest := []) (fun sz => c_X11_errs hw  h sz) cv_X11_192_X11_errs (by rw [hR]; exact rr_X11_clause_X11_errs) ⟨(hw.lt (by decide)), _, _, _, _, gd_0 hw _, cl_X11.1⟩ rfl rfl (Nat.le_of_ble_eq_true rfl) dX11_clause_40) ?_
          intro M12 h
          refine gw_goto (tgt := 60) hC dX11_clause_43 (by decide) ?_
          refine gw_sub (lv' := [(0, .ref (gx_ad w 0)), (1, .int x2)]) [1, 0] rfl ?_
          exact J_X11_clause_60 hC hw hR hr  M12 x2 h
    · have h := gx_f h hc
      exact J_X11_clause_16 hC hw hR hr  M h
theorem c_X11_clause {l : Launch} {d : gx_D} {w : gx_V} {ca : Nat → ClassId} (hw : gx_isR ca w)   {M : gx_M}  {Q : gx_M → Prop} (h : T_X11_clause M  Q) : gx_Mv l d w yX11_clause cX11_clause 2 rm_X11_clause [.ref (gx_ad w 0)] M Q := fun sz =>
  gx_of (own := RX11) (by decide +kernel) rfl (Nat.le_of_ble_eq_true rfl) (fun z hC hl hR hsz hr => by subst hsz; exact J_X11_clause hC hw hR hr  h) rfl
set_option maxRecDepth 20000 in
theorem J_X11_keepsText_12 {z : gx_X} {d : gx_D} {w : gx_V} {ca : Nat → ClassId} (hC : gx_C z d w cX11_keepsText 3 RX11) (hw : gx_isR ca w) (hR : gx_R z = rm_X11_keepsText) (hr : (gx_me z).sig.returnType = none)  {Q : gx_M → Prop} {K66 : gx_M → Int32 → Prop} (hK66 : ∀ (M : gx_M) (v1 : Int32), K66 M v1 → GW z w 3 (gx_Qv w Q (gx_s z).heap.size) M 66 [(0, .ref (gx_ad w 0)), (1, .int v1)] []) : ∀ (n : Nat) (M : gx_M) (v1 : Int32) (v2 : Int32) , T_X11_keepsText_12 Q K66 n M v1 v2 → GW z w 3 (gx_Qv w Q (gx_s z).heap.size) M 12 [(0, .ref (gx_ad w 0)), (1, .int v1), (2, .int v2)] [] := by
  intro n
  induction n with
  | zero =>
    intro M v1 v2 h
    exact h.elim
  | succ n ih =>
    intro M v1 v2 h
    rw [T_X11_keepsText_12] at h
    refine gw_iload_n hC dX11_keepsText_12 rfl 2 rfl ?_
    refine gw_aload_n hC dX11_keepsText_13 rfl 0 rfl ?_
    refine gw_get hC cl_X11 fg_X11_246 (hw.lt (by decide)) (gd_0 hw _) (gv_X11_27 _ _ _) dX11_keepsText_14 ?_
    refine gw_icmp_ge (tgt := 66) hC dX11_keepsText_17 (by decide) (fun hc => ?_) (fun hc => ?_)
    · have h := gx_t h hc
      refine gw_sub (lv' := [(0, .ref (gx_ad w 0)), (1, .int v1)]) [0, 1] rfl ?_
      exact hK66 M v1 h
    · have h := gx_f h hc
      refine gw_aload_n hC dX11_keepsText_20 rfl 0 rfl ?_
      refine gw_get hC cl_X11 fg_X11_30 (hw.lt (by decide)) (gd_0 hw _) (gv_X11_7 _ _ _) dX11_keepsText_21 ?_
      refine gw_bipush (v := 10) hC dX11_keepsText_24 (by decide) ?_
      refine gw_iload_n hC dX11_keepsText_26 rfl 1 rfl ?_
      refine gw_imul hC dX11_keepsText_27 ?_
      refine gw_iload_n hC dX11_keepsText_28 rfl 2 rfl ?_
      refine gw_iadd hC dX11_keepsText_29 ?_
      refine gw_aload_n hC dX11_keepsText_30 rfl 0 rfl ?_
      refine gw_get hC cl_X11 fg_X11_57 (hw.lt (by decide)) (gd_0 hw _) (gv_X11_28 _ _ _) dX11_keepsText_31 ?_
      refine gw_iload_n hC dX11_keepsText_34 rfl 2 rfl ?_
      obtain ⟨hi, h⟩ := h
      refine gw_iald hC (hw.lt (by decide)) (gd_14 hw _) (gu_0 hw) hi dX11_keepsText_35 ?_
      obtain ⟨hi, h⟩ := h
      refine gw_iast hC (hw.lt (by decide)) (gd_5 hw) (gu_0 hw) hi dX11_keepsText_36 ?_
      refine gw_nmM (fun M2 hM2 => ?_)
      have h := h M2 hM2
      refine gw_aload_n hC dX11_keepsText_37 rfl 0 rfl ?_
      refine gw_get hC cl_X11 fg_X11_33 (hw.lt (by decide)) (gd_0 hw _) (gv_X11_8 _ _ _) dX11_keepsText_38 ?_
      refine gw_bipush (v := 10) hC dX11_keepsText_41 (by decide) ?_
      refine gw_iload_n hC dX11_keepsText_43 rfl 1 rfl ?_
      refine gw_imul hC dX11_keepsText_44 ?_
      refine gw_iload_n hC dX11_keepsText_45 rfl 2 rfl ?_
      refine gw_iadd hC dX11_keepsText_46 ?_
      refine gw_sipush (v := 400) hC dX11_keepsText_47 (by decide) ?_
      refine gw_iload_n hC dX11_keepsText_50 rfl 1 rfl ?_
      refine gw_imul hC dX11_keepsText_51 ?_
      refine gw_aload_n hC dX11_keepsText_52 rfl 0 rfl ?_
      refine gw_get hC cl_X11 fg_X11_60 (hw.lt (by decide)) (gd_0 hw _) (gv_X11_29 _ _ _) dX11_keepsText_53 ?_
      refine gw_iload_n hC dX11_keepsText_56 rfl 2 rfl ?_
      obtain ⟨hi, h⟩ := h
      refine gw_iald hC (hw.lt (by decide)) (gd_15 hw _) (gu_0 hw) hi dX11_keepsText_57 ?_
      refine gw_iadd hC dX11_keepsText_58 ?_
      obtain ⟨hi, h⟩ := h
      refine gw_iast hC (hw.lt (by decide)) (gd_6 hw) (gu_0 hw) hi dX11_keepsText_59 ?_
      refine gw_nmM (fun M3 hM3 => ?_)
      have h := h M3 hM3
      obtain ⟨x4, hx4⟩ : ∃ y : Int32, y = v2 + 1 := ⟨_, rfl⟩
      have h := h x4 hx4
      refine gw_iinc (v := x4) (lv' := [(2, .int x4), (0, .ref (gx_ad w 0)), (1, .int v1)]) hC dX11_keepsText_60 (k := 2) rfl (by rw [hx4]; rfl) (by decide) rfl ?_
      refine gw_goto (tgt := 12) hC dX11_keepsText_63 (by decide) ?_
      refine gw_sub (lv' := [(0, .ref (gx_ad w 0)), (1, .int v1), (2, .int x4)]) [1, 2, 0] rfl ?_
      exact ih M3 v1 x4 h
set_option maxRecDepth 20000 in
theorem J_X11_keepsText_68 {z : gx_X} {d : gx_D} {w : gx_V} {ca : Nat → ClassId} (hC : gx_C z d w cX11_keepsText 3 RX11) (hw : gx_isR ca w) (hR : gx_R z = rm_X11_keepsText) (hr : (gx_me z).sig.returnType = none)  {Q : gx_M → Prop}   : ∀ (n : Nat) (M : gx_M) (v1 : Int32) (v2 : Int32) , T_X11_keepsText_68 Q  n M v1 v2 → GW z w 3 (gx_Qv w Q (gx_s z).heap.size) M 68 [(0, .ref (gx_ad w 0)), (1, .int v1), (2, .int v2)] [] := by
  intro n
  induction n with
  | zero =>
    intro M v1 v2 h
    exact h.elim
  | succ n ih =>
    intro M v1 v2 h
    rw [T_X11_keepsText_68] at h
    refine gw_iload_n hC dX11_keepsText_68 rfl 2 rfl ?_
    refine gw_aload_n hC dX11_keepsText_69 rfl 0 rfl ?_
    refine gw_get hC cl_X11 fg_X11_183 (hw.lt (by decide)) (gd_0 hw _) (gv_X11_30 _ _ _) dX11_keepsText_70 ?_
    refine gw_icmp_ge (tgt := 118) hC dX11_keepsText_73 (by decide) (fun hc => ?_) (fun hc => ?_)
    · have h := gx_t h hc
      exact gw_vret hC hr dX11_keepsText_118 h
    · have h := gx_f h hc
      refine gw_aload_n hC dX11_keepsText_76 rfl 0 rfl ?_
      refine gw_get hC cl_X11 fg_X11_36 (hw.lt (by decide)) (gd_0 hw _) (gv_X11_9 _ _ _) dX11_keepsText_77 ?_
      refine gw_sipush (v := 400) hC dX11_keepsText_80 (by decide) ?_
      refine gw_iload_n hC dX11_keepsText_83 rfl 1 rfl ?_
      refine gw_imul hC dX11_keepsText_84 ?_
      refine gw_iload_n hC dX11_keepsText_85 rfl 2 rfl ?_
      refine gw_iadd hC dX11_keepsText_86 ?_
      refine gw_aload_n hC dX11_keepsText_87 rfl 0 rfl ?_
      refine gw_get hC cl_X11 fg_X11_63 (hw.lt (by decide)) (gd_0 hw _) (gv_X11_31 _ _ _) dX11_keepsText_88 ?_
      refine gw_iload_n hC dX11_keepsText_91 rfl 2 rfl ?_
      obtain ⟨hi, h⟩ := h
      refine gw_iald hC (hw.lt (by decide)) (gd_16 hw _) (gu_0 hw) hi dX11_keepsText_92 ?_
      obtain ⟨hi, h⟩ := h
      refine gw_iast hC (hw.lt (by decide)) (gd_7 hw) (gu_0 hw) hi dX11_keepsText_93 ?_
      refine gw_nmM (fun M8 hM8 => ?_)
      have h := h M8 hM8
      refine gw_aload_n hC dX11_keepsText_94 rfl 0 rfl ?_
      refine gw_get hC cl_X11 fg_X11_39 (hw.lt (by decide)) (gd_0 hw _) (gv_X11_10 _ _ _) dX11_keepsText_95 ?_
      refine gw_sipush (v := 400) hC dX11_keepsText_98 (by decide) ?_
      refine gw_iload_n hC dX11_keepsText_101 rfl 1 rfl ?_
      refine gw_imul hC dX11_keepsText_102 ?_
      refine gw_iload_n hC dX11_keepsText_103 rfl 2 rfl ?_
      refine gw_iadd hC dX11_keepsText_104 ?_
      refine gw_aload_n hC dX11_keepsText_105 rfl 0 rfl ?_
      refine gw_get hC cl_X11 fg_X11_66 (hw.lt (by decide)) (gd_0 hw _) (gv_X11_32 _ _ _) dX11_keepsText_106 ?_
      refine gw_iload_n hC dX11_keepsText_109 rfl 2 rfl ?_
      obtain ⟨hi, h⟩ := h
      refine gw_iald hC (hw.lt (by decide)) (gd_17 hw _) (gu_0 hw) hi dX11_keepsText_110 ?_
      obtain ⟨hi, h⟩ := h
      refine gw_iast hC (hw.lt (by decide)) (gd_8 hw) (gu_0 hw) hi dX11_keepsText_111 ?_
      refine gw_nmM (fun M9 hM9 => ?_)
      have h := h M9 hM9
      obtain ⟨x10, hx10⟩ : ∃ y : Int32, y = v2 + 1 := ⟨_, rfl⟩
      have h := h x10 hx10
      refine gw_iinc (v := x10) (lv' := [(2, .int x10), (0, .ref (gx_ad w 0)), (1, .int v1)]) hC dX11_keepsText_112 (k := 2) rfl (by rw [hx10]; rfl) (by decide) rfl ?_
      refine gw_goto (tgt := 68) hC dX11_keepsText_115 (by decide) ?_
      refine gw_sub (lv' := [(0, .ref (gx_ad w 0)), (1, .int v1), (2, .int x10)]) [1, 2, 0] rfl ?_
      exact ih M9 v1 x10 h
