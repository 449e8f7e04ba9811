set_option maxRecDepth 20000 in
theorem J_X0_word {z : gx_X} {d : gx_D} {w : gx_V} {ca : Nat → ClassId} (hC : gx_C z d w cX0_word 2 RX0) (hw : gx_isC ca w) (hR : gx_R z = rm_X0_word) (hr : (gx_me z).sig.returnType = (some .int))   {M : gx_M} {v1 : Int32} {Q : Int32 → Prop} (h : T_X0_word M v1 Q) : GW z w 2 (gx_Qi w (fun r M1 => M1 = M ∧ Q r) (gx_s z).heap.size) M 0 [(0, .ref (gx_ad w 2)), (1, .int v1)] [] := by
  unfold T_X0_word at h
  refine gw_iload_n hC dX0_word_0 rfl 1 rfl ?_
  by_cases hs1 : v1 = (-16)
  · have h := gx_t h hs1
    refine gw_tabIn (tgt := 68) (off := 67) (v := (-16)) hC dX0_word_1 hs1 (by decide) (by decide) (by decide) (by decide) ?_
    refine gw_aload_n hC dX0_word_68 rfl 0 rfl ?_
    refine gw_get hC cl_X0 fg_X0_28 (hw.lt (by decide)) (gc_2 hw _) (gv_X0_5 _ _ _) dX0_word_69 ?_
    exact gw_iret hC hr dX0_word_72 ⟨rfl, h⟩
  have h := gx_f h hs1
  by_cases hs2 : v1 = (-15)
  · have h := gx_t h hs2
    refine gw_tabIn (tgt := 60) (off := 59) (v := (-15)) hC dX0_word_1 hs2 (by decide) (by decide) (by decide) (by decide) ?_
    refine gw_aload_n hC dX0_word_60 rfl 0 rfl ?_
    refine gw_get hC cl_X0 fg_X0_25 (hw.lt (by decide)) (gc_2 hw _) (gv_X0_4 _ _ _) dX0_word_61 ?_
    refine gw_bipush (v := 40) hC dX0_word_64 (by decide) ?_
    refine gw_irem hC dX0_word_66 (by decide) ?_
    exact gw_iret hC hr dX0_word_67 ⟨rfl, h⟩
  have h := gx_f h hs2
  by_cases hs3 : v1 = (-14)
  · have h := gx_t h hs3
    refine gw_tabIn (tgt := 55) (off := 54) (v := (-14)) hC dX0_word_1 hs3 (by decide) (by decide) (by decide) (by decide) ?_
    refine gw_aload_n hC dX0_word_55 rfl 0 rfl ?_
    refine gw_get hC cl_X0 fg_X0_25 (hw.lt (by decide)) (gc_2 hw _) (gv_X0_4 _ _ _) dX0_word_56 ?_
    exact gw_iret hC hr dX0_word_59 ⟨rfl, h⟩
  have h := gx_f h hs3
  by_cases hs4 : v1 = (-13)
  · have h := gx_t h hs4
    refine gw_tabIn (tgt := 50) (off := 49) (v := (-13)) hC dX0_word_1 hs4 (by decide) (by decide) (by decide) (by decide) ?_
    refine gw_aload_n hC dX0_word_50 rfl 0 rfl ?_
    refine gw_get hC cl_X0 fg_X0_22 (hw.lt (by decide)) (gc_2 hw _) (gv_X0_3 _ _ _) dX0_word_51 ?_
    exact gw_iret hC hr dX0_word_54 ⟨rfl, h⟩
  have h := gx_f h hs4
  by_cases hs5 : v1 = (-12)
  · have h := gx_t h hs5
    refine gw_tabIn (tgt := 45) (off := 44) (v := (-12)) hC dX0_word_1 hs5 (by decide) (by decide) (by decide) (by decide) ?_
    refine gw_aload_n hC dX0_word_45 rfl 0 rfl ?_
    refine gw_get hC cl_X0 fg_X0_19 (hw.lt (by decide)) (gc_2 hw _) (gv_X0_2 _ _ _) dX0_word_46 ?_
    exact gw_iret hC hr dX0_word_49 ⟨rfl, h⟩
  have h := gx_f h hs5
  by_cases hs6 : v1 = (-11)
  · have h := gx_t h hs6
    refine gw_tabIn (tgt := 40) (off := 39) (v := (-11)) hC dX0_word_1 hs6 (by decide) (by decide) (by decide) (by decide) ?_
    refine gw_aload_n hC dX0_word_40 rfl 0 rfl ?_
    refine gw_get hC cl_X0 fg_X0_15 (hw.lt (by decide)) (gc_2 hw _) (gv_X0_1 _ _ _) dX0_word_41 ?_
    exact gw_iret hC hr dX0_word_44 ⟨rfl, h⟩
  have h := gx_f h hs6
  refine gw_tabOut (tgt := 73) 6 hC dX0_word_1 (by decide) (fun j hj => match j, hj with | 0, _ => fun e => hs1 (e.trans (by decide)) | 1, _ => fun e => hs2 (e.trans (by decide)) | 2, _ => fun e => hs3 (e.trans (by decide)) | 3, _ => fun e => hs4 (e.trans (by decide)) | 4, _ => fun e => hs5 (e.trans (by decide)) | 5, _ => fun e => hs6 (e.trans (by decide)) | n + 6, hj => absurd hj (by omega)) (by decide) ?_
  refine gw_aload_n hC dX0_word_73 rfl 0 rfl ?_
  refine gw_get hC cl_X0 fg_X0_31 (hw.lt (by decide)) (gc_2 hw _) (gv_X0_6 _ _ _) dX0_word_74 ?_
  exact gw_iret hC hr dX0_word_77 ⟨rfl, h⟩
theorem c_X0_word {l : Launch} {d : gx_D} {w : gx_V} {ca : Nat → ClassId} (hw : gx_isC ca w)   {M : gx_M} {v1 : Int32} {Q : Int32 → Prop} (h : T_X0_word M v1 Q) : gx_Mi l d w yX0_word cX0_word 2 .int rm_X0_word [.ref (gx_ad w 2), .int v1] M (fun r M1 => M1 = M ∧ Q r) := fun sz =>
  gx_of (own := RX0) (by decide +kernel) rfl (Nat.le_of_ble_eq_true rfl) (fun z hC hl hR hsz hr => by subst hsz; exact J_X0_word hC hw hR hr  h) rfl
set_option maxRecDepth 20000 in
theorem J_X0_bounded {z : gx_X} {d : gx_D} {w : gx_V} {ca : Nat → ClassId} (hC : gx_C z d w cX0_bounded 2 RX0) (hw : gx_isC ca w) (hR : gx_R z = rm_X0_bounded) (hr : (gx_me z).sig.returnType = (some .int))   {M : gx_M} {x0 : Int64} {Q : Int32 → Prop} (h : T_X0_bounded M x0 Q) : GW z w 2 (gx_Qi w (fun r M1 => M1 = M ∧ Q r) (gx_s z).heap.size) M 0 [(0, .long x0)] [] := by
  unfold T_X0_bounded at h
  refine gw_lload_n hC dX0_bounded_0 rfl 0 rfl ?_
  refine gw_ldc2 hC kl_X0_50 dX0_bounded_1 ?_
  refine gw_lcmp hC dX0_bounded_4 ?_
  refine gw_if_le (tgt := 11) hC dX0_bounded_5 (by decide) (fun hc => ?_) (fun hc => ?_)
  · have h := gx_t h ((lg_cmp_le _ _).mp hc)
    refine gw_lload_n hC dX0_bounded_11 rfl 0 rfl ?_
    refine gw_ldc2 hC kl_X0_53 dX0_bounded_12 ?_
    refine gw_lcmp hC dX0_bounded_15 ?_
    refine gw_if_ge (tgt := 24) hC dX0_bounded_16 (by decide) (fun hc => ?_) (fun hc => ?_)
    · have h := gx_t h ((lg_cmp_ge _ _).mp hc)
      refine gw_lload_n hC dX0_bounded_24 rfl 0 rfl ?_
      refine gw_l2i hC dX0_bounded_25 rfl ?_
      exact gw_iret hC hr dX0_bounded_26 ⟨rfl, h⟩
    · have h := gx_f h (fun q => hc ((lg_cmp_ge _ _).mpr q))
      refine gw_ldc hC kc_X0_55 dX0_bounded_19 ?_
      refine gw_goto (tgt := 26) hC dX0_bounded_21 (by decide) ?_
      exact gw_iret hC hr dX0_bounded_26 ⟨rfl, h⟩
  · have h := gx_f h (fun q => hc ((lg_cmp_le _ _).mpr q))
    refine gw_ldc hC kc_X0_52 dX0_bounded_8 ?_
    exact gw_iret hC hr dX0_bounded_10 ⟨rfl, h⟩
theorem c_X0_bounded {l : Launch} {d : gx_D} {w : gx_V} {ca : Nat → ClassId} (hw : gx_isC ca w)   {M : gx_M} {x0 : Int64} {Q : Int32 → Prop} (h : T_X0_bounded M x0 Q) : gx_Mi l d w yX0_bounded cX0_bounded 2 .int rm_X0_bounded [.long x0] M (fun r M1 => M1 = M ∧ Q r) := fun sz =>
  gx_of (own := RX0) (by decide +kernel) rfl (Nat.le_of_ble_eq_true rfl) (fun z hC hl hR hsz hr => by subst hsz; exact J_X0_bounded hC hw hR hr  h) rfl
set_option maxRecDepth 20000 in
theorem J_X0_isSo {z : gx_X} {d : gx_D} {w : gx_V} {ca : Nat → ClassId} (hC : gx_C z d w cX0_isSo 5 RX0) (hw : gx_isC ca w) (hR : gx_R z = rm_X0_isSo) (hr : (gx_me z).sig.returnType = (some .boolean))   {M : gx_M} {v0 : Int32} {x1 : Int64} {x3 : Int64} {Q : Int32 → Prop} (h : T_X0_isSo M v0 x1 x3 Q) : GW z w 5 (gx_Qi w (fun r M1 => M1 = M ∧ Q r) (gx_s z).heap.size) M 0 [(0, .int v0), (1, .long x1), (3, .long x3)] [] := by
  unfold T_X0_isSo at h
  refine gw_iload_n hC dX0_isSo_0 rfl 0 rfl ?_
  by_cases hs1 : v0 = (-42)
  · have h := gx_t h hs1
    refine gw_tabIn (tgt := 136) (off := 135) (v := (-42)) hC dX0_isSo_1 hs1 (by decide) (by decide) (by decide) (by decide) ?_
    refine gw_lload_n hC dX0_isSo_136 rfl 1 rfl ?_
    refine gw_lload_n hC dX0_isSo_137 rfl 2 rfl ?_
    refine gw_land hC dX0_isSo_138 ?_
    refine gw_lconst (v := 0) hC dX0_isSo_139 (by decide) ?_
    refine gw_lcmp hC dX0_isSo_140 ?_
    refine gw_if_eq (tgt := 148) hC dX0_isSo_141 (by decide) (fun hc => ?_) (fun hc => ?_)
    · have h := gx_t h ((lg_cmp_eq _ _).mp hc)
      refine gw_iconst (v := 0) hC dX0_isSo_148 (by decide) ?_
      exact gw_zret hC hr rfl dX0_isSo_149 ⟨rfl, h⟩
    · have h := gx_f h (fun q => hc ((lg_cmp_eq _ _).mpr q))
      refine gw_iconst (v := 1) hC dX0_isSo_144 (by decide) ?_
      refine gw_goto (tgt := 149) hC dX0_isSo_145 (by decide) ?_
      exact gw_zret hC hr rfl dX0_isSo_149 ⟨rfl, h⟩
  have h := gx_f h hs1
  by_cases hs2 : v0 = (-41)
  · have h := gx_t h hs2
    refine gw_tabIn (tgt := 150) (off := 149) (v := (-41)) hC dX0_isSo_1 hs2 (by decide) (by decide) (by decide) (by decide) ?_
    refine gw_lload_n hC dX0_isSo_150 rfl 1 rfl ?_
    refine gw_lload_n hC dX0_isSo_151 rfl 2 rfl ?_
    refine gw_lor hC dX0_isSo_152 ?_
    refine gw_lconst (v := 0) hC dX0_isSo_153 (by decide) ?_
    refine gw_lcmp hC dX0_isSo_154 ?_
    refine gw_if_eq (tgt := 162) hC dX0_isSo_155 (by decide) (fun hc => ?_) (fun hc => ?_)
    · have h := gx_t h ((lg_cmp_eq _ _).mp hc)
      refine gw_iconst (v := 0) hC dX0_isSo_162 (by decide) ?_
      exact gw_zret hC hr rfl dX0_isSo_163 ⟨rfl, h⟩
    · have h := gx_f h (fun q => hc ((lg_cmp_eq _ _).mpr q))
      refine gw_iconst (v := 1) hC dX0_isSo_158 (by decide) ?_
      refine gw_goto (tgt := 163) hC dX0_isSo_159 (by decide) ?_
      exact gw_zret hC hr rfl dX0_isSo_163 ⟨rfl, h⟩
  have h := gx_f h hs2
  by_cases hs3 : v0 = (-40)
  · have h := gx_t h hs3
    refine gw_tabIn (tgt := 150) (off := 149) (v := (-40)) hC dX0_isSo_1 hs3 (by decide) (by decide) (by decide) (by decide) ?_
    refine gw_lload_n hC dX0_isSo_150 rfl 1 rfl ?_
    refine gw_lload_n hC dX0_isSo_151 rfl 2 rfl ?_
    refine gw_lor hC dX0_isSo_152 ?_
    refine gw_lconst (v := 0) hC dX0_isSo_153 (by decide) ?_
    refine gw_lcmp hC dX0_isSo_154 ?_
    refine gw_if_eq (tgt := 162) hC dX0_isSo_155 (by decide) (fun hc => ?_) (fun hc => ?_)
    · have h := gx_t h ((lg_cmp_eq _ _).mp hc)
      refine gw_iconst (v := 0) hC dX0_isSo_162 (by decide) ?_
      exact gw_zret hC hr rfl dX0_isSo_163 ⟨rfl, h⟩
    · have h := gx_f h (fun q => hc ((lg_cmp_eq _ _).mpr q))
      refine gw_iconst (v := 1) hC dX0_isSo_158 (by decide) ?_
      refine gw_goto (tgt := 163) hC dX0_isSo_159 (by decide) ?_
      exact gw_zret hC hr rfl dX0_isSo_163 ⟨rfl, h⟩
  have h := gx_f h hs3
  by_cases hs4 : v0 = (-39)
  · have h := gx_t h hs4
    refine gw_tabIn (tgt := 150) (off := 149) (v := (-39)) hC dX0_isSo_1 hs4 (by decide) (by decide) (by decide) (by decide) ?_
    refine gw_lload_n hC dX0_isSo_150 rfl 1 rfl ?_
    refine gw_lload_n hC dX0_isSo_151 rfl 2 rfl ?_
    refine gw_lor hC dX0_isSo_152 ?_
    refine gw_lconst (v := 0) hC dX0_isSo_153 (by decide) ?_
    refine gw_lcmp hC dX0_isSo_154 ?_
    refine gw_if_eq (tgt := 162) hC dX0_isSo_155 (by decide) (fun hc => ?_) (fun hc => ?_)
    · have h := gx_t h ((lg_cmp_eq _ _).mp hc)
      refine gw_iconst (v := 0) hC dX0_isSo_162 (by decide) ?_
      exact gw_zret hC hr rfl dX0_isSo_163 ⟨rfl, h⟩
    · have h := gx_f h (fun q => hc ((lg_cmp_eq _ _).mpr q))
      refine gw_iconst (v := 1) hC dX0_isSo_158 (by decide) ?_
      refine gw_goto (tgt := 163) hC dX0_isSo_159 (by decide) ?_
      exact gw_zret hC hr rfl dX0_isSo_163 ⟨rfl, h⟩
  have h := gx_f h hs4
  by_cases hs5 : v0 = (-38)
  · have h := gx_t h hs5
    refine gw_tabIn (tgt := 150) (off := 149) (v := (-38)) hC dX0_isSo_1 hs5 (by decide) (by decide) (by decide) (by decide) ?_
    refine gw_lload_n hC dX0_isSo_150 rfl 1 rfl ?_
    refine gw_lload_n hC dX0_isSo_151 rfl 2 rfl ?_
    refine gw_lor hC dX0_isSo_152 ?_
    refine gw_lconst (v := 0) hC dX0_isSo_153 (by decide) ?_
    refine gw_lcmp hC dX0_isSo_154 ?_
    refine gw_if_eq (tgt := 162) hC dX0_isSo_155 (by decide) (fun hc => ?_) (fun hc => ?_)
    · have h := gx_t h ((lg_cmp_eq _ _).mp hc)
      refine gw_iconst (v := 0) hC dX0_isSo_162 (by decide) ?_
      exact gw_zret hC hr rfl dX0_isSo_163 ⟨rfl, h⟩
    · have h := gx_f h (fun q => hc ((lg_cmp_eq _ _).mpr q))
      refine gw_iconst (v := 1) hC dX0_isSo_158 (by decide) ?_
      refine gw_goto (tgt := 163) hC dX0_isSo_159 (by decide) ?_
      exact gw_zret hC hr rfl dX0_isSo_163 ⟨rfl, h⟩
  have h := gx_f h hs5
  by_cases hs6 : v0 = (-37)
  · have h := gx_t h hs6
    refine gw_tabIn (tgt := 150) (off := 149) (v := (-37)) hC dX0_isSo_1 hs6 (by decide) (by decide) (by decide) (by decide) ?_
    refine gw_lload_n hC dX0_isSo_150 rfl 1 rfl ?_
    refine gw_lload_n hC dX0_isSo_151 rfl 2 rfl ?_
    refine gw_lor hC dX0_isSo_152 ?_
    refine gw_lconst (v := 0) hC dX0_isSo_153 (by decide) ?_
    refine gw_lcmp hC dX0_isSo_154 ?_
    refine gw_if_eq (tgt := 162) hC dX0_isSo_155 (by decide) (fun hc => ?_) (fun hc => ?_)
    · have h := gx_t h ((lg_cmp_eq _ _).mp hc)
      refine gw_iconst (v := 0) hC dX0_isSo_162 (by decide) ?_
      exact gw_zret hC hr rfl dX0_isSo_163 ⟨rfl, h⟩
    · have h := gx_f h (fun q => hc ((lg_cmp_eq _ _).mpr q))
      refine gw_iconst (v := 1) hC dX0_isSo_158 (by decide) ?_
      refine gw_goto (tgt := 163) hC dX0_isSo_159 (by decide) ?_
      exact gw_zret hC hr rfl dX0_isSo_163 ⟨rfl, h⟩
  have h := gx_f h hs6
  by_cases hs7 : v0 = (-36)
  · have h := gx_t h hs7
    refine gw_tabIn (tgt := 124) (off := 123) (v := (-36)) hC dX0_isSo_1 hs7 (by decide) (by decide) (by decide) (by decide) ?_
    refine gw_lload_n hC dX0_isSo_124 rfl 1 rfl ?_
    refine gw_lload_n hC dX0_isSo_125 rfl 2 rfl ?_
    refine gw_lcmp hC dX0_isSo_126 ?_
    refine gw_if_eq (tgt := 134) hC dX0_isSo_127 (by decide) (fun hc => ?_) (fun hc => ?_)
    · have h := gx_t h ((lg_cmp_eq _ _).mp hc)
      refine gw_iconst (v := 0) hC dX0_isSo_134 (by decide) ?_
      exact gw_zret hC hr rfl dX0_isSo_135 ⟨rfl, h⟩
    · have h := gx_f h (fun q => hc ((lg_cmp_eq _ _).mpr q))
      refine gw_iconst (v := 1) hC dX0_isSo_130 (by decide) ?_
      refine gw_goto (tgt := 135) hC dX0_isSo_131 (by decide) ?_
      exact gw_zret hC hr rfl dX0_isSo_135 ⟨rfl, h⟩
  have h := gx_f h hs7
  by_cases hs8 : v0 = (-35)
  · have h := gx_t h hs8
    refine gw_tabIn (tgt := 112) (off := 111) (v := (-35)) hC dX0_isSo_1 hs8 (by decide) (by decide) (by decide) (by decide) ?_
    refine gw_lload_n hC dX0_isSo_112 rfl 1 rfl ?_
    refine gw_lload_n hC dX0_isSo_113 rfl 2 rfl ?_
    refine gw_lcmp hC dX0_isSo_114 ?_
    refine gw_if_ne (tgt := 122) hC dX0_isSo_115 (by decide) (fun hc => ?_) (fun hc => ?_)
    · have h := gx_f h (fun q => hc ((lg_cmp_eq _ _).mpr q))
      refine gw_iconst (v := 0) hC dX0_isSo_122 (by decide) ?_
      exact gw_zret hC hr rfl dX0_isSo_123 ⟨rfl, h⟩
    · have h := gx_t h ((lg_cmp_eq _ _).mp hc)
      refine gw_iconst (v := 1) hC dX0_isSo_118 (by decide) ?_
      refine gw_goto (tgt := 123) hC dX0_isSo_119 (by decide) ?_
      exact gw_zret hC hr rfl dX0_isSo_123 ⟨rfl, h⟩
  have h := gx_f h hs8
  by_cases hs9 : v0 = (-34)
  · have h := gx_t h hs9
    refine gw_tabIn (tgt := 100) (off := 99) (v := (-34)) hC dX0_isSo_1 hs9 (by decide) (by decide) (by decide) (by decide) ?_
    refine gw_lload_n hC dX0_isSo_100 rfl 1 rfl ?_
    refine gw_lload_n hC dX0_isSo_101 rfl 2 rfl ?_
    refine gw_lcmp hC dX0_isSo_102 ?_
    refine gw_if_lt (tgt := 110) hC dX0_isSo_103 (by decide) (fun hc => ?_) (fun hc => ?_)
    · have h := gx_t h ((lg_cmp_lt _ _).mp hc)
      refine gw_iconst (v := 0) hC dX0_isSo_110 (by decide) ?_
      exact gw_zret hC hr rfl dX0_isSo_111 ⟨rfl, h⟩
    · have h := gx_f h (fun q => hc ((lg_cmp_lt _ _).mpr q))
      refine gw_iconst (v := 1) hC dX0_isSo_106 (by decide) ?_
      refine gw_goto (tgt := 111) hC dX0_isSo_107 (by decide) ?_
      exact gw_zret hC hr rfl dX0_isSo_111 ⟨rfl, h⟩
  have h := gx_f h hs9
  by_cases hs10 : v0 = (-33)
  · have h := gx_t h hs10
    refine gw_tabIn (tgt := 88) (off := 87) (v := (-33)) hC dX0_isSo_1 hs10 (by decide) (by decide) (by decide) (by decide) ?_
    refine gw_lload_n hC dX0_isSo_88 rfl 1 rfl ?_
    refine gw_lload_n hC dX0_isSo_89 rfl 2 rfl ?_
    refine gw_lcmp hC dX0_isSo_90 ?_
    refine gw_if_le (tgt := 98) hC dX0_isSo_91 (by decide) (fun hc => ?_) (fun hc => ?_)
    · have h := gx_t h ((lg_cmp_le _ _).mp hc)
      refine gw_iconst (v := 0) hC dX0_isSo_98 (by decide) ?_
      exact gw_zret hC hr rfl dX0_isSo_99 ⟨rfl, h⟩
    · have h := gx_f h (fun q => hc ((lg_cmp_le _ _).mpr q))
      refine gw_iconst (v := 1) hC dX0_isSo_94 (by decide) ?_
      refine gw_goto (tgt := 99) hC dX0_isSo_95 (by decide) ?_
      exact gw_zret hC hr rfl dX0_isSo_99 ⟨rfl, h⟩
  have h := gx_f h hs10
  by_cases hs11 : v0 = (-32)
  · have h := gx_t h hs11
    refine gw_tabIn (tgt := 76) (off := 75) (v := (-32)) hC dX0_isSo_1 hs11 (by decide) (by decide) (by decide) (by decide) ?_
    refine gw_lload_n hC dX0_isSo_76 rfl 1 rfl ?_
    refine gw_lload_n hC dX0_isSo_77 rfl 2 rfl ?_
    refine gw_lcmp hC dX0_isSo_78 ?_
    refine gw_if_gt (tgt := 86) hC dX0_isSo_79 (by decide) (fun hc => ?_) (fun hc => ?_)
    · have h := gx_t h ((lg_cmp_gt _ _).mp hc)
      refine gw_iconst (v := 0) hC dX0_isSo_86 (by decide) ?_
      exact gw_zret hC hr rfl dX0_isSo_87 ⟨rfl, h⟩
    · have h := gx_f h (fun q => hc ((lg_cmp_gt _ _).mpr q))
      refine gw_iconst (v := 1) hC dX0_isSo_82 (by decide) ?_
      refine gw_goto (tgt := 87) hC dX0_isSo_83 (by decide) ?_
      exact gw_zret hC hr rfl dX0_isSo_87 ⟨rfl, h⟩
  have h := gx_f h hs11
  by_cases hs12 : v0 = (-31)
  · have h := gx_t h hs12
    refine gw_tabIn (tgt := 64) (off := 63) (v := (-31)) hC dX0_isSo_1 hs12 (by decide) (by decide) (by decide) (by decide) ?_
    refine gw_lload_n hC dX0_isSo_64 rfl 1 rfl ?_
    refine gw_lload_n hC dX0_isSo_65 rfl 2 rfl ?_
    refine gw_lcmp hC dX0_isSo_66 ?_
    refine gw_if_ge (tgt := 74) hC dX0_isSo_67 (by decide) (fun hc => ?_) (fun hc => ?_)
    · have h := gx_t h ((lg_cmp_ge _ _).mp hc)
      refine gw_iconst (v := 0) hC dX0_isSo_74 (by decide) ?_
      exact gw_zret hC hr rfl dX0_isSo_75 ⟨rfl, h⟩
    · have h := gx_f h (fun q => hc ((lg_cmp_ge _ _).mpr q))
      refine gw_iconst (v := 1) hC dX0_isSo_70 (by decide) ?_
      refine gw_goto (tgt := 75) hC dX0_isSo_71 (by decide) ?_
      exact gw_zret hC hr rfl dX0_isSo_75 ⟨rfl, h⟩
  have h := gx_f h hs12
  refine gw_tabOut (tgt := 150) 12 hC dX0_isSo_1 (by decide) (fun j hj => match j, hj with | 0, _ => fun e => hs1 (e.trans (by decide)) | 1, _ => fun e => hs2 (e.trans (by decide)) | 2, _ => fun e => hs3 (e.trans (by decide)) | 3, _ => fun e => hs4 (e.trans (by decide)) | 4, _ => fun e => hs5 (e.trans (by decide)) | 5, _ => fun e => hs6 (e.trans (by decide)) | 6, _ => fun e => hs7 (e.trans (by decide)) | 7, _ => fun e => hs8 (e.trans (by decide)) | 8, _ => fun e => hs9 (e.trans (by decide)) | 9, _ => fun e => hs10 (e.trans (by decide)) | 10, _ => fun e => hs11 (e.trans (by decide)) | 11, _ => fun e => hs12 (e.trans (by decide)) | n + 12, hj => absurd hj (by omega)) (by decide) ?_
  refine gw_lload_n hC dX0_isSo_150 rfl 1 rfl ?_
  refine gw_lload_n hC dX0_isSo_151 rfl 2 rfl ?_
  refine gw_lor hC dX0_isSo_152 ?_
  refine gw_lconst (v := 0) hC dX0_isSo_153 (by decide) ?_
  refine gw_lcmp hC dX0_isSo_154 ?_
  refine gw_if_eq (tgt := 162) hC dX0_isSo_155 (by decide) (fun hc => ?_) (fun hc => ?_)
  · have h := gx_t h ((lg_cmp_eq _ _).mp hc)
    refine gw_iconst (v := 0) hC dX0_isSo_162 (by decide) ?_
    exact gw_zret hC hr rfl dX0_isSo_163 ⟨rfl, h⟩
  · have h := gx_f h (fun q => hc ((lg_cmp_eq _ _).mpr q))
    refine gw_iconst (v := 1) hC dX0_isSo_158 (by decide) ?_
    refine gw_goto (tgt := 163) hC dX0_isSo_159 (by decide) ?_
    exact gw_zret hC hr rfl dX0_isSo_163 ⟨rfl, h⟩
theorem c_X0_isSo {l : Launch} {d : gx_D} {w : gx_V} {ca : Nat → ClassId} (hw : gx_isC ca w)   {M : gx_M} {v0 : Int32} {x1 : Int64} {x3 : Int64} {Q : Int32 → Prop} (h : T_X0_isSo M v0 x1 x3 Q) : gx_Mi l d w yX0_isSo cX0_isSo 5 .boolean rm_X0_isSo [.int v0, .long x1, .long x3] M (fun r M1 => M1 = M ∧ Q r) := fun sz =>
  gx_of (own := RX0) (by decide +kernel) rfl (Nat.le_of_ble_eq_true rfl) (fun z hC hl hR hsz hr => by subst hsz; exact J_X0_isSo hC hw hR hr  h) rfl
set_option maxRecDepth 20000 in
theorem J_X0_joined {z : gx_X} {d : gx_D} {w : gx_V} {ca : Nat → ClassId} (hC : gx_C z d w cX0_joined 5 RX0) (hw : gx_isC ca w) (hR : gx_R z = rm_X0_joined) (hr : (gx_me z).sig.returnType = (some .int))   {M : gx_M} {v0 : Int32} {x1 : Int64} {x3 : Int64} {Q : Int32 → Prop} (h : T_X0_joined M v0 x1 x3 Q) : GW z w 5 (gx_Qi w (fun r M1 => M1 = M ∧ Q r) (gx_s z).heap.size) M 0 [(0, .int v0), (1, .long x1), (3, .long x3)] [] := by
  unfold T_X0_joined at h
  refine gw_iload_n hC dX0_joined_0 rfl 0 rfl ?_
  by_cases hs3 : v0 = (-24)
  · have h := gx_t h hs3
    refine gw_tabIn (tgt := 53) (off := 52) (v := (-24)) hC dX0_joined_1 hs3 (by decide) (by decide) (by decide) (by decide) ?_
    refine gw_lload_n hC dX0_joined_53 rfl 2 rfl ?_
    refine gw_lconst (v := 0) hC dX0_joined_54 (by decide) ?_
    refine gw_lcmp hC dX0_joined_55 ?_
    refine gw_if_ne (tgt := 63) hC dX0_joined_56 (by decide) (fun hc => ?_) (fun hc => ?_)
    · have h := gx_f h (fun q => hc ((lg_cmp_eq _ _).mpr q))
      refine gw_lload_n hC dX0_joined_63 rfl 1 rfl ?_
      refine gw_lload_n hC dX0_joined_64 rfl 2 rfl ?_
      obtain ⟨hz, h⟩ := h
      refine gw_ldiv hC dX0_joined_65 hz ?_
      refine gw_calli (gx_rS hC (n := 1) (As := [.long (x1 / x3)]) (rest := []) (fun sz => c_X0_bounded hw  h sz) cs_X0_42_X0_bounded (by rw [hR]; exact rr_X0_joined_X0_bounded) rfl rfl (Nat.le_of_ble_eq_true rfl) dX0_joined_66) ?_
      intro r1 m2 ⟨hm2, h⟩
      rw [hm2]
      exact gw_iret hC hr dX0_joined_69 ⟨rfl, h⟩
    · have h := gx_t h ((lg_cmp_eq _ _).mp hc)
      refine gw_iconst (v := 0) hC dX0_joined_59 (by decide) ?_
      refine gw_goto (tgt := 69) hC dX0_joined_60 (by decide) ?_
      exact gw_iret hC hr dX0_joined_69 ⟨rfl, h⟩
  have h := gx_f h hs3
  by_cases hs6 : v0 = (-23)
  · have h := gx_t h hs6
    refine gw_tabIn (tgt := 46) (off := 45) (v := (-23)) hC dX0_joined_1 hs6 (by decide) (by decide) (by decide) (by decide) ?_
    refine gw_lload_n hC dX0_joined_46 rfl 1 rfl ?_
    refine gw_lload_n hC dX0_joined_47 rfl 2 rfl ?_
    refine gw_lmul hC dX0_joined_48 ?_
    refine gw_calli (gx_rS hC (n := 1) (As := [.long (x1 * x3)]) (rest := []) (fun sz => c_X0_bounded hw  h sz) cs_X0_42_X0_bounded (by rw [hR]; exact rr_X0_joined_X0_bounded) rfl rfl (Nat.le_of_ble_eq_true rfl) dX0_joined_49) ?_
    intro r4 m5 ⟨hm5, h⟩
    rw [hm5]
    exact gw_iret hC hr dX0_joined_52 ⟨rfl, h⟩
  have h := gx_f h hs6
  by_cases hs9 : v0 = (-22)
  · have h := gx_t h hs9
    refine gw_tabIn (tgt := 39) (off := 38) (v := (-22)) hC dX0_joined_1 hs9 (by decide) (by decide) (by decide) (by decide) ?_
    refine gw_lload_n hC dX0_joined_39 rfl 1 rfl ?_
    refine gw_lload_n hC dX0_joined_40 rfl 2 rfl ?_
    refine gw_lsub hC dX0_joined_41 ?_
    refine gw_calli (gx_rS hC (n := 1) (As := [.long (x1 - x3)]) (rest := []) (fun sz => c_X0_bounded hw  h sz) cs_X0_42_X0_bounded (by rw [hR]; exact rr_X0_joined_X0_bounded) rfl rfl (Nat.le_of_ble_eq_true rfl) dX0_joined_42) ?_
    intro r7 m8 ⟨hm8, h⟩
    rw [hm8]
    exact gw_iret hC hr dX0_joined_45 ⟨rfl, h⟩
  have h := gx_f h hs9
  by_cases hs12 : v0 = (-21)
  · have h := gx_t h hs12
    refine gw_tabIn (tgt := 32) (off := 31) (v := (-21)) hC dX0_joined_1 hs12 (by decide) (by decide) (by decide) (by decide) ?_
    refine gw_lload_n hC dX0_joined_32 rfl 1 rfl ?_
    refine gw_lload_n hC dX0_joined_33 rfl 2 rfl ?_
    refine gw_ladd hC dX0_joined_34 ?_
    refine gw_calli (gx_rS hC (n := 1) (As := [.long (x1 + x3)]) (rest := []) (fun sz => c_X0_bounded hw  h sz) cs_X0_42_X0_bounded (by rw [hR]; exact rr_X0_joined_X0_bounded) rfl rfl (Nat.le_of_ble_eq_true rfl) dX0_joined_35) ?_
    intro r10 m11 ⟨hm11, h⟩
    rw [hm11]
    exact gw_iret hC hr dX0_joined_38 ⟨rfl, h⟩
  have h := gx_f h hs12
  refine gw_tabOut (tgt := 70) 4 hC dX0_joined_1 (by decide) (fun j hj => match j, hj with | 0, _ => fun e => hs3 (e.trans (by decide)) | 1, _ => fun e => hs6 (e.trans (by decide)) | 2, _ => fun e => hs9 (e.trans (by decide)) | 3, _ => fun e => hs12 (e.trans (by decide)) | n + 4, hj => absurd hj (by omega)) (by decide) ?_
  refine gw_iload_n hC dX0_joined_70 rfl 0 rfl ?_
  refine gw_lload_n hC dX0_joined_71 rfl 1 rfl ?_
  refine gw_lload_n hC dX0_joined_72 rfl 2 rfl ?_
  refine gw_calli (gx_rS hC (n := 3) (As := [.int v0, .long x1, .long x3]) (rest := []) (fun sz => c_X0_isSo hw  h sz) cs_X0_46_X0_isSo (by rw [hR]; exact rr_X0_joined_X0_isSo) rfl rfl (Nat.le_of_ble_eq_true rfl) dX0_joined_73) ?_
  intro r13 m14 ⟨hm14, h⟩
  rw [hm14]
  refine gw_if_eq (tgt := 83) hC dX0_joined_76 (by decide) (fun hc => ?_) (fun hc => ?_)
  · have h := gx_t h hc
    refine gw_iconst (v := 0) hC dX0_joined_83 (by decide) ?_
    exact gw_iret hC hr dX0_joined_84 ⟨rfl, h⟩
  · have h := gx_f h hc
    refine gw_iconst (v := 1) hC dX0_joined_79 (by decide) ?_
    refine gw_goto (tgt := 84) hC dX0_joined_80 (by decide) ?_
    exact gw_iret hC hr dX0_joined_84 ⟨rfl, h⟩
theorem c_X0_joined {l : Launch} {d : gx_D} {w : gx_V} {ca : Nat → ClassId} (hw : gx_isC ca w)   {M : gx_M} {v0 : Int32} {x1 : Int64} {x3 : Int64} {Q : Int32 → Prop} (h : T_X0_joined M v0 x1 x3 Q) : gx_Mi l d w yX0_joined cX0_joined 5 .int rm_X0_joined [.int v0, .long x1, .long x3] M (fun r M1 => M1 = M ∧ Q r) := fun sz =>
  gx_of (own := RX0) (by decide +kernel) rfl (Nat.le_of_ble_eq_true rfl) (fun z hC hl hR hsz hr => by subst hsz; exact J_X0_joined hC hw hR hr  h) rfl
set_option maxRecDepth 20000 in
theorem J_X0_answer_164 {z : gx_X} {d : gx_D} {w : gx_V} {ca : Nat → ClassId} (hC : gx_C z d w cX0_answer 6 RX0) (hw : gx_isC ca w) (hR : gx_R z = rm_X0_answer) (hr : (gx_me z).sig.returnType = (some .int))  {Q : Int32 → gx_M → Prop} {K5 : gx_M → Nat → Int32 → Int32 → Int32 → Prop} (hK5 : ∀ (M : gx_M) (o1 : Nat) (v2 : Int32) (v3 : Int32) (v4 : Int32) (ho1 : pk_a3 o1), K5 M o1 v2 v3 v4 → GW z w 6 (gx_Qi w Q (gx_s z).heap.size) M 5 [(0, .ref (gx_ad w 2)), (1, .ref (gx_ad w o1)), (2, .int v2), (3, .int v3), (4, .int v4)] []) (M : gx_M) (o1 : Nat) (v2 : Int32) (v3 : Int32) (v4 : Int32) (ho1 : pk_a3 o1) (h : T_X0_answer_164 Q K5 M o1 v2 v3 v4) : GW z w 6 (gx_Qi w Q (gx_s z).heap.size) M 164 [(0, .ref (gx_ad w 2)), (1, .ref (gx_ad w o1)), (2, .int v2), (3, .int v3), (4, .int v4)] [] := by
  unfold T_X0_answer_164 at h
  obtain ⟨x2, hx2⟩ : ∃ y : Int32, y = v4 + 1 := ⟨_, rfl⟩
  have h := h x2 hx2
  refine gw_iinc (v := x2) (lv' := [(4, .int x2), (0, .ref (gx_ad w 2)), (1, .ref (gx_ad w o1)), (2, .int v2), (3, .int v3)]) hC dX0_answer_164 (k := 4) rfl (by rw [hx2]; rfl) (by decide) rfl ?_
  refine gw_goto (tgt := 5) hC dX0_answer_167 (by decide) ?_
  refine gw_sub (lv' := [(0, .ref (gx_ad w 2)), (1, .ref (gx_ad w o1)), (2, .int v2), (3, .int v3), (4, .int x2)]) [1, 2, 3, 4, 0] rfl ?_
  exact hK5 M o1 v2 v3 x2 ho1 h
set_option maxRecDepth 20000 in
theorem J_X0_answer_123 {z : gx_X} {d : gx_D} {w : gx_V} {ca : Nat → ClassId} (hC : gx_C z d w cX0_answer 6 RX0) (hw : gx_isC ca w) (hR : gx_R z = rm_X0_answer) (hr : (gx_me z).sig.returnType = (some .int))  {Q : Int32 → gx_M → Prop} {K5 : gx_M → Nat → Int32 → Int32 → Int32 → Prop} (hK5 : ∀ (M : gx_M) (o1 : Nat) (v2 : Int32) (v3 : Int32) (v4 : Int32) (ho1 : pk_a3 o1), K5 M o1 v2 v3 v4 → GW z w 6 (gx_Qi w Q (gx_s z).heap.size) M 5 [(0, .ref (gx_ad w 2)), (1, .ref (gx_ad w o1)), (2, .int v2), (3, .int v3), (4, .int v4)] []) (M : gx_M) (t0 : Int32) (t1 : Int32) (o1 : Nat) (v2 : Int32) (v3 : Int32) (v4 : Int32) (ho1 : pk_a3 o1) (h : T_X0_answer_123 Q K5 M t0 t1 o1 v2 v3 v4) : GW z w 6 (gx_Qi w Q (gx_s z).heap.size) M 123 [(0, .ref (gx_ad w 2)), (1, .ref (gx_ad w o1)), (2, .int v2), (3, .int v3), (4, .int v4)] [.int t0, .int t1, .ref (gx_ad w 3)] := by
  unfold T_X0_answer_123 at h
  obtain ⟨hi, h⟩ := h
  refine gw_iast hC (hw.lt (by decide)) (gc_a3 hw (by decide)) (gt_0 hw) hi dX0_answer_123 ?_
  refine gw_nmM (fun M3 hM3 => ?_)
  have h := h M3 hM3
  refine gw_goto (tgt := 164) hC dX0_answer_124 (by decide) ?_
  exact J_X0_answer_164 hC hw hR hr hK5 M3 o1 v2 v3 v4 ho1 h
set_option maxRecDepth 20000 in
theorem J_X0_answer_82 {z : gx_X} {d : gx_D} {w : gx_V} {ca : Nat → ClassId} (hC : gx_C z d w cX0_answer 6 RX0) (hw : gx_isC ca w) (hR : gx_R z = rm_X0_answer) (hr : (gx_me z).sig.returnType = (some .int))  {Q : Int32 → gx_M → Prop} {K5 : gx_M → Nat → Int32 → Int32 → Int32 → Prop} (hK5 : ∀ (M : gx_M) (o1 : Nat) (v2 : Int32) (v3 : Int32) (v4 : Int32) (ho1 : pk_a3 o1), K5 M o1 v2 v3 v4 → GW z w 6 (gx_Qi w Q (gx_s z).heap.size) M 5 [(0, .ref (gx_ad w 2)), (1, .ref (gx_ad w o1)), (2, .int v2), (3, .int v3), (4, .int v4)] []) (M : gx_M) (o1 : Nat) (v2 : Int32) (v3 : Int32) (v4 : Int32) (v5 : Int32) (ho1 : pk_a3 o1) (h : T_X0_answer_82 Q K5 M o1 v2 v3 v4 v5) : GW z w 6 (gx_Qi w Q (gx_s z).heap.size) M 82 [(0, .ref (gx_ad w 2)), (1, .ref (gx_ad w o1)), (2, .int v2), (3, .int v3), (4, .int v4), (5, .int v5)] [] := by
  unfold T_X0_answer_82 at h
  refine gw_iload_n hC dX0_answer_82 rfl 3 rfl ?_
  refine gw_iconst (v := 1) hC dX0_answer_83 (by decide) ?_
  refine gw_icmp_lt (tgt := 164) hC dX0_answer_84 (by decide) (fun hc => ?_) (fun hc => ?_)
  · have h := gx_t h hc
    refine gw_sub (lv' := [(0, .ref (gx_ad w 2)), (1, .ref (gx_ad w o1)), (2, .int v2), (3, .int v3), (4, .int v4)]) [0, 1, 2, 3, 4] rfl ?_
    exact J_X0_answer_164 hC hw hR hr hK5 M o1 v2 v3 v4 ho1 h
  · have h := gx_f h hc
    refine gw_aload_n hC dX0_answer_87 rfl 0 rfl ?_
    refine gw_get hC cl_X0 fg_X0_9 (hw.lt (by decide)) (gc_2 hw _) (gv_X0_0 _ _ _) dX0_answer_88 ?_
    refine gw_iload_n hC dX0_answer_91 rfl 3 rfl ?_
    refine gw_iconst (v := 1) hC dX0_answer_92 (by decide) ?_
    refine gw_isub hC dX0_answer_93 ?_
    refine gw_iload hC dX0_answer_94 5 rfl ?_
    refine gw_bipush (v := (-41)) hC dX0_answer_96 (by decide) ?_
    refine gw_icmp_ne (tgt := 114) hC dX0_answer_98 (by decide) (fun hc => ?_) (fun hc => ?_)
    · have h := gx_f h hc
      refine gw_aload_n hC dX0_answer_114 rfl 0 rfl ?_
      refine gw_get hC cl_X0 fg_X0_9 (hw.lt (by decide)) (gc_2 hw _) (gv_X0_0 _ _ _) dX0_answer_115 ?_
      refine gw_iload_n hC dX0_answer_118 rfl 3 rfl ?_
      refine gw_iconst (v := 1) hC dX0_answer_119 (by decide) ?_
      refine gw_isub hC dX0_answer_120 ?_
      obtain ⟨hi, h⟩ := h
      refine gw_iald hC (hw.lt (by decide)) (gc_a3 hw (by decide) _) (gt_0 hw) hi dX0_answer_121 ?_
      refine gw_ineg hC dX0_answer_122 ?_
      refine gw_sub (lv' := [(0, .ref (gx_ad w 2)), (1, .ref (gx_ad w o1)), (2, .int v2), (3, .int v3), (4, .int v4)]) [0, 1, 2, 3, 4] rfl ?_
      exact J_X0_answer_123 hC hw hR hr hK5 M (-(M 3 (v3 - 1).toNatClampNeg)) (v3 - 1) o1 v2 v3 v4 ho1 h
    · have h := gx_t h hc
      refine gw_iconst (v := 1) hC dX0_answer_101 (by decide) ?_
      refine gw_aload_n hC dX0_answer_102 rfl 0 rfl ?_
      refine gw_get hC cl_X0 fg_X0_9 (hw.lt (by decide)) (gc_2 hw _) (gv_X0_0 _ _ _) dX0_answer_103 ?_
      refine gw_iload_n hC dX0_answer_106 rfl 3 rfl ?_
      refine gw_iconst (v := 1) hC dX0_answer_107 (by decide) ?_
      refine gw_isub hC dX0_answer_108 ?_
      obtain ⟨hi, h⟩ := h
      refine gw_iald hC (hw.lt (by decide)) (gc_a3 hw (by decide) _) (gt_0 hw) hi dX0_answer_109 ?_
      refine gw_isub hC dX0_answer_110 ?_
      refine gw_goto (tgt := 123) hC dX0_answer_111 (by decide) ?_
      refine gw_sub (lv' := [(0, .ref (gx_ad w 2)), (1, .ref (gx_ad w o1)), (2, .int v2), (3, .int v3), (4, .int v4)]) [0, 1, 2, 3, 4] rfl ?_
      exact J_X0_answer_123 hC hw hR hr hK5 M (1 - (M 3 (v3 - 1).toNatClampNeg)) (v3 - 1) o1 v2 v3 v4 ho1 h
set_option maxRecDepth 20000 in
theorem J_X0_answer_61 {z : gx_X} {d : gx_D} {w : gx_V} {ca : Nat → ClassId} (hC : gx_C z d w cX0_answer 6 RX0) (hw : gx_isC ca w) (hR : gx_R z = rm_X0_answer) (hr : (gx_me z).sig.returnType = (some .int))  {Q : Int32 → gx_M → Prop} {K5 : gx_M → Nat → Int32 → Int32 → Int32 → Prop} (hK5 : ∀ (M : gx_M) (o1 : Nat) (v2 : Int32) (v3 : Int32) (v4 : Int32) (ho1 : pk_a3 o1), K5 M o1 v2 v3 v4 → GW z w 6 (gx_Qi w Q (gx_s z).heap.size) M 5 [(0, .ref (gx_ad w 2)), (1, .ref (gx_ad w o1)), (2, .int v2), (3, .int v3), (4, .int v4)] []) (M : gx_M) (t0 : Int32) (t1 : Int32) (o1 : Nat) (v2 : Int32) (v3 : Int32) (v4 : Int32) (ho1 : pk_a3 o1) (h : T_X0_answer_61 Q K5 M t0 t1 o1 v2 v3 v4) : GW z w 6 (gx_Qi w Q (gx_s z).heap.size) M 61 [(0, .ref (gx_ad w 2)), (1, .ref (gx_ad w o1)), (2, .int v2), (3, .int v3), (4, .int v4)] [.int t0, .int t1, .ref (gx_ad w 3)] := by
  unfold T_X0_answer_61 at h
  obtain ⟨hi, h⟩ := h
  refine gw_iast hC (hw.lt (by decide)) (gc_a3 hw (by decide)) (gt_0 hw) hi dX0_answer_61 ?_
  refine gw_nmM (fun M10 hM10 => ?_)
  have h := h M10 hM10
  obtain ⟨x11, hx11⟩ : ∃ y : Int32, y = v3 + 1 := ⟨_, rfl⟩
  have h := h x11 hx11
  refine gw_iinc (v := x11) (lv' := [(3, .int x11), (0, .ref (gx_ad w 2)), (1, .ref (gx_ad w o1)), (2, .int v2), (4, .int v4)]) hC dX0_answer_62 (k := 3) rfl (by rw [hx11]; rfl) (by decide) rfl ?_
  refine gw_goto (tgt := 164) hC dX0_answer_65 (by decide) ?_
  refine gw_sub (lv' := [(0, .ref (gx_ad w 2)), (1, .ref (gx_ad w o1)), (2, .int v2), (3, .int x11), (4, .int v4)]) [1, 2, 3, 0, 4] rfl ?_
  exact J_X0_answer_164 hC hw hR hr hK5 M10 o1 v2 x11 v4 ho1 h
set_option maxRecDepth 20000 in
theorem J_X0_answer_5 {z : gx_X} {d : gx_D} {w : gx_V} {ca : Nat → ClassId} (hC : gx_C z d w cX0_answer 6 RX0) (hw : gx_isC ca w) (hR : gx_R z = rm_X0_answer) (hr : (gx_me z).sig.returnType = (some .int))  {Q : Int32 → gx_M → Prop} {K170 : gx_M → Prop} (hK170 : ∀ (M : gx_M), K170 M → GW z w 6 (gx_Qi w Q (gx_s z).heap.size) M 170 [(0, .ref (gx_ad w 2))] []) : ∀ (n : Nat) (M : gx_M) (o1 : Nat) (v2 : Int32) (v3 : Int32) (v4 : Int32) (ho1 : pk_a3 o1), T_X0_answer_5 Q K170 n M o1 v2 v3 v4 → GW z w 6 (gx_Qi w Q (gx_s z).heap.size) M 5 [(0, .ref (gx_ad w 2)), (1, .ref (gx_ad w o1)), (2, .int v2), (3, .int v3), (4, .int v4)] [] := by
  intro n
  induction n with
  | zero =>
    intro M o1 v2 v3 v4 ho1 h
    exact h.elim
  | succ n ih =>
    intro M o1 v2 v3 v4 ho1 h
    rw [T_X0_answer_5] at h
    refine gw_iload hC dX0_answer_5 4 rfl ?_
    refine gw_iload_n hC dX0_answer_7 rfl 2 rfl ?_
    refine gw_icmp_ge (tgt := 170) hC dX0_answer_8 (by decide) (fun hc => ?_) (fun hc => ?_)
    · have h := gx_t h hc
      refine gw_sub (lv' := [(0, .ref (gx_ad w 2))]) [0] rfl ?_
      exact hK170 M h
    · have h := gx_f h hc
      refine gw_iload hC dX0_answer_11 4 rfl ?_
      refine gw_aload_n hC dX0_answer_13 rfl 1 rfl ?_
      refine gw_alen (v := 300) hC (gn_a3 hw ho1) (gc_a3 hw ho1 _) (gt_0 hw) rfl dX0_answer_14 ?_
      refine gw_icmp_ge (tgt := 170) hC dX0_answer_15 (by decide) (fun hc => ?_) (fun hc => ?_)
      · have h := gx_t h hc
        refine gw_sub (lv' := [(0, .ref (gx_ad w 2))]) [0] rfl ?_
        exact hK170 M h
      · have h := gx_f h hc
        refine gw_aload_n hC dX0_answer_18 rfl 1 rfl ?_
        refine gw_iload hC dX0_answer_19 4 rfl ?_
        obtain ⟨hi, h⟩ := h
        refine gw_iald hC (gn_a3 hw ho1) (gc_a3 hw ho1 _) (gt_0 hw) hi dX0_answer_21 ?_
        refine gw_nm (fun x1 hx1 => ?_)
        have h := h x1 hx1
        refine gw_istore (lv' := [(5, .int x1), (0, .ref (gx_ad w 2)), (1, .ref (gx_ad w o1)), (2, .int v2), (3, .int v3), (4, .int v4)]) hC dX0_answer_22 (by decide) rfl ?_
        refine gw_iload hC dX0_answer_24 0 rfl ?_
        refine gw_bipush (v := (-17)) hC dX0_answer_26 (by decide) ?_
        refine gw_icmp_lt (tgt := 68) hC dX0_answer_28 (by decide) (fun hc => ?_) (fun hc => ?_)
        · have h := gx_t h hc
          refine gw_iload hC dX0_answer_68 0 rfl ?_
          refine gw_bipush (v := (-25)) hC dX0_answer_70 (by decide) ?_
          refine gw_icmp_eq (tgt := 82) hC dX0_answer_72 (by decide) (fun hc => ?_) (fun hc => ?_)
          · have h := gx_t h hc
            refine gw_sub (lv' := [(0, .ref (gx_ad w 2)), (1, .ref (gx_ad w o1)), (2, .int v2), (3, .int v3), (4, .int v4), (5, .int x1)]) [1, 2, 3, 4, 5, 0] rfl ?_
            exact J_X0_answer_82 hC hw hR hr ih M o1 v2 v3 v4 x1 ho1 h
          · have h := gx_f h hc
            refine gw_iload hC dX0_answer_75 0 rfl ?_
            refine gw_bipush (v := (-41)) hC dX0_answer_77 (by decide) ?_
            refine gw_icmp_ne (tgt := 127) hC dX0_answer_79 (by decide) (fun hc => ?_) (fun hc => ?_)
            · have h := gx_f h hc
              refine gw_iload_n hC dX0_answer_127 rfl 4 rfl ?_
              refine gw_iconst (v := 2) hC dX0_answer_128 (by decide) ?_
              refine gw_icmp_lt (tgt := 164) hC dX0_answer_129 (by decide) (fun hc => ?_) (fun hc => ?_)
              · have h := gx_t h hc
                refine gw_sub (lv' := [(0, .ref (gx_ad w 2)), (1, .ref (gx_ad w o1)), (2, .int v2), (3, .int v3), (4, .int v4)]) [1, 2, 3, 4, 5] rfl ?_
                exact J_X0_answer_164 hC hw hR hr ih M o1 v2 v3 v4 ho1 h
              · have h := gx_f h hc
                obtain ⟨x4, hx4⟩ : ∃ y : Int32, y = v3 + (-1) := ⟨_, rfl⟩
                have h := h x4 hx4
                refine gw_iinc (v := x4) (lv' := [(3, .int x4), (5, .int x1), (0, .ref (gx_ad w 2)), (1, .ref (gx_ad w o1)), (2, .int v2), (4, .int v4)]) hC dX0_answer_132 (k := 4) rfl (by rw [hx4]; rfl) (by decide) rfl ?_
                refine gw_aload_n hC dX0_answer_135 rfl 2 rfl ?_
                refine gw_get hC cl_X0 fg_X0_9 (hw.lt (by decide)) (gc_2 hw _) (gv_X0_0 _ _ _) dX0_answer_136 ?_
                refine gw_iload_n hC dX0_answer_139 rfl 0 rfl ?_
                refine gw_iconst (v := 1) hC dX0_answer_140 (by decide) ?_
                refine gw_isub hC dX0_answer_141 ?_
                refine gw_iload hC dX0_answer_142 1 rfl ?_
                refine gw_aload_n hC dX0_answer_144 rfl 2 rfl ?_
                refine gw_get hC cl_X0 fg_X0_9 (hw.lt (by decide)) (gc_2 hw _) (gv_X0_0 _ _ _) dX0_answer_145 ?_
                refine gw_iload_n hC dX0_answer_148 rfl 0 rfl ?_
                refine gw_iconst (v := 1) hC dX0_answer_149 (by decide) ?_
                refine gw_isub hC dX0_answer_150 ?_
                obtain ⟨hi, h⟩ := h
                refine gw_iald hC (hw.lt (by decide)) (gc_a3 hw (by decide) _) (gt_0 hw) hi dX0_answer_151 ?_
                refine gw_i2l hC dX0_answer_152 rfl ?_
                refine gw_aload_n hC dX0_answer_153 rfl 2 rfl ?_
                refine gw_get hC cl_X0 fg_X0_9 (hw.lt (by decide)) (gc_2 hw _) (gv_X0_0 _ _ _) dX0_answer_154 ?_
                refine gw_iload_n hC dX0_answer_157 rfl 0 rfl ?_
                obtain ⟨hi, h⟩ := h
                refine gw_iald hC (hw.lt (by decide)) (gc_a3 hw (by decide) _) (gt_0 hw) hi dX0_answer_158 ?_
                refine gw_i2l hC dX0_answer_159 rfl ?_
                refine gw_calli (gx_rS hC (n := 3) (As := [.int x1, .long ((M 3 (x4 - 1).toNatClampNeg).toInt64), .long ((M 3 x4.toNatClampNeg).toInt64)]) (rest := [.int (x4 - 1), .ref (gx_ad w 3)]) (fun sz => c_X0_joined hw  h sz) cs_X0_38_X0_joined (by rw [hR]; exact rr_X0_answer_X0_joined) rfl rfl (Nat.le_of_ble_eq_true rfl) dX0_answer_160) ?_
                intro r5 m6 ⟨hm6, h⟩
                rw [hm6]
                obtain ⟨hi, h⟩ := h
                refine gw_iast hC (hw.lt (by decide)) (gc_a3 hw (by decide)) (gt_0 hw) hi dX0_answer_163 ?_
                refine gw_nmM (fun M7 hM7 => ?_)
                have h := h M7 hM7
                refine gw_sub (lv' := [(0, .ref (gx_ad w 2)), (1, .ref (gx_ad w o1)), (2, .int v2), (3, .int x4), (4, .int v4)]) [2, 3, 4, 0, 5] rfl ?_
                exact J_X0_answer_164 hC hw hR hr ih M7 o1 v2 x4 v4 ho1 h
            · have h := gx_t h hc
              refine gw_sub (lv' := [(0, .ref (gx_ad w 2)), (1, .ref (gx_ad w o1)), (2, .int v2), (3, .int v3), (4, .int v4), (5, .int x1)]) [1, 2, 3, 4, 5, 0] rfl ?_
              exact J_X0_answer_82 hC hw hR hr ih M o1 v2 v3 v4 x1 ho1 h
        · have h := gx_f h hc
          refine gw_iload_n hC dX0_answer_31 rfl 4 rfl ?_
          refine gw_aload_n hC dX0_answer_32 rfl 1 rfl ?_
          refine gw_get hC cl_X0 fg_X0_9 (hw.lt (by decide)) (gc_2 hw _) (gv_X0_0 _ _ _) dX0_answer_33 ?_
          refine gw_alen (v := 300) hC (hw.lt (by decide)) (gc_a3 hw (by decide) _) (gt_0 hw) rfl dX0_answer_36 ?_
          refine gw_icmp_ge (tgt := 164) hC dX0_answer_37 (by decide) (fun hc => ?_) (fun hc => ?_)
          · have h := gx_t h hc
            refine gw_sub (lv' := [(0, .ref (gx_ad w 2)), (1, .ref (gx_ad w o1)), (2, .int v2), (3, .int v3), (4, .int v4)]) [1, 2, 3, 4, 5] rfl ?_
            exact J_X0_answer_164 hC hw hR hr ih M o1 v2 v3 v4 ho1 h
          · have h := gx_f h hc
            refine gw_aload_n hC dX0_answer_40 rfl 1 rfl ?_
            refine gw_get hC cl_X0 fg_X0_9 (hw.lt (by decide)) (gc_2 hw _) (gv_X0_0 _ _ _) dX0_answer_41 ?_
            refine gw_iload_n hC dX0_answer_44 rfl 4 rfl ?_
            refine gw_iload hC dX0_answer_45 0 rfl ?_
            refine gw_if_lt (tgt := 55) hC dX0_answer_47 (by decide) (fun hc => ?_) (fun hc => ?_)
            · have h := gx_t h hc
              refine gw_aload_n hC dX0_answer_55 rfl 1 rfl ?_
              refine gw_iload hC dX0_answer_56 0 rfl ?_
              refine gw_calli (gx_rV hC (n := 1) (As := [.int x1]) (rest := [.int v3, .ref (gx_ad w 3)]) (fun sz => c_X0_word hw  h sz) cv_X0_34_X0_word (by rw [hR]; exact rr_X0_answer_X0_word) ⟨(hw.lt (by decide)), _, _, _, _, gc_2 hw _, cl_X0.1⟩ rfl rfl (Nat.le_of_ble_eq_true rfl) dX0_answer_58) ?_
              intro r8 m9 ⟨hm9, h⟩
              rw [hm9]
              refine gw_sub (lv' := [(0, .ref (gx_ad w 2)), (1, .ref (gx_ad w o1)), (2, .int v2), (3, .int v3), (4, .int v4)]) [1, 2, 3, 4, 5] rfl ?_
              exact J_X0_answer_61 hC hw hR hr ih M r8 v3 o1 v2 v3 v4 ho1 h
            · have h := gx_f h hc
              refine gw_iload hC dX0_answer_50 0 rfl ?_
              refine gw_goto (tgt := 61) hC dX0_answer_52 (by decide) ?_
              refine gw_sub (lv' := [(0, .ref (gx_ad w 2)), (1, .ref (gx_ad w o1)), (2, .int v2), (3, .int v3), (4, .int v4)]) [1, 2, 3, 4, 5] rfl ?_
              exact J_X0_answer_61 hC hw hR hr ih M x1 v3 o1 v2 v3 v4 ho1 h
set_option maxRecDepth 20000 in
theorem J_X0_answer {z : gx_X} {d : gx_D} {w : gx_V} {ca : Nat → ClassId} (hC : gx_C z d w cX0_answer 6 RX0) (hw : gx_isC ca w) (hR : gx_R z = rm_X0_answer) (hr : (gx_me z).sig.returnType = (some .int)) {o1 : Nat} (ho1 : pk_a3 o1) {M : gx_M} {v2 : Int32} {Q : Int32 → gx_M → Prop} (h : T_X0_answer M o1 v2 Q) : GW z w 6 (gx_Qi w Q (gx_s z).heap.size) M 0 [(0, .ref (gx_ad w 2)), (1, .ref (gx_ad w o1)), (2, .int v2)] [] := by
  unfold T_X0_answer at h
  refine gw_iconst (v := 0) hC dX0_answer_0 (by decide) ?_
  refine gw_istore_n (lv' := [(3, .int 0), (0, .ref (gx_ad w 2)), (1, .ref (gx_ad w o1)), (2, .int v2)]) hC dX0_answer_1 rfl (by decide) rfl ?_
  refine gw_iconst (v := 0) hC dX0_answer_2 (by decide) ?_
  refine gw_istore (lv' := [(4, .int 0), (3, .int 0), (0, .ref (gx_ad w 2)), (1, .ref (gx_ad w o1)), (2, .int v2)]) hC dX0_answer_3 (by decide) rfl ?_
  obtain ⟨k12, h⟩ := h
  refine gw_sub (lv' := [(0, .ref (gx_ad w 2)), (1, .ref (gx_ad w o1)), (2, .int v2), (3, .int 0), (4, .int 0)]) [2, 3, 4, 1, 0] rfl ?_
  exact J_X0_answer_5 hC hw hR hr (fun M13 h => by
      refine gw_aload_n hC dX0_answer_170 rfl 0 rfl ?_
      refine gw_get hC cl_X0 fg_X0_9 (hw.lt (by decide)) (gc_2 hw _) (gv_X0_0 _ _ _) dX0_answer_171 ?_
      refine gw_iconst (v := 0) hC dX0_answer_174 (by decide) ?_
      obtain ⟨hi, h⟩ := h
      refine gw_iald hC (hw.lt (by decide)) (gc_a3 hw (by decide) _) (gt_0 hw) hi dX0_answer_175 ?_
      exact gw_iret hC hr dX0_answer_176 h) k12 M o1 v2 0 0 ho1 h
theorem c_X0_answer {l : Launch} {d : gx_D} {w : gx_V} {ca : Nat → ClassId} (hw : gx_isC ca w) {o1 : Nat} (ho1 : pk_a3 o1) {M : gx_M} {v2 : Int32} {Q : Int32 → gx_M → Prop} (h : T_X0_answer M o1 v2 Q) : gx_Mi l d w yX0_answer cX0_answer 6 .int rm_X0_answer [.ref (gx_ad w 2), .ref (gx_ad w o1), .int v2] M Q := fun sz =>
  gx_of (own := RX0) (by decide +kernel) rfl (Nat.le_of_ble_eq_true rfl) (fun z hC hl hR hsz hr => by subst hsz; exact J_X0_answer hC hw hR hr ho1 h) rfl
set_option maxRecDepth 20000 in
theorem J_X1_forget {z : gx_X} {d : gx_D} {w : gx_V} {ca : Nat → ClassId} (hC : gx_C z d w cX1_forget 1 RX1) (hw : gx_isC ca w) (hR : gx_R z = rm_X1_forget) (hr : (gx_me z).sig.returnType = none)   {M : gx_M}  {Q : gx_M → Prop} (h : T_X1_forget M  Q) : GW z w 1 (gx_Qv w Q (gx_s z).heap.size) M 0 [(0, .ref (gx_ad w 1))] [] := by
  unfold T_X1_forget at h
  refine gw_aload_n hC dX1_forget_0 rfl 0 rfl ?_
  refine gw_iconst (v := 0) hC dX1_forget_1 (by decide) ?_
  refine gw_put hC cl_X1 fp_X1_41 (hw.lt (by decide)) (gc_1 hw _) ((gc_1 hw _).trans (gs_X1_5 _ _ _ _)) rfl rfl (by simp [fs_X1]) dX1_forget_2 ?_
  refine gw_nmM (fun M1 hM1 => ?_)
  have h := h M1 hM1
  exact gw_vret hC hr dX1_forget_5 h
theorem c_X1_forget {l : Launch} {d : gx_D} {w : gx_V} {ca : Nat → ClassId} (hw : gx_isC ca w)   {M : gx_M}  {Q : gx_M → Prop} (h : T_X1_forget M  Q) : gx_Mv l d w yX1_forget cX1_forget 1 rm_X1_forget [.ref (gx_ad w 1)] M Q := fun sz =>
  gx_of (own := RX1) (by decide +kernel) rfl (Nat.le_of_ble_eq_true rfl) (fun z hC hl hR hsz hr => by subst hsz; exact J_X1_forget hC hw hR hr  h) rfl
set_option maxRecDepth 20000 in
theorem J_X10_within {z : gx_X} {d : gx_D} {w : gx_V} {ca : Nat → ClassId} (hC : gx_C z d w cX10_within 3 RX10) (hw : gx_isC ca w) (hR : gx_R z = rm_X10_within) (hr : (gx_me z).sig.returnType = (some .boolean))   {M : gx_M} {v0 : Int32} {v1 : Int32} {v2 : Int32} {Q : Int32 → Prop} (h : T_X10_within M v0 v1 v2 Q) : GW z w 3 (gx_Qi w (fun r M1 => M1 = M ∧ Q r) (gx_s z).heap.size) M 0 [(0, .int v0), (1, .int v1), (2, .int v2)] [] := by
  unfold T_X10_within at h
  refine gw_iload_n hC dX10_within_0 rfl 1 rfl ?_
  refine gw_iload_n hC dX10_within_1 rfl 0 rfl ?_
  refine gw_icmp_gt (tgt := 14) hC dX10_within_2 (by decide) (fun hc => ?_) (fun hc => ?_)
  · have h := gx_t h hc
    refine gw_iconst (v := 0) hC dX10_within_14 (by decide) ?_
    exact gw_zret hC hr rfl dX10_within_15 ⟨rfl, h⟩
  · have h := gx_f h hc
    refine gw_iload_n hC dX10_within_5 rfl 0 rfl ?_
    refine gw_iload_n hC dX10_within_6 rfl 2 rfl ?_
    refine gw_icmp_gt (tgt := 14) hC dX10_within_7 (by decide) (fun hc => ?_) (fun hc => ?_)
    · have h := gx_t h hc
      refine gw_iconst (v := 0) hC dX10_within_14 (by decide) ?_
      exact gw_zret hC hr rfl dX10_within_15 ⟨rfl, h⟩
    · have h := gx_f h hc
      refine gw_iconst (v := 1) hC dX10_within_10 (by decide) ?_
      refine gw_goto (tgt := 15) hC dX10_within_11 (by decide) ?_
      exact gw_zret hC hr rfl dX10_within_15 ⟨rfl, h⟩
theorem c_X10_within {l : Launch} {d : gx_D} {w : gx_V} {ca : Nat → ClassId} (hw : gx_isC ca w)   {M : gx_M} {v0 : Int32} {v1 : Int32} {v2 : Int32} {Q : Int32 → Prop} (h : T_X10_within M v0 v1 v2 Q) : gx_Mi l d w yX10_within cX10_within 3 .boolean rm_X10_within [.int v0, .int v1, .int v2] M (fun r M1 => M1 = M ∧ Q r) := fun sz =>
  gx_of (own := RX10) (by decide +kernel) rfl (Nat.le_of_ble_eq_true rfl) (fun z hC hl hR hsz hr => by subst hsz; exact J_X10_within hC hw hR hr  h) rfl
set_option maxRecDepth 20000 in
theorem J_X10_isSignal {z : gx_X} {d : gx_D} {w : gx_V} {ca : Nat → ClassId} (hC : gx_C z d w cX10_isSignal 1 RX10) (hw : gx_isC ca w) (hR : gx_R z = rm_X10_isSignal) (hr : (gx_me z).sig.returnType = (some .boolean))   {M : gx_M} {v0 : Int32} {Q : Int32 → Prop} (h : T_X10_isSignal M v0 Q) : GW z w 1 (gx_Qi w (fun r M1 => M1 = M ∧ Q r) (gx_s z).heap.size) M 0 [(0, .int v0)] [] := by
  unfold T_X10_isSignal at h
  refine gw_iload_n hC dX10_isSignal_0 rfl 0 rfl ?_
  refine gw_iconst (v := 0) hC dX10_isSignal_1 (by decide) ?_
  refine gw_iconst (v := 3) hC dX10_isSignal_2 (by decide) ?_
  refine gw_calli (gx_rS hC (n := 3) (As := [.int v0, .int 0, .int 3]) (rest := []) (fun sz => c_X10_within hw  h sz) cs_X10_81_X10_within (by rw [hR]; exact rr_X10_isSignal_X10_within) rfl rfl (Nat.le_of_ble_eq_true rfl) dX10_isSignal_3) ?_
  intro r1 m2 ⟨hm2, h⟩
  rw [hm2]
  obtain ⟨hz, h⟩ := h
  exact gw_zret hC hr (gx_nz hz) dX10_isSignal_6 ⟨rfl, h⟩
theorem c_X10_isSignal {l : Launch} {d : gx_D} {w : gx_V} {ca : Nat → ClassId} (hw : gx_isC ca w)   {M : gx_M} {v0 : Int32} {Q : Int32 → Prop} (h : T_X10_isSignal M v0 Q) : gx_Mi l d w yX10_isSignal cX10_isSignal 1 .boolean rm_X10_isSignal [.int v0] M (fun r M1 => M1 = M ∧ Q r) := fun sz =>
  gx_of (own := RX10) (by decide +kernel) rfl (Nat.le_of_ble_eq_true rfl) (fun z hC hl hR hsz hr => by subst hsz; exact J_X10_isSignal hC hw hR hr  h) rfl
set_option maxRecDepth 20000 in
theorem J_X3_phase {z : gx_X} {d : gx_D} {w : gx_V} {ca : Nat → ClassId} (hC : gx_C z d w cX3_phase 3 RX3) (hw : gx_isC ca w) (hR : gx_R z = rm_X3_phase) (hr : (gx_me z).sig.returnType = (some .int)) {o0 : Nat} (ho0 : pk_Pt o0) {M : gx_M} {v1 : Int32} {Q : Int32 → Prop} (h : T_X3_phase M o0 v1 Q) : GW z w 3 (gx_Qi w (fun r M1 => M1 = M ∧ Q r) (gx_s z).heap.size) M 0 [(0, .ref (gx_ad w o0)), (1, .int v1)] [] := by
  unfold T_X3_phase at h
  have ⟨ho0a, ho0b⟩ := ho0
  refine gw_aload_n hC dX3_phase_0 rfl 0 rfl ?_
  refine gw_get hC cl_X3 fg_X3_18 (gn_Pt hw ⟨by omega, by omega⟩) (gc_Pt hw ⟨by omega, by omega⟩ _) (gv_X3_2 _ _ _) dX3_phase_1 ?_
  refine gw_iconst (v := 1) hC dX3_phase_4 (by decide) ?_
  refine gw_icmp_ge (tgt := 10) hC dX3_phase_5 (by decide) (fun hc => ?_) (fun hc => ?_)
  · have h := gx_t h hc
    refine gw_iload_n hC dX3_phase_10 rfl 1 rfl ?_
    refine gw_aload_n hC dX3_phase_11 rfl 0 rfl ?_
    refine gw_get hC cl_X3 fg_X3_24 (gn_Pt hw ⟨by omega, by omega⟩) (gc_Pt hw ⟨by omega, by omega⟩ _) (gv_X3_4 _ _ _) dX3_phase_12 ?_
    refine gw_isub hC dX3_phase_15 ?_
    refine gw_aload_n hC dX3_phase_16 rfl 0 rfl ?_
    refine gw_get hC cl_X3 fg_X3_18 (gn_Pt hw ⟨by omega, by omega⟩) (gc_Pt hw ⟨by omega, by omega⟩ _) (gv_X3_2 _ _ _) dX3_phase_17 ?_
    obtain ⟨hz, h⟩ := h
    refine gw_irem hC dX3_phase_20 hz ?_
    refine gw_nm (fun x1 hx1 => ?_)
    have h := h x1 hx1
    refine gw_istore_n (lv' := [(2, .int x1), (0, .ref (gx_ad w o0)), (1, .int v1)]) hC dX3_phase_21 rfl (by decide) rfl ?_
    refine gw_iload_n hC dX3_phase_22 rfl 0 rfl ?_
    refine gw_if_ge (tgt := 35) hC dX3_phase_23 (by decide) (fun hc => ?_) (fun hc => ?_)
    · have h := gx_t h hc
      refine gw_iload_n hC dX3_phase_35 rfl 0 rfl ?_
      exact gw_iret hC hr dX3_phase_36 ⟨rfl, h⟩
    · have h := gx_f h hc
      refine gw_iload_n hC dX3_phase_26 rfl 0 rfl ?_
      refine gw_aload_n hC dX3_phase_27 rfl 1 rfl ?_
      refine gw_get hC cl_X3 fg_X3_18 (gn_Pt hw ⟨by omega, by omega⟩) (gc_Pt hw ⟨by omega, by omega⟩ _) (gv_X3_2 _ _ _) dX3_phase_28 ?_
      refine gw_iadd hC dX3_phase_31 ?_
      refine gw_goto (tgt := 36) hC dX3_phase_32 (by decide) ?_
      exact gw_iret hC hr dX3_phase_36 ⟨rfl, h⟩
  · have h := gx_f h hc
    refine gw_iconst (v := 0) hC dX3_phase_8 (by decide) ?_
    exact gw_iret hC hr dX3_phase_9 ⟨rfl, h⟩
theorem c_X3_phase {l : Launch} {d : gx_D} {w : gx_V} {ca : Nat → ClassId} (hw : gx_isC ca w) {o0 : Nat} (ho0 : pk_Pt o0) {M : gx_M} {v1 : Int32} {Q : Int32 → Prop} (h : T_X3_phase M o0 v1 Q) : gx_Mi l d w yX3_phase cX3_phase 3 .int rm_X3_phase [.ref (gx_ad w o0), .int v1] M (fun r M1 => M1 = M ∧ Q r) := fun sz =>
  gx_of (own := RX3) (by decide +kernel) rfl (Nat.le_of_ble_eq_true rfl) (fun z hC hl hR hsz hr => by subst hsz; exact J_X3_phase hC hw hR hr ho0 h) rfl
set_option maxRecDepth 20000 in
theorem J_X3_heightAt {z : gx_X} {d : gx_D} {w : gx_V} {ca : Nat → ClassId} (hC : gx_C z d w cX3_heightAt 2 RX3) (hw : gx_isC ca w) (hR : gx_R z = rm_X3_heightAt) (hr : (gx_me z).sig.returnType = (some .int)) {o0 : Nat} (ho0 : pk_Pt o0) {M : gx_M} {v1 : Int32} {Q : Int32 → Prop} (h : T_X3_heightAt M o0 v1 Q) : GW z w 2 (gx_Qi w (fun r M1 => M1 = M ∧ Q r) (gx_s z).heap.size) M 0 [(0, .ref (gx_ad w o0)), (1, .int v1)] [] := by
  unfold T_X3_heightAt at h
  have ⟨ho0a, ho0b⟩ := ho0
  refine gw_aload_n hC dX3_heightAt_0 rfl 0 rfl ?_
  refine gw_get hC cl_X3 fg_X3_9 (gn_Pt hw ⟨by omega, by omega⟩) (gc_Pt hw ⟨by omega, by omega⟩ _) (gv_X3_0 _ _ _) dX3_heightAt_1 ?_
  refine gw_if_ne (tgt := 24) hC dX3_heightAt_4 (by decide) (fun hc => ?_) (fun hc => ?_)
  · have h := gx_f h hc
    refine gw_aload_n hC dX3_heightAt_24 rfl 0 rfl ?_
    refine gw_get hC cl_X3 fg_X3_9 (gn_Pt hw ⟨by omega, by omega⟩) (gc_Pt hw ⟨by omega, by omega⟩ _) (gv_X3_0 _ _ _) dX3_heightAt_25 ?_
    refine gw_iconst (v := 1) hC dX3_heightAt_28 (by decide) ?_
    refine gw_icmp_ne (tgt := 53) hC dX3_heightAt_29 (by decide) (fun hc => ?_) (fun hc => ?_)
    · have h := gx_f h hc
      refine gw_aload_n hC dX3_heightAt_53 rfl 0 rfl ?_
      refine gw_get hC cl_X3 fg_X3_18 (gn_Pt hw ⟨by omega, by omega⟩) (gc_Pt hw ⟨by omega, by omega⟩ _) (gv_X3_2 _ _ _) dX3_heightAt_54 ?_
      refine gw_iconst (v := 1) hC dX3_heightAt_57 (by decide) ?_
      refine gw_icmp_ge (tgt := 65) hC dX3_heightAt_58 (by decide) (fun hc => ?_) (fun hc => ?_)
      · have h := gx_t h hc
        refine gw_aload_n hC dX3_heightAt_65 rfl 0 rfl ?_
        refine gw_get hC cl_X3 fg_X3_15 (gn_Pt hw ⟨by omega, by omega⟩) (gc_Pt hw ⟨by omega, by omega⟩ _) (gv_X3_1 _ _ _) dX3_heightAt_66 ?_
        refine gw_aload_n hC dX3_heightAt_69 rfl 0 rfl ?_
        refine gw_iload_n hC dX3_heightAt_70 rfl 1 rfl ?_
        refine gw_calli (gx_rV hC (n := 1) (As := [.int v1]) (rest := [.int (M o0 1)]) (fun sz => c_X3_phase hw ⟨by omega, by omega⟩ h sz) cv_X3_27_X3_phase (by rw [hR]; exact rr_X3_heightAt_X3_phase) ⟨(gn_Pt hw ⟨by omega, by omega⟩), _, _, _, _, gc_Pt hw ⟨by omega, by omega⟩ _, cl_X3.1⟩ rfl rfl (Nat.le_of_ble_eq_true rfl) dX3_heightAt_71) ?_
        intro r1 m2 ⟨hm2, h⟩
        rw [hm2]
        refine gw_imul hC dX3_heightAt_74 ?_
        refine gw_aload_n hC dX3_heightAt_75 rfl 0 rfl ?_
        refine gw_get hC cl_X3 fg_X3_18 (gn_Pt hw ⟨by omega, by omega⟩) (gc_Pt hw ⟨by omega, by omega⟩ _) (gv_X3_2 _ _ _) dX3_heightAt_76 ?_
        obtain ⟨hz, h⟩ := h
        refine gw_idiv hC dX3_heightAt_79 hz ?_
        exact gw_iret hC hr dX3_heightAt_80 ⟨rfl, h⟩
      · have h := gx_f h hc
        refine gw_iconst (v := 0) hC dX3_heightAt_61 (by decide) ?_
        refine gw_goto (tgt := 80) hC dX3_heightAt_62 (by decide) ?_
        exact gw_iret hC hr dX3_heightAt_80 ⟨rfl, h⟩
    · have h := gx_t h hc
      refine gw_aload_n hC dX3_heightAt_32 rfl 0 rfl ?_
      refine gw_iload_n hC dX3_heightAt_33 rfl 1 rfl ?_
      refine gw_calli (gx_rV hC (n := 1) (As := [.int v1]) (rest := []) (fun sz => c_X3_phase hw ⟨by omega, by omega⟩ h sz) cv_X3_27_X3_phase (by rw [hR]; exact rr_X3_heightAt_X3_phase) ⟨(gn_Pt hw ⟨by omega, by omega⟩), _, _, _, _, gc_Pt hw ⟨by omega, by omega⟩ _, cl_X3.1⟩ rfl rfl (Nat.le_of_ble_eq_true rfl) dX3_heightAt_34) ?_
      intro r3 m4 ⟨hm4, h⟩
      rw [hm4]
      refine gw_aload_n hC dX3_heightAt_37 rfl 0 rfl ?_
      refine gw_get hC cl_X3 fg_X3_21 (gn_Pt hw ⟨by omega, by omega⟩) (gc_Pt hw ⟨by omega, by omega⟩ _) (gv_X3_3 _ _ _) dX3_heightAt_38 ?_
      refine gw_icmp_ge (tgt := 51) hC dX3_heightAt_41 (by decide) (fun hc => ?_) (fun hc => ?_)
      · have h := gx_t h hc
        refine gw_iconst (v := 0) hC dX3_heightAt_51 (by decide) ?_
        exact gw_iret hC hr dX3_heightAt_52 ⟨rfl, h⟩
      · have h := gx_f h hc
        refine gw_aload_n hC dX3_heightAt_44 rfl 0 rfl ?_
        refine gw_get hC cl_X3 fg_X3_15 (gn_Pt hw ⟨by omega, by omega⟩) (gc_Pt hw ⟨by omega, by omega⟩ _) (gv_X3_1 _ _ _) dX3_heightAt_45 ?_
        refine gw_goto (tgt := 52) hC dX3_heightAt_48 (by decide) ?_
        exact gw_iret hC hr dX3_heightAt_52 ⟨rfl, h⟩
  · have h := gx_t h hc
    refine gw_iload_n hC dX3_heightAt_7 rfl 1 rfl ?_
    refine gw_aload_n hC dX3_heightAt_8 rfl 0 rfl ?_
    refine gw_get hC cl_X3 fg_X3_24 (gn_Pt hw ⟨by omega, by omega⟩) (gc_Pt hw ⟨by omega, by omega⟩ _) (gv_X3_4 _ _ _) dX3_heightAt_9 ?_
    refine gw_icmp_lt (tgt := 22) hC dX3_heightAt_12 (by decide) (fun hc => ?_) (fun hc => ?_)
    · have h := gx_t h hc
      refine gw_iconst (v := 0) hC dX3_heightAt_22 (by decide) ?_
      exact gw_iret hC hr dX3_heightAt_23 ⟨rfl, h⟩
    · have h := gx_f h hc
      refine gw_aload_n hC dX3_heightAt_15 rfl 0 rfl ?_
      refine gw_get hC cl_X3 fg_X3_15 (gn_Pt hw ⟨by omega, by omega⟩) (gc_Pt hw ⟨by omega, by omega⟩ _) (gv_X3_1 _ _ _) dX3_heightAt_16 ?_
      refine gw_goto (tgt := 23) hC dX3_heightAt_19 (by decide) ?_
      exact gw_iret hC hr dX3_heightAt_23 ⟨rfl, h⟩
theorem c_X3_heightAt {l : Launch} {d : gx_D} {w : gx_V} {ca : Nat → ClassId} (hw : gx_isC ca w) {o0 : Nat} (ho0 : pk_Pt o0) {M : gx_M} {v1 : Int32} {Q : Int32 → Prop} (h : T_X3_heightAt M o0 v1 Q) : gx_Mi l d w yX3_heightAt cX3_heightAt 2 .int rm_X3_heightAt [.ref (gx_ad w o0), .int v1] M (fun r M1 => M1 = M ∧ Q r) := fun sz =>
  gx_of (own := RX3) (by decide +kernel) rfl (Nat.le_of_ble_eq_true rfl) (fun z hC hl hR hsz hr => by subst hsz; exact J_X3_heightAt hC hw hR hr ho0 h) rfl
set_option maxRecDepth 20000 in
theorem J_X9_heightAt_4 {z : gx_X} {d : gx_D} {w : gx_V} {ca : Nat → ClassId} (hC : gx_C z d w cX9_heightAt 4 RX9) (hw : gx_isC ca w) (hR : gx_R z = rm_X9_heightAt) (hr : (gx_me z).sig.returnType = (some .int)) {M : gx_M} {Q : Int32 → Prop} {K40 : Int32 → Prop} (hK40 : ∀ (v2 : Int32), K40 v2 → GW z w 4 (gx_Qi w (fun r M1 => M1 = M ∧ Q r) (gx_s z).heap.size) M 40 [(2, .int v2)] []) : ∀ (n : Nat) (o0 : Nat) (v1 : Int32) (v2 : Int32) (v3 : Int32) (ho0 : pk_Si o0), T_X9_heightAt_4 M Q K40 n o0 v1 v2 v3 → GW z w 4 (gx_Qi w (fun r M1 => M1 = M ∧ Q r) (gx_s z).heap.size) M 4 [(0, .ref (gx_ad w o0)), (1, .int v1), (2, .int v2), (3, .int v3)] [] := by
  intro n
  induction n with
  | zero =>
    intro o0 v1 v2 v3 ho0 h
    exact h.elim
  | succ n ih =>
    intro o0 v1 v2 v3 ho0 h
    rw [T_X9_heightAt_4] at h
    have ⟨ho0a, ho0b⟩ := ho0
    refine gw_iload_n hC dX9_heightAt_4 rfl 3 rfl ?_
    refine gw_aload_n hC dX9_heightAt_5 rfl 0 rfl ?_
    refine gw_get hC cl_X9 fg_X9_17 (gn_Si hw ⟨by omega, by omega⟩) (gc_Si hw ⟨by omega, by omega⟩ _) (gv_X9_1 _ _ _) dX9_heightAt_6 ?_
    refine gw_icmp_ge (tgt := 40) hC dX9_heightAt_9 (by decide) (fun hc => ?_) (fun hc => ?_)
    · have h := gx_t h hc
      refine gw_sub (lv' := [(2, .int v2)]) [2] rfl ?_
      exact hK40 v2 h
    · have h := gx_f h hc
      refine gw_iload_n hC dX9_heightAt_12 rfl 3 rfl ?_
      refine gw_aload_n hC dX9_heightAt_13 rfl 0 rfl ?_
      refine gw_get hC cl_X9 fg_X9_11 (gn_Si hw ⟨by omega, by omega⟩) (gc_Si hw ⟨by omega, by omega⟩ _) (gv_X9_0 _ _ _) dX9_heightAt_14 ?_
      refine gw_rr (o' := 8 + o0) (by omega) ?_
      refine gw_alen (v := 6) hC (gn_PA hw ⟨by omega, by omega⟩) (gc_PA hw ⟨by omega, by omega⟩ _) (gt_2 hw) rfl dX9_heightAt_17 ?_
      refine gw_icmp_ge (tgt := 40) hC dX9_heightAt_18 (by decide) (fun hc => ?_) (fun hc => ?_)
      · have h := gx_t h hc
        refine gw_sub (lv' := [(2, .int v2)]) [2] rfl ?_
        exact hK40 v2 h
      · have h := gx_f h hc
        refine gw_iload_n hC dX9_heightAt_21 rfl 2 rfl ?_
        refine gw_aload_n hC dX9_heightAt_22 rfl 0 rfl ?_
        refine gw_get hC cl_X9 fg_X9_11 (gn_Si hw ⟨by omega, by omega⟩) (gc_Si hw ⟨by omega, by omega⟩ _) (gv_X9_0 _ _ _) dX9_heightAt_23 ?_
        refine gw_rr (o' := 8 + o0) (by omega) ?_
        refine gw_iload_n hC dX9_heightAt_26 rfl 3 rfl ?_
        obtain ⟨hi, h⟩ := h
        have hb1 := vp_lt hi
        refine gw_aald hC (gn_PA hw ⟨by omega, by omega⟩) (gc_PA hw ⟨by omega, by omega⟩ _) (gt_2 hw) rfl hi dX9_heightAt_27 ?_
        refine gw_rr (o' := v3.toNatClampNeg + 6 * o0 - 190) (by omega) ?_
        refine gw_iload_n hC dX9_heightAt_28 rfl 1 rfl ?_
        refine gw_calli (gx_rV hC (n := 1) (As := [.int v1]) (rest := [.int v2]) (fun sz => c_X3_heightAt hw ⟨by omega, by omega⟩ h sz) cv_X9_30_X3_heightAt (by rw [hR]; exact rr_X9_heightAt_X3_heightAt) ⟨(gn_Pt hw ⟨by omega, by omega⟩), _, _, _, _, gc_Pt hw ⟨by omega, by omega⟩ _, cl_X3.1⟩ rfl rfl (Nat.le_of_ble_eq_true rfl) dX9_heightAt_29) ?_
        intro r2 m3 ⟨hm3, h⟩
        rw [hm3]
        refine gw_iadd hC dX9_heightAt_32 ?_
        refine gw_nm (fun x4 hx4 => ?_)
        have h := h x4 hx4
        refine gw_istore_n (lv' := [(2, .int x4), (0, .ref (gx_ad w o0)), (1, .int v1), (3, .int v3)]) hC dX9_heightAt_33 rfl (by decide) rfl ?_
        obtain ⟨x5, hx5⟩ : ∃ y : Int32, y = v3 + 1 := ⟨_, rfl⟩
        have h := h x5 hx5
        refine gw_iinc (v := x5) (lv' := [(3, .int x5), (2, .int x4), (0, .ref (gx_ad w o0)), (1, .int v1)]) hC dX9_heightAt_34 (k := 3) rfl (by rw [hx5]; rfl) (by decide) rfl ?_
        refine gw_goto (tgt := 4) hC dX9_heightAt_37 (by decide) ?_
        refine gw_sub (lv' := [(0, .ref (gx_ad w o0)), (1, .int v1), (2, .int x4), (3, .int x5)]) [2, 3, 1, 0] rfl ?_
        exact ih o0 v1 x4 x5 ⟨by omega, by omega⟩ h
set_option maxRecDepth 20000 in
theorem J_X9_heightAt {z : gx_X} {d : gx_D} {w : gx_V} {ca : Nat → ClassId} (hC : gx_C z d w cX9_heightAt 4 RX9) (hw : gx_isC ca w) (hR : gx_R z = rm_X9_heightAt) (hr : (gx_me z).sig.returnType = (some .int)) {o0 : Nat} (ho0 : pk_Si o0) {M : gx_M} {v1 : Int32} {Q : Int32 → Prop} (h : T_X9_heightAt M o0 v1 Q) : GW z w 4 (gx_Qi w (fun r M1 => M1 = M ∧ Q r) (gx_s z).heap.size) M 0 [(0, .ref (gx_ad w o0)), (1, .int v1)] [] := by
  unfold T_X9_heightAt at h
  have ⟨ho0a, ho0b⟩ := ho0
  refine gw_iconst (v := 0) hC dX9_heightAt_0 (by decide) ?_
  refine gw_istore_n (lv' := [(2, .int 0), (0, .ref (gx_ad w o0)), (1, .int v1)]) hC dX9_heightAt_1 rfl (by decide) rfl ?_
  refine gw_iconst (v := 0) hC dX9_heightAt_2 (by decide) ?_
  refine gw_istore_n (lv' := [(3, .int 0), (2, .int 0), (0, .ref (gx_ad w o0)), (1, .int v1)]) hC dX9_heightAt_3 rfl (by decide) rfl ?_
  obtain ⟨k6, h⟩ := h
  refine gw_sub (lv' := [(0, .ref (gx_ad w o0)), (1, .int v1), (2, .int 0), (3, .int 0)]) [2, 3, 1, 0] rfl ?_
  exact J_X9_heightAt_4 hC hw hR hr (fun v2_7 h => by
      refine gw_iload_n hC dX9_heightAt_40 rfl 0 rfl ?_
      exact gw_iret hC hr dX9_heightAt_41 ⟨rfl, h⟩) k6 o0 v1 0 0 ⟨by omega, by omega⟩ h
theorem c_X9_heightAt {l : Launch} {d : gx_D} {w : gx_V} {ca : Nat → ClassId} (hw : gx_isC ca w) {o0 : Nat} (ho0 : pk_Si o0) {M : gx_M} {v1 : Int32} {Q : Int32 → Prop} (h : T_X9_heightAt M o0 v1 Q) : gx_Mi l d w yX9_heightAt cX9_heightAt 4 .int rm_X9_heightAt [.ref (gx_ad w o0), .int v1] M (fun r M1 => M1 = M ∧ Q r) := fun sz =>
  gx_of (own := RX9) (by decide +kernel) rfl (Nat.le_of_ble_eq_true rfl) (fun z hC hl hR hsz hr => by subst hsz; exact J_X9_heightAt hC hw hR hr ho0 h) rfl
set_option maxRecDepth 20000 in
theorem J_X2_outBehind_23 {z : gx_X} {d : gx_D} {w : gx_V} {ca : Nat → ClassId} (hC : gx_C z d w cX2_outBehind 4 RX2) (hw : gx_isC ca w) (hR : gx_R z = rm_X2_outBehind) (hr : (gx_me z).sig.returnType = (some .int)) {M : gx_M} {Q : Int32 → Prop}   (t0 : Int32) (o0 : Nat) (v1 : Int32) (ho0 : pk_Ch o0) (h : T_X2_outBehind_23 M Q  t0 o0 v1) : GW z w 4 (gx_Qi w (fun r M1 => M1 = M ∧ Q r) (gx_s z).heap.size) M 23 [(0, .ref (gx_ad w o0)), (1, .int v1)] [.int t0] := by
  unfold T_X2_outBehind_23 at h
  have ⟨ho0a, ho0b⟩ := ho0
  refine gw_istore_n (lv' := [(3, .int t0), (0, .ref (gx_ad w o0)), (1, .int v1)]) hC dX2_outBehind_23 rfl (by decide) rfl ?_
  refine gw_iload_n hC dX2_outBehind_24 rfl 2 rfl ?_
  refine gw_iload_n hC dX2_outBehind_25 rfl 0 rfl ?_
  refine gw_iload_n hC dX2_outBehind_26 rfl 2 rfl ?_
  refine gw_isub hC dX2_outBehind_27 ?_
  refine gw_aload_n hC dX2_outBehind_28 rfl 1 rfl ?_
  refine gw_get hC cl_X2 fg_X2_21 (gn_Ch hw ⟨by omega, by omega⟩) (gc_Ch hw ⟨by omega, by omega⟩ _) (gv_X2_3 _ _ _) dX2_outBehind_29 ?_
  refine gw_imul hC dX2_outBehind_32 ?_
  refine gw_bipush (v := 16) hC dX2_outBehind_33 (by decide) ?_
  refine gw_idiv hC dX2_outBehind_35 (by decide) ?_
  refine gw_iadd hC dX2_outBehind_36 ?_
  exact gw_iret hC hr dX2_outBehind_37 ⟨rfl, h⟩
set_option maxRecDepth 20000 in
theorem J_X2_outBehind {z : gx_X} {d : gx_D} {w : gx_V} {ca : Nat → ClassId} (hC : gx_C z d w cX2_outBehind 4 RX2) (hw : gx_isC ca w) (hR : gx_R z = rm_X2_outBehind) (hr : (gx_me z).sig.returnType = (some .int)) {o0 : Nat} (ho0 : pk_Ch o0) {M : gx_M} {v1 : Int32} {v2 : Int32} {Q : Int32 → Prop} (h : T_X2_outBehind M o0 v1 v2 Q) : GW z w 4 (gx_Qi w (fun r M1 => M1 = M ∧ Q r) (gx_s z).heap.size) M 0 [(0, .ref (gx_ad w o0)), (1, .int v1), (2, .int v2)] [] := by
  unfold T_X2_outBehind at h
  have ⟨ho0a, ho0b⟩ := ho0
  refine gw_aload_n hC dX2_outBehind_0 rfl 0 rfl ?_
  refine gw_get hC cl_X2 fg_X2_18 (gn_Ch hw ⟨by omega, by omega⟩) (gc_Ch hw ⟨by omega, by omega⟩ _) (gv_X2_2 _ _ _) dX2_outBehind_1 ?_
  refine gw_iconst (v := 1) hC dX2_outBehind_4 (by decide) ?_
  refine gw_icmp_ge (tgt := 12) hC dX2_outBehind_5 (by decide) (fun hc => ?_) (fun hc => ?_)
  · have h := gx_t h hc
    refine gw_iload_n hC dX2_outBehind_12 rfl 2 rfl ?_
    refine gw_aload_n hC dX2_outBehind_13 rfl 0 rfl ?_
    refine gw_get hC cl_X2 fg_X2_15 (gn_Ch hw ⟨by omega, by omega⟩) (gc_Ch hw ⟨by omega, by omega⟩ _) (gv_X2_1 _ _ _) dX2_outBehind_14 ?_
    refine gw_imul hC dX2_outBehind_17 ?_
    refine gw_aload_n hC dX2_outBehind_18 rfl 0 rfl ?_
    refine gw_get hC cl_X2 fg_X2_18 (gn_Ch hw ⟨by omega, by omega⟩) (gc_Ch hw ⟨by omega, by omega⟩ _) (gv_X2_2 _ _ _) dX2_outBehind_19 ?_
    obtain ⟨hz, h⟩ := h
    refine gw_idiv hC dX2_outBehind_22 hz ?_
    refine gw_sub (lv' := [(0, .ref (gx_ad w o0)), (1, .int v1)]) [0, 1] rfl ?_
    exact J_X2_outBehind_23 hC hw hR hr  ((v2 * (M o0 1)) / (M o0 2)) o0 v1 ⟨by omega, by omega⟩ h
  · have h := gx_f h hc
    refine gw_iconst (v := 0) hC dX2_outBehind_8 (by decide) ?_
    refine gw_goto (tgt := 23) hC dX2_outBehind_9 (by decide) ?_
    refine gw_sub (lv' := [(0, .ref (gx_ad w o0)), (1, .int v1)]) [0, 1] rfl ?_
    exact J_X2_outBehind_23 hC hw hR hr  0 o0 v1 ⟨by omega, by omega⟩ h
theorem c_X2_outBehind {l : Launch} {d : gx_D} {w : gx_V} {ca : Nat → ClassId} (hw : gx_isC ca w) {o0 : Nat} (ho0 : pk_Ch o0) {M : gx_M} {v1 : Int32} {v2 : Int32} {Q : Int32 → Prop} (h : T_X2_outBehind M o0 v1 v2 Q) : gx_Mi l d w yX2_outBehind cX2_outBehind 4 .int rm_X2_outBehind [.ref (gx_ad w o0), .int v1, .int v2] M (fun r M1 => M1 = M ∧ Q r) := fun sz =>
  gx_of (own := RX2) (by decide +kernel) rfl (Nat.le_of_ble_eq_true rfl) (fun z hC hl hR hsz hr => by subst hsz; exact J_X2_outBehind hC hw hR hr ho0 h) rfl
set_option maxRecDepth 20000 in
theorem J_X1_traceTo_87 {z : gx_X} {d : gx_D} {w : gx_V} {ca : Nat → ClassId} (hC : gx_C z d w cX1_traceTo 7 RX1) (hw : gx_isC ca w) (hR : gx_R z = rm_X1_traceTo) (hr : (gx_me z).sig.returnType = none)  {Q : gx_M → Prop} {K19 : gx_M → Int32 → Int32 → Int32 → Prop} (hK19 : ∀ (M : gx_M) (v1 : Int32) (v2 : Int32) (v3 : Int32), K19 M v1 v2 v3 → GW z w 7 (gx_Qv w Q (gx_s z).heap.size) M 19 [(0, .ref (gx_ad w 1)), (1, .int v1), (2, .int v2), (3, .int v3)] []) (M : gx_M) (t0 : Int32) (v1 : Int32) (v2 : Int32) (v3 : Int32) (o4 : Nat) (v5 : Int32) (ho4 : pk_Ch o4) (h : T_X1_traceTo_87 Q K19 M t0 v1 v2 v3 o4 v5) : GW z w 7 (gx_Qv w Q (gx_s z).heap.size) M 87 [(0, .ref (gx_ad w 1)), (1, .int v1), (2, .int v2), (3, .int v3), (4, .ref (gx_ad w o4)), (5, .int v5)] [.int t0] := by
  unfold T_X1_traceTo_87 at h
  have ⟨ho4a, ho4b⟩ := ho4
  refine gw_istore (lv' := [(6, .int t0), (0, .ref (gx_ad w 1)), (1, .int v1), (2, .int v2), (3, .int v3), (4, .ref (gx_ad w o4)), (5, .int v5)]) hC dX1_traceTo_87 (by decide) rfl ?_
  refine gw_aload_n hC dX1_traceTo_89 rfl 1 rfl ?_
  refine gw_get hC cl_X1 fg_X1_38 (hw.lt (by decide)) (gc_1 hw _) (gv_X1_4 _ _ _) dX1_traceTo_90 ?_
  refine gw_iload_n hC dX1_traceTo_93 rfl 4 rfl ?_
  obtain ⟨hi, h⟩ := h
  have hb5 := vp_lt hi
  refine gw_aald hC (hw.lt (by decide)) (gc_12 hw _) (gt_1 hw) rfl hi dX1_traceTo_94 ?_
  refine gw_rr (o' := 13 + v3.toNatClampNeg) (by omega) ?_
  refine gw_iload_n hC dX1_traceTo_95 rfl 3 rfl ?_
  refine gw_aload hC dX1_traceTo_96 5 rfl ?_
  refine gw_iload hC dX1_traceTo_98 6 rfl ?_
  refine gw_iload hC dX1_traceTo_100 0 rfl ?_
  refine gw_calli (gx_rV hC (n := 2) (As := [.int v5, .int t0]) (rest := [.int v2, .ref (gx_ad w (13 + v3.toNatClampNeg))]) (fun sz => c_X2_outBehind hw ⟨by omega, by omega⟩ h sz) cv_X1_77_X2_outBehind (by rw [hR]; exact rr_X1_traceTo_X2_outBehind) ⟨(gn_Ch hw ⟨by omega, by omega⟩), _, _, _, _, gc_Ch hw ⟨by omega, by omega⟩ _, cl_X2.1⟩ rfl rfl (Nat.le_of_ble_eq_true rfl) dX1_traceTo_102) ?_
  intro r6 m7 ⟨hm7, h⟩
  rw [hm7]
  obtain ⟨hi, h⟩ := h
  refine gw_iast hC (gn_a20 hw (gk_ou hb5)) (gc_a20 hw (gk_ou hb5)) (gt_0 hw) hi dX1_traceTo_105 ?_
  refine gw_nmM (fun M8 hM8 => ?_)
  have h := h M8 hM8
  obtain ⟨x9, hx9⟩ : ∃ y : Int32, y = v3 + 1 := ⟨_, rfl⟩
  have h := h x9 hx9
  refine gw_iinc (v := x9) (lv' := [(3, .int x9), (6, .int t0), (0, .ref (gx_ad w 1)), (1, .int v1), (2, .int v2), (4, .ref (gx_ad w o4)), (5, .int v5)]) hC dX1_traceTo_106 (k := 4) rfl (by rw [hx9]; rfl) (by decide) rfl ?_
  refine gw_goto (tgt := 19) hC dX1_traceTo_109 (by decide) ?_
  refine gw_sub (lv' := [(0, .ref (gx_ad w 1)), (1, .int v1), (2, .int v2), (3, .int x9)]) [2, 3, 4, 0] rfl ?_
  exact hK19 M8 v1 v2 x9 h
set_option maxRecDepth 20000 in
theorem J_X1_traceTo_53 {z : gx_X} {d : gx_D} {w : gx_V} {ca : Nat → ClassId} (hC : gx_C z d w cX1_traceTo 7 RX1) (hw : gx_isC ca w) (hR : gx_R z = rm_X1_traceTo) (hr : (gx_me z).sig.returnType = none)  {Q : gx_M → Prop} {K19 : gx_M → Int32 → Int32 → Int32 → Prop} (hK19 : ∀ (M : gx_M) (v1 : Int32) (v2 : Int32) (v3 : Int32), K19 M v1 v2 v3 → GW z w 7 (gx_Qv w Q (gx_s z).heap.size) M 19 [(0, .ref (gx_ad w 1)), (1, .int v1), (2, .int v2), (3, .int v3)] []) (M : gx_M) (t0 : Int32) (v1 : Int32) (v2 : Int32) (v3 : Int32) (o4 : Nat) (ho4 : pk_Ch o4) (h : T_X1_traceTo_53 Q K19 M t0 v1 v2 v3 o4) : GW z w 7 (gx_Qv w Q (gx_s z).heap.size) M 53 [(0, .ref (gx_ad w 1)), (1, .int v1), (2, .int v2), (3, .int v3), (4, .ref (gx_ad w o4))] [.int t0] := by
  unfold T_X1_traceTo_53 at h
  have ⟨ho4a, ho4b⟩ := ho4
  refine gw_istore (lv' := [(5, .int t0), (0, .ref (gx_ad w 1)), (1, .int v1), (2, .int v2), (3, .int v3), (4, .ref (gx_ad w o4))]) hC dX1_traceTo_53 (by decide) rfl ?_
  refine gw_aload hC dX1_traceTo_55 5 rfl ?_
  refine gw_get hC cl_X2 fg_X1_58 (gn_Ch hw ⟨by omega, by omega⟩) (gc_Ch hw ⟨by omega, by omega⟩ _) (gv_X2_0 _ _ _) dX1_traceTo_57 ?_
  refine gw_calli (gx_rN hC (n := 1) (As := [.int (M o4 0)]) (rest := []) (fun sz => c_X10_isSignal hw  h sz) cn_X1_63_X10_isSignal (by rw [hR]; exact rr_X1_traceTo_X10_isSignal) rfl rfl (Nat.le_of_ble_eq_true rfl) dX1_traceTo_60) ?_
  intro r3 m4 ⟨hm4, h⟩
  rw [hm4]
  refine gw_if_eq (tgt := 86) hC dX1_traceTo_63 (by decide) (fun hc => ?_) (fun hc => ?_)
  · have h := gx_t h hc
    refine gw_iconst (v := 0) hC dX1_traceTo_86 (by decide) ?_
    refine gw_sub (lv' := [(0, .ref (gx_ad w 1)), (1, .int v1), (2, .int v2), (3, .int v3), (4, .ref (gx_ad w o4)), (5, .int t0)]) [1, 2, 3, 4, 5, 0] rfl ?_
    exact J_X1_traceTo_87 hC hw hR hr hK19 M 0 v1 v2 v3 o4 t0 ⟨by omega, by omega⟩ h
  · have h := gx_f h hc
    refine gw_aload_n hC dX1_traceTo_66 rfl 1 rfl ?_
    refine gw_get hC cl_X1 fg_X1_12 (hw.lt (by decide)) (gc_1 hw _) (gv_X1_0 _ _ _) dX1_traceTo_67 ?_
    refine gw_get hC cl_X8 fg_X1_67 (hw.lt (by decide)) (gc_Se hw (by decide) _) (gv_X8_0 _ _ _) dX1_traceTo_70 ?_
    refine gw_rr (o' := 36) (by omega) ?_
    refine gw_aload hC dX1_traceTo_73 5 rfl ?_
    refine gw_get hC cl_X2 fg_X1_58 (gn_Ch hw ⟨by omega, by omega⟩) (gc_Ch hw ⟨by omega, by omega⟩ _) (gv_X2_0 _ _ _) dX1_traceTo_75 ?_
    obtain ⟨hi, h⟩ := h
    have hb10 := vp_lt hi
    refine gw_aald hC (hw.lt (by decide)) (gc_SA hw (by decide) _) (gt_3 hw) rfl hi dX1_traceTo_78 ?_
    refine gw_rr (o' := 42 + (M o4 0).toNatClampNeg) (by omega) ?_
    refine gw_iload_n hC dX1_traceTo_79 rfl 3 rfl ?_
    refine gw_calli (gx_rV hC (n := 1) (As := [.int v2]) (rest := []) (fun sz => c_X9_heightAt hw ⟨by omega, by omega⟩ h sz) cv_X1_71_X9_heightAt (by rw [hR]; exact rr_X1_traceTo_X9_heightAt) ⟨(gn_Si hw ⟨by omega, by omega⟩), _, _, _, _, gc_Si hw ⟨by omega, by omega⟩ _, cl_X9.1⟩ rfl rfl (Nat.le_of_ble_eq_true rfl) dX1_traceTo_80) ?_
    intro r11 m12 ⟨hm12, h⟩
    rw [hm12]
    refine gw_goto (tgt := 87) hC dX1_traceTo_83 (by decide) ?_
    refine gw_sub (lv' := [(0, .ref (gx_ad w 1)), (1, .int v1), (2, .int v2), (3, .int v3), (4, .ref (gx_ad w o4)), (5, .int t0)]) [1, 2, 3, 4, 5, 0] rfl ?_
    exact J_X1_traceTo_87 hC hw hR hr hK19 M r11 v1 v2 v3 o4 t0 ⟨by omega, by omega⟩ h
set_option maxRecDepth 20000 in
theorem J_X1_traceTo_19 {z : gx_X} {d : gx_D} {w : gx_V} {ca : Nat → ClassId} (hC : gx_C z d w cX1_traceTo 7 RX1) (hw : gx_isC ca w) (hR : gx_R z = rm_X1_traceTo) (hr : (gx_me z).sig.returnType = none)  {Q : gx_M → Prop} {K112 : gx_M → Int32 → Int32 → Prop} (hK112 : ∀ (M : gx_M) (v1 : Int32) (v2 : Int32), K112 M v1 v2 → GW z w 7 (gx_Qv w Q (gx_s z).heap.size) M 112 [(0, .ref (gx_ad w 1)), (1, .int v1), (2, .int v2)] []) : ∀ (n : Nat) (M : gx_M) (v1 : Int32) (v2 : Int32) (v3 : Int32) , T_X1_traceTo_19 Q K112 n M v1 v2 v3 → GW z w 7 (gx_Qv w Q (gx_s z).heap.size) M 19 [(0, .ref (gx_ad w 1)), (1, .int v1), (2, .int v2), (3, .int v3)] [] := by
  intro n
  induction n with
  | zero =>
    intro M v1 v2 v3 h
    exact h.elim
  | succ n ih =>
    intro M v1 v2 v3 h
    rw [T_X1_traceTo_19] at h
    refine gw_iload_n hC dX1_traceTo_19 rfl 3 rfl ?_
    refine gw_iconst (v := 2) hC dX1_traceTo_20 (by decide) ?_
    refine gw_icmp_ge (tgt := 112) hC dX1_traceTo_21 (by decide) (fun hc => ?_) (fun hc => ?_)
    · have h := gx_t h hc
      refine gw_sub (lv' := [(0, .ref (gx_ad w 1)), (1, .int v1), (2, .int v2)]) [0, 1, 2] rfl ?_
      exact hK112 M v1 v2 h
    · have h := gx_f h hc
      refine gw_aload_n hC dX1_traceTo_24 rfl 0 rfl ?_
      refine gw_get hC cl_X1 fg_X1_12 (hw.lt (by decide)) (gc_1 hw _) (gv_X1_0 _ _ _) dX1_traceTo_25 ?_
      refine gw_get hC cl_X8 fg_X1_54 (hw.lt (by decide)) (gc_Se hw (by decide) _) (gv_X8_1 _ _ _) dX1_traceTo_28 ?_
      refine gw_rr (o' := 38) (by omega) ?_
      refine gw_iload_n hC dX1_traceTo_31 rfl 3 rfl ?_
      obtain ⟨hi, h⟩ := h
      have hb2 := vp_lt hi
      refine gw_aald hC (hw.lt (by decide)) (gc_CA hw (by decide) _) (gt_4 hw) rfl hi dX1_traceTo_32 ?_
      refine gw_rr (o' := 58 + v3.toNatClampNeg) (by omega) ?_
      refine gw_astore (lv' := [(4, .ref (gx_ad w (58 + v3.toNatClampNeg))), (0, .ref (gx_ad w 1)), (1, .int v1), (2, .int v2), (3, .int v3)]) hC dX1_traceTo_33 (by decide) rfl ?_
      refine gw_iload_n hC dX1_traceTo_35 rfl 3 rfl ?_
      refine gw_if_le (tgt := 52) hC dX1_traceTo_36 (by decide) (fun hc => ?_) (fun hc => ?_)
      · have h := gx_t h hc
        refine gw_iconst (v := 0) hC dX1_traceTo_52 (by decide) ?_
        refine gw_sub (lv' := [(0, .ref (gx_ad w 1)), (1, .int v1), (2, .int v2), (3, .int v3), (4, .ref (gx_ad w (58 + v3.toNatClampNeg)))]) [1, 2, 3, 4, 0] rfl ?_
        exact J_X1_traceTo_53 hC hw hR hr ih M 0 v1 v2 v3 (58 + v3.toNatClampNeg) ⟨by omega, by omega⟩ h
      · have h := gx_f h hc
        refine gw_aload_n hC dX1_traceTo_39 rfl 1 rfl ?_
        refine gw_get hC cl_X1 fg_X1_38 (hw.lt (by decide)) (gc_1 hw _) (gv_X1_4 _ _ _) dX1_traceTo_40 ?_
        refine gw_iload_n hC dX1_traceTo_43 rfl 4 rfl ?_
        obtain ⟨hi, h⟩ := h
        have hb13 := vp_lt hi
        refine gw_aald hC (hw.lt (by decide)) (gc_12 hw _) (gt_1 hw) rfl hi dX1_traceTo_44 ?_
        refine gw_rr (o' := 13 + v3.toNatClampNeg) (by omega) ?_
        refine gw_iload_n hC dX1_traceTo_45 rfl 3 rfl ?_
        refine gw_iconst (v := 1) hC dX1_traceTo_46 (by decide) ?_
        refine gw_isub hC dX1_traceTo_47 ?_
        obtain ⟨hi, h⟩ := h
        refine gw_iald hC (gn_a20 hw (gk_ou hb13)) (gc_a20 hw (gk_ou hb13) _) (gt_0 hw) hi dX1_traceTo_48 ?_
        refine gw_goto (tgt := 53) hC dX1_traceTo_49 (by decide) ?_
        refine gw_sub (lv' := [(0, .ref (gx_ad w 1)), (1, .int v1), (2, .int v2), (3, .int v3), (4, .ref (gx_ad w (58 + v3.toNatClampNeg)))]) [1, 2, 3, 4, 0] rfl ?_
        exact J_X1_traceTo_53 hC hw hR hr ih M (M (13 + v3.toNatClampNeg) (v2 - 1).toNatClampNeg) v1 v2 v3 (58 + v3.toNatClampNeg) ⟨by omega, by omega⟩ h
set_option maxRecDepth 20000 in
theorem J_X1_traceTo_5 {z : gx_X} {d : gx_D} {w : gx_V} {ca : Nat → ClassId} (hC : gx_C z d w cX1_traceTo 7 RX1) (hw : gx_isC ca w) (hR : gx_R z = rm_X1_traceTo) (hr : (gx_me z).sig.returnType = none)  {Q : gx_M → Prop} {K125 : gx_M → Prop} (hK125 : ∀ (M : gx_M), K125 M → GW z w 7 (gx_Qv w Q (gx_s z).heap.size) M 125 [] []) : ∀ (n : Nat) (M : gx_M) (v1 : Int32) (v2 : Int32) , T_X1_traceTo_5 Q K125 n M v1 v2 → GW z w 7 (gx_Qv w Q (gx_s z).heap.size) M 5 [(0, .ref (gx_ad w 1)), (1, .int v1), (2, .int v2)] [] := by
  intro n
  induction n with
  | zero =>
    intro M v1 v2 h
    exact h.elim
  | succ n ih =>
    intro M v1 v2 h
    rw [T_X1_traceTo_5] at h
    refine gw_iload_n hC dX1_traceTo_5 rfl 2 rfl ?_
    refine gw_iload_n hC dX1_traceTo_6 rfl 1 rfl ?_
    refine gw_icmp_gt (tgt := 125) hC dX1_traceTo_7 (by decide) (fun hc => ?_) (fun hc => ?_)
    · have h := gx_t h hc
      refine gw_sub (lv' := []) [] rfl ?_
      exact hK125 M h
    · have h := gx_f h hc
      refine gw_iload_n hC dX1_traceTo_10 rfl 2 rfl ?_
      refine gw_sipush (v := 2000) hC dX1_traceTo_11 (by decide) ?_
      refine gw_icmp_ge (tgt := 125) hC dX1_traceTo_14 (by decide) (fun hc => ?_) (fun hc => ?_)
      · have h := gx_t h hc
        refine gw_sub (lv' := []) [] rfl ?_
        exact hK125 M h
      · have h := gx_f h hc
        refine gw_iconst (v := 0) hC dX1_traceTo_17 (by decide) ?_
        refine gw_istore_n (lv' := [(3, .int 0), (0, .ref (gx_ad w 1)), (1, .int v1), (2, .int v2)]) hC dX1_traceTo_18 rfl (by decide) rfl ?_
        obtain ⟨k14, h⟩ := h
        refine gw_sub (lv' := [(0, .ref (gx_ad w 1)), (1, .int v1), (2, .int v2), (3, .int 0)]) [1, 2, 3, 0] rfl ?_
        exact J_X1_traceTo_19 hC hw hR hr (fun M17 v1_15 v2_16 h => by
            refine gw_aload_n hC dX1_traceTo_112 rfl 0 rfl ?_
            refine gw_iload_n hC dX1_traceTo_113 rfl 2 rfl ?_
            refine gw_iconst (v := 1) hC dX1_traceTo_114 (by decide) ?_
            refine gw_iadd hC dX1_traceTo_115 ?_
            refine gw_put hC cl_X1 fp_X1_41 (hw.lt (by decide)) (gc_1 hw _) ((gc_1 hw _).trans (gs_X1_5 _ _ _ _)) rfl rfl (by simp [fs_X1]) dX1_traceTo_116 ?_
            refine gw_nmM (fun M18 hM18 => ?_)
            have h := h M18 hM18
            obtain ⟨x19, hx19⟩ : ∃ y : Int32, y = v2_16 + 1 := ⟨_, rfl⟩
            have h := h x19 hx19
            refine gw_iinc (v := x19) (lv' := [(2, .int x19), (0, .ref (gx_ad w 1)), (1, .int v1_15)]) hC dX1_traceTo_119 (k := 2) rfl (by rw [hx19]; rfl) (by decide) rfl ?_
            refine gw_goto (tgt := 5) hC dX1_traceTo_122 (by decide) ?_
            refine gw_sub (lv' := [(0, .ref (gx_ad w 1)), (1, .int v1_15), (2, .int x19)]) [1, 2, 0] rfl ?_
            exact ih M18 v1_15 x19 h) k14 M v1 v2 0 h
set_option maxRecDepth 20000 in
theorem J_X1_traceTo {z : gx_X} {d : gx_D} {w : gx_V} {ca : Nat → ClassId} (hC : gx_C z d w cX1_traceTo 7 RX1) (hw : gx_isC ca w) (hR : gx_R z = rm_X1_traceTo) (hr : (gx_me z).sig.returnType = none)   {M : gx_M} {v1 : Int32} {Q : gx_M → Prop} (h : T_X1_traceTo M v1 Q) : GW z w 7 (gx_Qv w Q (gx_s z).heap.size) M 0 [(0, .ref (gx_ad w 1)), (1, .int v1)] [] := by
  unfold T_X1_traceTo at h
  refine gw_aload_n hC dX1_traceTo_0 rfl 0 rfl ?_
  refine gw_get hC cl_X1 fg_X1_41 (hw.lt (by decide)) (gc_1 hw _) (gv_X1_5 _ _ _) dX1_traceTo_1 ?_
  refine gw_nm (fun x1 hx1 => ?_)
  have h := h x1 hx1
  refine gw_istore_n (lv' := [(2, .int x1), (0, .ref (gx_ad w 1)), (1, .int v1)]) hC dX1_traceTo_4 rfl (by decide) rfl ?_
  obtain ⟨k20, h⟩ := h
  refine gw_sub (lv' := [(0, .ref (gx_ad w 1)), (1, .int v1), (2, .int x1)]) [1, 2, 0] rfl ?_
  exact J_X1_traceTo_5 hC hw hR hr (fun M21 h => by
      exact gw_vret hC hr dX1_traceTo_125 h) k20 M v1 x1 h
theorem c_X1_traceTo {l : Launch} {d : gx_D} {w : gx_V} {ca : Nat → ClassId} (hw : gx_isC ca w)   {M : gx_M} {v1 : Int32} {Q : gx_M → Prop} (h : T_X1_traceTo M v1 Q) : gx_Mv l d w yX1_traceTo cX1_traceTo 7 rm_X1_traceTo [.ref (gx_ad w 1), .int v1] M Q := fun sz =>
  gx_of (own := RX1) (by decide +kernel) rfl (Nat.le_of_ble_eq_true rfl) (fun z hC hl hR hsz hr => by subst hsz; exact J_X1_traceTo hC hw hR hr  h) rfl
set_option maxRecDepth 20000 in
theorem J_X10_isChannel {z : gx_X} {d : gx_D} {w : gx_V} {ca : Nat → ClassId} (hC : gx_C z d w cX10_isChannel 1 RX10) (hw : gx_isC ca w) (hR : gx_R z = rm_X10_isChannel) (hr : (gx_me z).sig.returnType = (some .boolean))   {M : gx_M} {v0 : Int32} {Q : Int32 → Prop} (h : T_X10_isChannel M v0 Q) : GW z w 1 (gx_Qi w (fun r M1 => M1 = M ∧ Q r) (gx_s z).heap.size) M 0 [(0, .int v0)] [] := by
  unfold T_X10_isChannel at h
  refine gw_iload_n hC dX10_isChannel_0 rfl 0 rfl ?_
  refine gw_iconst (v := 0) hC dX10_isChannel_1 (by decide) ?_
  refine gw_iconst (v := 1) hC dX10_isChannel_2 (by decide) ?_
  refine gw_calli (gx_rS hC (n := 3) (As := [.int v0, .int 0, .int 1]) (rest := []) (fun sz => c_X10_within hw  h sz) cs_X10_81_X10_within (by rw [hR]; exact rr_X10_isChannel_X10_within) rfl rfl (Nat.le_of_ble_eq_true rfl) dX10_isChannel_3) ?_
  intro r1 m2 ⟨hm2, h⟩
  rw [hm2]
  obtain ⟨hz, h⟩ := h
  exact gw_zret hC hr (gx_nz hz) dX10_isChannel_6 ⟨rfl, h⟩
theorem c_X10_isChannel {l : Launch} {d : gx_D} {w : gx_V} {ca : Nat → ClassId} (hw : gx_isC ca w)   {M : gx_M} {v0 : Int32} {Q : Int32 → Prop} (h : T_X10_isChannel M v0 Q) : gx_Mi l d w yX10_isChannel cX10_isChannel 1 .boolean rm_X10_isChannel [.int v0] M (fun r M1 => M1 = M ∧ Q r) := fun sz =>
  gx_of (own := RX10) (by decide +kernel) rfl (Nat.le_of_ble_eq_true rfl) (fun z hC hl hR hsz hr => by subst hsz; exact J_X10_isChannel hC hw hR hr  h) rfl
set_option maxRecDepth 20000 in
theorem J_X1_outAt {z : gx_X} {d : gx_D} {w : gx_V} {ca : Nat → ClassId} (hC : gx_C z d w cX1_outAt 3 RX1) (hw : gx_isC ca w) (hR : gx_R z = rm_X1_outAt) (hr : (gx_me z).sig.returnType = (some .int))   {M : gx_M} {v1 : Int32} {v2 : Int32} {Q : Int32 → gx_M → Prop} (h : T_X1_outAt M v1 v2 Q) : GW z w 3 (gx_Qi w Q (gx_s z).heap.size) M 0 [(0, .ref (gx_ad w 1)), (1, .int v1), (2, .int v2)] [] := by
  unfold T_X1_outAt at h
  refine gw_iload_n hC dX1_outAt_0 rfl 1 rfl ?_
  refine gw_calli (gx_rN hC (n := 1) (As := [.int v1]) (rest := []) (fun sz => c_X10_isChannel hw  h sz) cn_X1_81_X10_isChannel (by rw [hR]; exact rr_X1_outAt_X10_isChannel) rfl rfl (Nat.le_of_ble_eq_true rfl) dX1_outAt_1) ?_
  intro r1 m2 ⟨hm2, h⟩
  rw [hm2]
  refine gw_if_eq (tgt := 18) hC dX1_outAt_4 (by decide) (fun hc => ?_) (fun hc => ?_)
  · have h := gx_t h hc
    refine gw_iconst (v := 0) hC dX1_outAt_18 (by decide) ?_
    exact gw_iret hC hr dX1_outAt_19 h
  · have h := gx_f h hc
    refine gw_iload_n hC dX1_outAt_7 rfl 2 rfl ?_
    refine gw_iconst (v := 0) hC dX1_outAt_8 (by decide) ?_
    refine gw_sipush (v := 1999) hC dX1_outAt_9 (by decide) ?_
    refine gw_calli (gx_rN hC (n := 3) (As := [.int v2, .int 0, .int 1999]) (rest := []) (fun sz => c_X10_within hw  h sz) cn_X1_84_X10_within (by rw [hR]; exact rr_X1_outAt_X10_within) rfl rfl (Nat.le_of_ble_eq_true rfl) dX1_outAt_12) ?_
    intro r3 m4 ⟨hm4, h⟩
    rw [hm4]
    refine gw_if_ne (tgt := 20) hC dX1_outAt_15 (by decide) (fun hc => ?_) (fun hc => ?_)
    · have h := gx_f h hc
      refine gw_aload_n hC dX1_outAt_20 rfl 0 rfl ?_
      refine gw_iload_n hC dX1_outAt_21 rfl 2 rfl ?_
      refine gw_callv (gx_rV hC (n := 1) (As := [.int v2]) (rest := []) (fun sz => c_X1_traceTo hw  h sz) cv_X1_88_X1_traceTo (by rw [hR]; exact rr_X1_outAt_X1_traceTo) ⟨(hw.lt (by decide)), _, _, _, _, gc_1 hw _, cl_X1.1⟩ rfl rfl (Nat.le_of_ble_eq_true rfl) dX1_outAt_22) ?_
      intro M5 h
      refine gw_aload_n hC dX1_outAt_25 rfl 0 rfl ?_
      refine gw_get hC cl_X1 fg_X1_38 (hw.lt (by decide)) (gc_1 hw _) (gv_X1_4 _ _ _) dX1_outAt_26 ?_
      refine gw_iload_n hC dX1_outAt_29 rfl 1 rfl ?_
      obtain ⟨hi, h⟩ := h
      have hb6 := vp_lt hi
      refine gw_aald hC (hw.lt (by decide)) (gc_12 hw _) (gt_1 hw) rfl hi dX1_outAt_30 ?_
      refine gw_rr (o' := 13 + v1.toNatClampNeg) (by omega) ?_
      refine gw_iload_n hC dX1_outAt_31 rfl 2 rfl ?_
      obtain ⟨hi, h⟩ := h
      refine gw_iald hC (gn_a20 hw (gk_ou hb6)) (gc_a20 hw (gk_ou hb6) _) (gt_0 hw) hi dX1_outAt_32 ?_
      exact gw_iret hC hr dX1_outAt_33 h
    · have h := gx_t h hc
      refine gw_iconst (v := 0) hC dX1_outAt_18 (by decide) ?_
      exact gw_iret hC hr dX1_outAt_19 h
theorem c_X1_outAt {l : Launch} {d : gx_D} {w : gx_V} {ca : Nat → ClassId} (hw : gx_isC ca w)   {M : gx_M} {v1 : Int32} {v2 : Int32} {Q : Int32 → gx_M → Prop} (h : T_X1_outAt M v1 v2 Q) : gx_Mi l d w yX1_outAt cX1_outAt 3 .int rm_X1_outAt [.ref (gx_ad w 1), .int v1, .int v2] M Q := fun sz =>
  gx_of (own := RX1) (by decide +kernel) rfl (Nat.le_of_ble_eq_true rfl) (fun z hC hl hR hsz hr => by subst hsz; exact J_X1_outAt hC hw hR hr  h) rfl
set_option maxRecDepth 20000 in
theorem J_X1_restart {z : gx_X} {d : gx_D} {w : gx_V} {ca : Nat → ClassId} (hC : gx_C z d w cX1_restart 1 RX1) (hw : gx_isC ca w) (hR : gx_R z = rm_X1_restart) (hr : (gx_me z).sig.returnType = none)   {M : gx_M}  {Q : gx_M → Prop} (h : T_X1_restart M  Q) : GW z w 1 (gx_Qv w Q (gx_s z).heap.size) M 0 [(0, .ref (gx_ad w 1))] [] := by
  unfold T_X1_restart at h
  refine gw_aload_n hC dX1_restart_0 rfl 0 rfl ?_
  refine gw_iconst (v := 0) hC dX1_restart_1 (by decide) ?_
  refine gw_put hC cl_X1 fp_X1_45 (hw.lt (by decide)) (gc_1 hw _) ((gc_1 hw _).trans (gs_X1_6 _ _ _ _)) rfl rfl (by simp [fs_X1]) dX1_restart_2 ?_
  refine gw_nmM (fun M1 hM1 => ?_)
  have h := h M1 hM1
  refine gw_aload_n hC dX1_restart_5 rfl 0 rfl ?_
  refine gw_iconst (v := 0) hC dX1_restart_6 (by decide) ?_
  refine gw_put hC cl_X1 fp_X1_48 (hw.lt (by decide)) (gc_1 hw _) ((gc_1 hw _).trans (gs_X1_7 _ _ _ _)) rfl rfl (by simp [fs_X1]) dX1_restart_7 ?_
  refine gw_nmM (fun M2 hM2 => ?_)
  have h := h M2 hM2
  refine gw_aload_n hC dX1_restart_10 rfl 0 rfl ?_
  refine gw_iconst (v := 0) hC dX1_restart_11 (by decide) ?_
  refine gw_put hC cl_X1 fp_X1_51 (hw.lt (by decide)) (gc_1 hw _) ((gc_1 hw _).trans (gs_X1_8 _ _ _ _)) rfl rfl (by simp [fs_X1]) dX1_restart_12 ?_
  refine gw_nmM (fun M3 hM3 => ?_)
  have h := h M3 hM3
  exact gw_vret hC hr dX1_restart_15 h
theorem c_X1_restart {l : Launch} {d : gx_D} {w : gx_V} {ca : Nat → ClassId} (hw : gx_isC ca w)   {M : gx_M}  {Q : gx_M → Prop} (h : T_X1_restart M  Q) : gx_Mv l d w yX1_restart cX1_restart 1 rm_X1_restart [.ref (gx_ad w 1)] M Q := fun sz =>
  gx_of (own := RX1) (by decide +kernel) rfl (Nat.le_of_ble_eq_true rfl) (fun z hC hl hR hsz hr => by subst hsz; exact J_X1_restart hC hw hR hr  h) rfl
set_option maxRecDepth 20000 in
theorem J_X1_told {z : gx_X} {d : gx_D} {w : gx_V} {ca : Nat → ClassId} (hC : gx_C z d w cX1_told 1 RX1) (hw : gx_isC ca w) (hR : gx_R z = rm_X1_told) (hr : (gx_me z).sig.returnType = (some (.object "GreenLine$Program")))   {M : gx_M}  {Q : Nat → Prop} (h : T_X1_told M  Q) : GW z w 1 (gx_Qr w (fun r M1 => M1 = M ∧ Q r) (gx_s z).heap.size) M 0 [(0, .ref (gx_ad w 1))] [] := by
  unfold T_X1_told at h
  refine gw_aload_n hC dX1_told_0 rfl 0 rfl ?_
  refine gw_get hC cl_X1 fg_X1_12 (hw.lt (by decide)) (gc_1 hw _) (gv_X1_0 _ _ _) dX1_told_1 ?_
  refine gw_get hC cl_X8 fg_X1_92 (hw.lt (by decide)) (gc_Se hw (by decide) _) (gv_X8_9 _ _ _) dX1_told_4 ?_
  refine gw_iconst (v := 0) hC dX1_told_7 (by decide) ?_
  refine gw_aload_n hC dX1_told_8 rfl 0 rfl ?_
  refine gw_get hC cl_X1 fg_X1_20 (hw.lt (by decide)) (gc_1 hw _) (gv_X1_1 _ _ _) dX1_told_9 ?_
  refine gw_alen (v := 4) hC (hw.lt (by decide)) (gc_15 hw _) (gt_5 hw) rfl dX1_told_12 ?_
  refine gw_iconst (v := 1) hC dX1_told_13 (by decide) ?_
  refine gw_isub hC dX1_told_14 ?_
  refine gw_calli (gx_rN hC (n := 3) (As := [.int (M 34 9), .int 0, .int (4 - 1)]) (rest := []) (fun sz => c_X10_within hw  h sz) cn_X1_84_X10_within (by rw [hR]; exact rr_X1_told_X10_within) rfl rfl (Nat.le_of_ble_eq_true rfl) dX1_told_15) ?_
  intro r1 m2 ⟨hm2, h⟩
  rw [hm2]
  refine gw_if_eq (tgt := 36) hC dX1_told_18 (by decide) (fun hc => ?_) (fun hc => ?_)
  · have h := gx_t h hc
    refine gw_aload_n hC dX1_told_36 rfl 0 rfl ?_
    refine gw_get hC cl_X1 fg_X1_25 (hw.lt (by decide)) (gc_1 hw _) (gv_X1_2 _ _ _) dX1_told_37 ?_
    exact gw_aret hC hr dX1_told_40 ⟨rfl, h⟩
  · have h := gx_f h hc
    refine gw_aload_n hC dX1_told_21 rfl 0 rfl ?_
    refine gw_get hC cl_X1 fg_X1_20 (hw.lt (by decide)) (gc_1 hw _) (gv_X1_1 _ _ _) dX1_told_22 ?_
    refine gw_aload_n hC dX1_told_25 rfl 0 rfl ?_
    refine gw_get hC cl_X1 fg_X1_12 (hw.lt (by decide)) (gc_1 hw _) (gv_X1_0 _ _ _) dX1_told_26 ?_
    refine gw_get hC cl_X8 fg_X1_92 (hw.lt (by decide)) (gc_Se hw (by decide) _) (gv_X8_9 _ _ _) dX1_told_29 ?_
    obtain ⟨hi, h⟩ := h
    have hb3 := vp_lt hi
    refine gw_aald hC (hw.lt (by decide)) (gc_15 hw _) (gt_5 hw) rfl hi dX1_told_32 ?_
    refine gw_rr (o' := 16 + (M 34 9).toNatClampNeg) (by omega) ?_
    refine gw_goto (tgt := 40) hC dX1_told_33 (by decide) ?_
    exact gw_aret hC hr dX1_told_40 ⟨rfl, h⟩
theorem c_X1_told {l : Launch} {d : gx_D} {w : gx_V} {ca : Nat → ClassId} (hw : gx_isC ca w)   {M : gx_M}  {Q : Nat → Prop} (h : T_X1_told M  Q) : gx_Mr l d w yX1_told cX1_told 1 (.object "GreenLine$Program") rm_X1_told [.ref (gx_ad w 1)] M (fun r M1 => M1 = M ∧ Q r) := fun sz =>
  gx_of (own := RX1) (by decide +kernel) rfl (Nat.le_of_ble_eq_true rfl) (fun z hC hl hR hsz hr => by subst hsz; exact J_X1_told hC hw hR hr  h) rfl
set_option maxRecDepth 20000 in
theorem J_X4_isEmpty {z : gx_X} {d : gx_D} {w : gx_V} {ca : Nat → ClassId} (hC : gx_C z d w cX4_isEmpty 1 RX4) (hw : gx_isC ca w) (hR : gx_R z = rm_X4_isEmpty) (hr : (gx_me z).sig.returnType = (some .boolean)) {o0 : Nat} (ho0 : pk_Pr o0) {M : gx_M}  {Q : Int32 → Prop} (h : T_X4_isEmpty M o0 Q) : GW z w 1 (gx_Qi w (fun r M1 => M1 = M ∧ Q r) (gx_s z).heap.size) M 0 [(0, .ref (gx_ad w o0))] [] := by
  unfold T_X4_isEmpty at h
  have ⟨ho0a, ho0b⟩ := ho0
  refine gw_aload_n hC dX4_isEmpty_0 rfl 0 rfl ?_
  refine gw_get hC cl_X4 fg_X4_18 (gn_Pr hw ⟨by omega, by omega⟩) (gc_Pr hw ⟨by omega, by omega⟩ _) (gv_X4_2 _ _ _) dX4_isEmpty_1 ?_
  refine gw_if_ne (tgt := 18) hC dX4_isEmpty_4 (by decide) (fun hc => ?_) (fun hc => ?_)
  · have h := gx_f h hc
    refine gw_iconst (v := 0) hC dX4_isEmpty_18 (by decide) ?_
    exact gw_zret hC hr rfl dX4_isEmpty_19 ⟨rfl, h⟩
  · have h := gx_t h hc
    refine gw_aload_n hC dX4_isEmpty_7 rfl 0 rfl ?_
    refine gw_get hC cl_X4 fg_X4_22 (gn_Pr hw ⟨by omega, by omega⟩) (gc_Pr hw ⟨by omega, by omega⟩ _) (gv_X4_3 _ _ _) dX4_isEmpty_8 ?_
    refine gw_if_ne (tgt := 18) hC dX4_isEmpty_11 (by decide) (fun hc => ?_) (fun hc => ?_)
    · have h := gx_f h hc
      refine gw_iconst (v := 0) hC dX4_isEmpty_18 (by decide) ?_
      exact gw_zret hC hr rfl dX4_isEmpty_19 ⟨rfl, h⟩
    · have h := gx_t h hc
      refine gw_iconst (v := 1) hC dX4_isEmpty_14 (by decide) ?_
      refine gw_goto (tgt := 19) hC dX4_isEmpty_15 (by decide) ?_
      exact gw_zret hC hr rfl dX4_isEmpty_19 ⟨rfl, h⟩
theorem c_X4_isEmpty {l : Launch} {d : gx_D} {w : gx_V} {ca : Nat → ClassId} (hw : gx_isC ca w) {o0 : Nat} (ho0 : pk_Pr o0) {M : gx_M}  {Q : Int32 → Prop} (h : T_X4_isEmpty M o0 Q) : gx_Mi l d w yX4_isEmpty cX4_isEmpty 1 .boolean rm_X4_isEmpty [.ref (gx_ad w o0)] M (fun r M1 => M1 = M ∧ Q r) := fun sz =>
  gx_of (own := RX4) (by decide +kernel) rfl (Nat.le_of_ble_eq_true rfl) (fun z hC hl hR hsz hr => by subst hsz; exact J_X4_isEmpty hC hw hR hr ho0 h) rfl
set_option maxRecDepth 20000 in
theorem J_X1_look_48 {z : gx_X} {d : gx_D} {w : gx_V} {ca : Nat → ClassId} (hC : gx_C z d w cX1_look 2 RX1) (hw : gx_isC ca w) (hR : gx_R z = rm_X1_look) (hr : (gx_me z).sig.returnType = none)  {Q : gx_M → Prop}   (M : gx_M) (t0 : Int32) (v1 : Int32)  (h : T_X1_look_48 Q  M t0 v1) : GW z w 2 (gx_Qv w Q (gx_s z).heap.size) M 48 [(0, .ref (gx_ad w 1)), (1, .int v1)] [.int t0, .ref (gx_ad w 2)] := by
  unfold T_X1_look_48 at h
  refine gw_put hC cl_X0 fp_X1_130 (hw.lt (by decide)) (gc_2 hw _) ((gc_2 hw _).trans (gs_X0_2 _ _ _ _)) rfl rfl (by simp [fs_X0]) dX1_look_48 ?_
  refine gw_nmM (fun M4 hM4 => ?_)
  have h := h M4 hM4
  refine gw_aload_n hC dX1_look_51 rfl 0 rfl ?_
  refine gw_get hC cl_X1 fg_X1_32 (hw.lt (by decide)) (gc_1 hw _) (gv_X1_3 _ _ _) dX1_look_52 ?_
  refine gw_aload_n hC dX1_look_55 rfl 0 rfl ?_
  refine gw_get hC cl_X1 fg_X1_38 (hw.lt (by decide)) (gc_1 hw _) (gv_X1_4 _ _ _) dX1_look_56 ?_
  refine gw_iconst (v := 1) hC dX1_look_59 (by decide) ?_
  refine gw_aald hC (hw.lt (by decide)) (gc_12 hw _) (gt_1 hw) rfl (i := 1) (by unfold vp_in; decide) dX1_look_60 ?_
  refine gw_rr (o' := 14) (by decide) ?_
  refine gw_iload_n hC dX1_look_61 rfl 1 rfl ?_
  obtain ⟨hi, h⟩ := h
  refine gw_iald hC (hw.lt (by decide)) (gc_a20 hw (by decide) _) (gt_0 hw) hi dX1_look_62 ?_
  refine gw_put hC cl_X0 fp_X1_133 (hw.lt (by decide)) (gc_2 hw _) ((gc_2 hw _).trans (gs_X0_3 _ _ _ _)) rfl rfl (by simp [fs_X0]) dX1_look_63 ?_
  refine gw_nmM (fun M5 hM5 => ?_)
  have h := h M5 hM5
  refine gw_aload_n hC dX1_look_66 rfl 0 rfl ?_
  refine gw_get hC cl_X1 fg_X1_32 (hw.lt (by decide)) (gc_1 hw _) (gv_X1_3 _ _ _) dX1_look_67 ?_
  refine gw_iload_n hC dX1_look_70 rfl 1 rfl ?_
  refine gw_put hC cl_X0 fp_X1_136 (hw.lt (by decide)) (gc_2 hw _) ((gc_2 hw _).trans (gs_X0_4 _ _ _ _)) rfl rfl (by simp [fs_X0]) dX1_look_71 ?_
  refine gw_nmM (fun M6 hM6 => ?_)
  have h := h M6 hM6
  refine gw_aload_n hC dX1_look_74 rfl 0 rfl ?_
  refine gw_get hC cl_X1 fg_X1_32 (hw.lt (by decide)) (gc_1 hw _) (gv_X1_3 _ _ _) dX1_look_75 ?_
  refine gw_aload_n hC dX1_look_78 rfl 0 rfl ?_
  refine gw_get hC cl_X1 fg_X1_48 (hw.lt (by decide)) (gc_1 hw _) (gv_X1_7 _ _ _) dX1_look_79 ?_
  refine gw_put hC cl_X0 fp_X1_139 (hw.lt (by decide)) (gc_2 hw _) ((gc_2 hw _).trans (gs_X0_5 _ _ _ _)) rfl rfl (by simp [fs_X0]) dX1_look_82 ?_
  refine gw_nmM (fun M7 hM7 => ?_)
  have h := h M7 hM7
  refine gw_aload_n hC dX1_look_85 rfl 0 rfl ?_
  refine gw_get hC cl_X1 fg_X1_32 (hw.lt (by decide)) (gc_1 hw _) (gv_X1_3 _ _ _) dX1_look_86 ?_
  refine gw_iload_n hC dX1_look_89 rfl 1 rfl ?_
  refine gw_aload_n hC dX1_look_90 rfl 0 rfl ?_
  refine gw_get hC cl_X1 fg_X1_45 (hw.lt (by decide)) (gc_1 hw _) (gv_X1_6 _ _ _) dX1_look_91 ?_
  refine gw_isub hC dX1_look_94 ?_
  refine gw_put hC cl_X0 fp_X1_140 (hw.lt (by decide)) (gc_2 hw _) ((gc_2 hw _).trans (gs_X0_6 _ _ _ _)) rfl rfl (by simp [fs_X0]) dX1_look_95 ?_
  refine gw_nmM (fun M8 hM8 => ?_)
  have h := h M8 hM8
  exact gw_vret hC hr dX1_look_98 h
set_option maxRecDepth 20000 in
theorem J_X1_look {z : gx_X} {d : gx_D} {w : gx_V} {ca : Nat → ClassId} (hC : gx_C z d w cX1_look 2 RX1) (hw : gx_isC ca w) (hR : gx_R z = rm_X1_look) (hr : (gx_me z).sig.returnType = none)   {M : gx_M} {v1 : Int32} {Q : gx_M → Prop} (h : T_X1_look M v1 Q) : GW z w 2 (gx_Qv w Q (gx_s z).heap.size) M 0 [(0, .ref (gx_ad w 1)), (1, .int v1)] [] := by
  unfold T_X1_look at h
  refine gw_iload_n hC dX1_look_0 rfl 1 rfl ?_
  refine gw_iconst (v := 0) hC dX1_look_1 (by decide) ?_
  refine gw_sipush (v := 1999) hC dX1_look_2 (by decide) ?_
  refine gw_calli (gx_rN hC (n := 3) (As := [.int v1, .int 0, .int 1999]) (rest := []) (fun sz => c_X10_within hw  h sz) cn_X1_84_X10_within (by rw [hR]; exact rr_X1_look_X10_within) rfl rfl (Nat.le_of_ble_eq_true rfl) dX1_look_5) ?_
  intro r1 m2 ⟨hm2, h⟩
  rw [hm2]
  refine gw_if_eq (tgt := 98) hC dX1_look_8 (by decide) (fun hc => ?_) (fun hc => ?_)
  · have h := gx_t h hc
    exact gw_vret hC hr dX1_look_98 h
  · have h := gx_f h hc
    refine gw_aload_n hC dX1_look_11 rfl 0 rfl ?_
    refine gw_get hC cl_X1 fg_X1_32 (hw.lt (by decide)) (gc_1 hw _) (gv_X1_3 _ _ _) dX1_look_12 ?_
    refine gw_aload_n hC dX1_look_15 rfl 0 rfl ?_
    refine gw_get hC cl_X1 fg_X1_38 (hw.lt (by decide)) (gc_1 hw _) (gv_X1_4 _ _ _) dX1_look_16 ?_
    refine gw_iconst (v := 0) hC dX1_look_19 (by decide) ?_
    refine gw_aald hC (hw.lt (by decide)) (gc_12 hw _) (gt_1 hw) rfl (i := 0) (by unfold vp_in; decide) dX1_look_20 ?_
    refine gw_rr (o' := 13) (by decide) ?_
    refine gw_iload_n hC dX1_look_21 rfl 1 rfl ?_
    obtain ⟨hi, h⟩ := h
    refine gw_iald hC (hw.lt (by decide)) (gc_a20 hw (by decide) _) (gt_0 hw) hi dX1_look_22 ?_
    refine gw_put hC cl_X0 fp_X1_127 (hw.lt (by decide)) (gc_2 hw _) ((gc_2 hw _).trans (gs_X0_1 _ _ _ _)) rfl rfl (by simp [fs_X0]) dX1_look_23 ?_
    refine gw_nmM (fun M3 hM3 => ?_)
    have h := h M3 hM3
    refine gw_aload_n hC dX1_look_26 rfl 0 rfl ?_
    refine gw_get hC cl_X1 fg_X1_32 (hw.lt (by decide)) (gc_1 hw _) (gv_X1_3 _ _ _) dX1_look_27 ?_
    refine gw_iload_n hC dX1_look_30 rfl 1 rfl ?_
    refine gw_if_le (tgt := 47) hC dX1_look_31 (by decide) (fun hc => ?_) (fun hc => ?_)
    · have h := gx_t h hc
      refine gw_iconst (v := 0) hC dX1_look_47 (by decide) ?_
      exact J_X1_look_48 hC hw hR hr  M3 0 v1 h
    · have h := gx_f h hc
      refine gw_aload_n hC dX1_look_34 rfl 0 rfl ?_
      refine gw_get hC cl_X1 fg_X1_38 (hw.lt (by decide)) (gc_1 hw _) (gv_X1_4 _ _ _) dX1_look_35 ?_
      refine gw_iconst (v := 0) hC dX1_look_38 (by decide) ?_
      refine gw_aald hC (hw.lt (by decide)) (gc_12 hw _) (gt_1 hw) rfl (i := 0) (by unfold vp_in; decide) dX1_look_39 ?_
      refine gw_rr (o' := 13) (by decide) ?_
      refine gw_iload_n hC dX1_look_40 rfl 1 rfl ?_
      refine gw_iconst (v := 1) hC dX1_look_41 (by decide) ?_
      refine gw_isub hC dX1_look_42 ?_
      obtain ⟨hi, h⟩ := h
      refine gw_iald hC (hw.lt (by decide)) (gc_a20 hw (by decide) _) (gt_0 hw) hi dX1_look_43 ?_
      refine gw_goto (tgt := 48) hC dX1_look_44 (by decide) ?_
      exact J_X1_look_48 hC hw hR hr  M3 (M3 13 (v1 - 1).toNatClampNeg) v1 h
theorem c_X1_look {l : Launch} {d : gx_D} {w : gx_V} {ca : Nat → ClassId} (hw : gx_isC ca w)   {M : gx_M} {v1 : Int32} {Q : gx_M → Prop} (h : T_X1_look M v1 Q) : gx_Mv l d w yX1_look cX1_look 2 rm_X1_look [.ref (gx_ad w 1), .int v1] M Q := fun sz =>
  gx_of (own := RX1) (by decide +kernel) rfl (Nat.le_of_ble_eq_true rfl) (fun z hC hl hR hsz hr => by subst hsz; exact J_X1_look hC hw hR hr  h) rfl
set_option maxRecDepth 20000 in
theorem J_X1_heldBy {z : gx_X} {d : gx_D} {w : gx_V} {ca : Nat → ClassId} (hC : gx_C z d w cX1_heldBy 2 RX1) (hw : gx_isC ca w) (hR : gx_R z = rm_X1_heldBy) (hr : (gx_me z).sig.returnType = (some .int)) {o1 : Nat} (ho1 : pk_Pr o1) {M : gx_M}  {Q : Int32 → gx_M → Prop} (h : T_X1_heldBy M o1 Q) : GW z w 2 (gx_Qi w Q (gx_s z).heap.size) M 0 [(0, .ref (gx_ad w 1)), (1, .ref (gx_ad w o1))] [] := by
  unfold T_X1_heldBy at h
  have ⟨ho1a, ho1b⟩ := ho1
  refine gw_aload_n hC dX1_heldBy_0 rfl 1 rfl ?_
  refine gw_get hC cl_X4 fg_X1_143 (gn_Pr hw ⟨by omega, by omega⟩) (gc_Pr hw ⟨by omega, by omega⟩ _) (gv_X4_3 _ _ _) dX1_heldBy_1 ?_
  refine gw_if_ne (tgt := 9) hC dX1_heldBy_4 (by decide) (fun hc => ?_) (fun hc => ?_)
  · have h := gx_f h hc
    refine gw_iconst (v := 0) hC dX1_heldBy_9 (by decide) ?_
    refine gw_aload_n hC dX1_heldBy_10 rfl 0 rfl ?_
    refine gw_get hC cl_X1 fg_X1_32 (hw.lt (by decide)) (gc_1 hw _) (gv_X1_3 _ _ _) dX1_heldBy_11 ?_
    refine gw_aload_n hC dX1_heldBy_14 rfl 1 rfl ?_
    refine gw_get hC cl_X4 fg_X1_146 (gn_Pr hw ⟨by omega, by omega⟩) (gc_Pr hw ⟨by omega, by omega⟩ _) (gv_X4_1 _ _ _) dX1_heldBy_15 ?_
    refine gw_rr (o' := 12 + o1) (by omega) ?_
    have hq1 : pk_a3 (12 + o1) := by have := gk_ho (o := o1) ⟨by omega, by omega⟩; rwa [show o1 + 12 = 12 + o1 by omega] at this
    refine gw_aload_n hC dX1_heldBy_18 rfl 1 rfl ?_
    refine gw_get hC cl_X4 fg_X1_143 (gn_Pr hw ⟨by omega, by omega⟩) (gc_Pr hw ⟨by omega, by omega⟩ _) (gv_X4_3 _ _ _) dX1_heldBy_19 ?_
    refine gw_calli (gx_rV hC (n := 2) (As := [.ref (gx_ad w (12 + o1)), .int (M o1 3)]) (rest := [.int 0]) (fun sz => c_X0_answer hw hq1 h sz) cv_X1_113_X0_answer (by rw [hR]; exact rr_X1_heldBy_X0_answer) ⟨(hw.lt (by decide)), _, _, _, _, gc_2 hw _, cl_X0.1⟩ rfl rfl (Nat.le_of_ble_eq_true rfl) dX1_heldBy_22) ?_
    intro r3 M2 h
    refine gw_sipush (v := 9999) hC dX1_heldBy_25 (by decide) ?_
    refine gw_mmin hC cm_X1_149 cm_st_min cm_ini cm_co_min (by rw [hR]; decide) (by rw [hR]; exact Nat.le_of_ble_eq_true rfl) dX1_heldBy_28 ?_
    refine gw_mmax hC cm_X1_154 cm_st_max cm_ini cm_co_max (by rw [hR]; decide) (by rw [hR]; exact Nat.le_of_ble_eq_true rfl) dX1_heldBy_31 ?_
    exact gw_iret hC hr dX1_heldBy_34 h
  · have h := gx_t h hc
    refine gw_iconst (v := 0) hC dX1_heldBy_7 (by decide) ?_
    exact gw_iret hC hr dX1_heldBy_8 h
theorem c_X1_heldBy {l : Launch} {d : gx_D} {w : gx_V} {ca : Nat → ClassId} (hw : gx_isC ca w) {o1 : Nat} (ho1 : pk_Pr o1) {M : gx_M}  {Q : Int32 → gx_M → Prop} (h : T_X1_heldBy M o1 Q) : gx_Mi l d w yX1_heldBy cX1_heldBy 2 .int rm_X1_heldBy [.ref (gx_ad w 1), .ref (gx_ad w o1)] M Q := fun sz =>
  gx_of (own := RX1) (by decide +kernel) rfl (Nat.le_of_ble_eq_true rfl) (fun z hC hl hR hsz hr => by subst hsz; exact J_X1_heldBy hC hw hR hr ho1 h) rfl
set_option maxRecDepth 20000 in
theorem J_X1_next_39 {z : gx_X} {d : gx_D} {w : gx_V} {ca : Nat → ClassId} (hC : gx_C z d w cX1_next 4 RX1) (hw : gx_isC ca w) (hR : gx_R z = rm_X1_next) (hr : (gx_me z).sig.returnType = (some .boolean))  {Q : Int32 → gx_M → Prop} {K10 : gx_M → Int32 → Nat → Int32 → Prop} {K64 : gx_M → Nat → Int32 → Prop} (hK10 : ∀ (M : gx_M) (v1 : Int32) (o2 : Nat) (v3 : Int32) (ho2 : pk_Pr o2), K10 M v1 o2 v3 → GW z w 4 (gx_Qi w Q (gx_s z).heap.size) M 10 [(0, .ref (gx_ad w 1)), (1, .int v1), (2, .ref (gx_ad w o2)), (3, .int v3)] []) (hK64 : ∀ (M : gx_M) (o2 : Nat) (v3 : Int32) (ho2 : pk_Pr o2), K64 M o2 v3 → GW z w 4 (gx_Qi w Q (gx_s z).heap.size) M 64 [(0, .ref (gx_ad w 1)), (2, .ref (gx_ad w o2)), (3, .int v3)] []) (M : gx_M) (v1 : Int32) (o2 : Nat) (v3 : Int32) (ho2 : pk_Pr o2) (h : T_X1_next_39 Q K10 K64 M v1 o2 v3) : GW z w 4 (gx_Qi w Q (gx_s z).heap.size) M 39 [(0, .ref (gx_ad w 1)), (1, .int v1), (2, .ref (gx_ad w o2)), (3, .int v3)] [] := by
  unfold T_X1_next_39 at h
  have ⟨ho2a, ho2b⟩ := ho2
  refine gw_aload_n hC dX1_next_39 rfl 2 rfl ?_
  refine gw_get hC cl_X4 fg_X1_106 (gn_Pr hw ⟨by omega, by omega⟩) (gc_Pr hw ⟨by omega, by omega⟩ _) (gv_X4_2 _ _ _) dX1_next_40 ?_
  refine gw_if_eq (tgt := 64) hC dX1_next_43 (by decide) (fun hc => ?_) (fun hc => ?_)
  · have h := gx_t h hc
    refine gw_sub (lv' := [(0, .ref (gx_ad w 1)), (2, .ref (gx_ad w o2)), (3, .int v3)]) [0, 2, 3] rfl ?_
    exact hK64 M o2 v3 ⟨by omega, by omega⟩ h
  · have h := gx_f h hc
    refine gw_aload_n hC dX1_next_46 rfl 0 rfl ?_
    refine gw_get hC cl_X1 fg_X1_32 (hw.lt (by decide)) (gc_1 hw _) (gv_X1_3 _ _ _) dX1_next_47 ?_
    refine gw_aload_n hC dX1_next_50 rfl 2 rfl ?_
    refine gw_get hC cl_X4 fg_X1_109 (gn_Pr hw ⟨by omega, by omega⟩) (gc_Pr hw ⟨by omega, by omega⟩ _) (gv_X4_0 _ _ _) dX1_next_51 ?_
    refine gw_rr (o' := 6 + o2) (by omega) ?_
    have hq6 : pk_a3 (6 + o2) := by have := gk_be (o := o2) ⟨by omega, by omega⟩; rwa [show o2 + 6 = 6 + o2 by omega] at this
    refine gw_aload_n hC dX1_next_54 rfl 2 rfl ?_
    refine gw_get hC cl_X4 fg_X1_106 (gn_Pr hw ⟨by omega, by omega⟩) (gc_Pr hw ⟨by omega, by omega⟩ _) (gv_X4_2 _ _ _) dX1_next_55 ?_
    refine gw_calli (gx_rV hC (n := 2) (As := [.ref (gx_ad w (6 + o2)), .int (M o2 2)]) (rest := []) (fun sz => c_X0_answer hw hq6 h sz) cv_X1_113_X0_answer (by rw [hR]; exact rr_X1_next_X0_answer) ⟨(hw.lt (by decide)), _, _, _, _, gc_2 hw _, cl_X0.1⟩ rfl rfl (Nat.le_of_ble_eq_true rfl) dX1_next_58) ?_
    intro r8 M7 h
    refine gw_if_eq (tgt := 114) hC dX1_next_61 (by decide) (fun hc => ?_) (fun hc => ?_)
    · have h := gx_t h hc
      obtain ⟨x9, hx9⟩ : ∃ y : Int32, y = v3 + 1 := ⟨_, rfl⟩
      have h := h x9 hx9
      refine gw_iinc (v := x9) (lv' := [(3, .int x9), (0, .ref (gx_ad w 1)), (1, .int v1), (2, .ref (gx_ad w o2))]) hC dX1_next_114 (k := 3) rfl (by rw [hx9]; rfl) (by decide) rfl ?_
      refine gw_goto (tgt := 10) hC dX1_next_117 (by decide) ?_
      refine gw_sub (lv' := [(0, .ref (gx_ad w 1)), (1, .int v1), (2, .ref (gx_ad w o2)), (3, .int x9)]) [1, 2, 3, 0] rfl ?_
      exact hK10 M7 v1 o2 x9 ⟨by omega, by omega⟩ h
    · have h := gx_f h hc
      refine gw_sub (lv' := [(0, .ref (gx_ad w 1)), (2, .ref (gx_ad w o2)), (3, .int v3)]) [0, 2, 3] rfl ?_
      exact hK64 M7 o2 v3 ⟨by omega, by omega⟩ h
set_option maxRecDepth 20000 in
theorem J_X1_next_10 {z : gx_X} {d : gx_D} {w : gx_V} {ca : Nat → ClassId} (hC : gx_C z d w cX1_next 4 RX1) (hw : gx_isC ca w) (hR : gx_R z = rm_X1_next) (hr : (gx_me z).sig.returnType = (some .boolean))  {Q : Int32 → gx_M → Prop} {K64 : gx_M → Nat → Int32 → Prop} {K120 : gx_M → Prop} (hK64 : ∀ (M : gx_M) (o2 : Nat) (v3 : Int32) (ho2 : pk_Pr o2), K64 M o2 v3 → GW z w 4 (gx_Qi w Q (gx_s z).heap.size) M 64 [(0, .ref (gx_ad w 1)), (2, .ref (gx_ad w o2)), (3, .int v3)] []) (hK120 : ∀ (M : gx_M), K120 M → GW z w 4 (gx_Qi w Q (gx_s z).heap.size) M 120 [] []) : ∀ (n : Nat) (M : gx_M) (v1 : Int32) (o2 : Nat) (v3 : Int32) (ho2 : pk_Pr o2), T_X1_next_10 Q K64 K120 n M v1 o2 v3 → GW z w 4 (gx_Qi w Q (gx_s z).heap.size) M 10 [(0, .ref (gx_ad w 1)), (1, .int v1), (2, .ref (gx_ad w o2)), (3, .int v3)] [] := by
  intro n
  induction n with
  | zero =>
    intro M v1 o2 v3 ho2 h
    exact h.elim
  | succ n ih =>
    intro M v1 o2 v3 ho2 h
    rw [T_X1_next_10] at h
    have ⟨ho2a, ho2b⟩ := ho2
    refine gw_iload_n hC dX1_next_10 rfl 3 rfl ?_
    refine gw_iload_n hC dX1_next_11 rfl 1 rfl ?_
    refine gw_icmp_ge (tgt := 120) hC dX1_next_12 (by decide) (fun hc => ?_) (fun hc => ?_)
    · have h := gx_t h hc
      refine gw_sub (lv' := []) [] rfl ?_
      exact hK120 M h
    · have h := gx_f h hc
      refine gw_iload_n hC dX1_next_15 rfl 3 rfl ?_
      refine gw_sipush (v := 2000) hC dX1_next_16 (by decide) ?_
      refine gw_icmp_ge (tgt := 120) hC dX1_next_19 (by decide) (fun hc => ?_) (fun hc => ?_)
      · have h := gx_t h hc
        refine gw_sub (lv' := []) [] rfl ?_
        exact hK120 M h
      · have h := gx_f h hc
        refine gw_aload_n hC dX1_next_22 rfl 2 rfl ?_
        refine gw_calli (gx_rV hC (n := 0) (As := []) (rest := []) (fun sz => c_X4_isEmpty hw ⟨by omega, by omega⟩ h sz) cv_X1_99_X4_isEmpty (by rw [hR]; exact rr_X1_next_X4_isEmpty) ⟨(gn_Pr hw ⟨by omega, by omega⟩), _, _, _, _, gc_Pr hw ⟨by omega, by omega⟩ _, cl_X4.1⟩ rfl rfl (Nat.le_of_ble_eq_true rfl) dX1_next_23) ?_
        intro r4 m5 ⟨hm5, h⟩
        rw [hm5]
        refine gw_if_ne (tgt := 39) hC dX1_next_26 (by decide) (fun hc => ?_) (fun hc => ?_)
        · have h := gx_f h hc
          exact J_X1_next_39 hC hw hR hr ih hK64 M v1 o2 v3 ⟨by omega, by omega⟩ h
        · have h := gx_t h hc
          refine gw_aload_n hC dX1_next_29 rfl 0 rfl ?_
          refine gw_iload_n hC dX1_next_30 rfl 3 rfl ?_
          refine gw_callv (gx_rV hC (n := 1) (As := [.int v3]) (rest := []) (fun sz => c_X1_traceTo hw  h sz) cv_X1_88_X1_traceTo (by rw [hR]; exact rr_X1_next_X1_traceTo) ⟨(hw.lt (by decide)), _, _, _, _, gc_1 hw _, cl_X1.1⟩ rfl rfl (Nat.le_of_ble_eq_true rfl) dX1_next_31) ?_
          intro M10 h
          refine gw_aload_n hC dX1_next_34 rfl 0 rfl ?_
          refine gw_iload_n hC dX1_next_35 rfl 3 rfl ?_
          refine gw_callv (gx_rV hC (n := 1) (As := [.int v3]) (rest := []) (fun sz => c_X1_look hw  h sz) cv_X1_103_X1_look (by rw [hR]; exact rr_X1_next_X1_look) ⟨(hw.lt (by decide)), _, _, _, _, gc_1 hw _, cl_X1.1⟩ rfl rfl (Nat.le_of_ble_eq_true rfl) dX1_next_36) ?_
          intro M11 h
          exact J_X1_next_39 hC hw hR hr ih hK64 M11 v1 o2 v3 ⟨by omega, by omega⟩ h
set_option maxRecDepth 20000 in
theorem J_X1_next_64 {z : gx_X} {d : gx_D} {w : gx_V} {ca : Nat → ClassId} (hC : gx_C z d w cX1_next 4 RX1) (hw : gx_isC ca w) (hR : gx_R z = rm_X1_next) (hr : (gx_me z).sig.returnType = (some .boolean))  {Q : Int32 → gx_M → Prop}   (M : gx_M) (o2 : Nat) (v3 : Int32) (ho2 : pk_Pr o2) (h : T_X1_next_64 Q  M o2 v3) : GW z w 4 (gx_Qi w Q (gx_s z).heap.size) M 64 [(0, .ref (gx_ad w 1)), (2, .ref (gx_ad w o2)), (3, .int v3)] [] := by
  unfold T_X1_next_64 at h
  have ⟨ho2a, ho2b⟩ := ho2
  refine gw_aload_n hC dX1_next_64 rfl 0 rfl ?_
  refine gw_iload_n hC dX1_next_65 rfl 2 rfl ?_
  refine gw_aload_n hC dX1_next_66 rfl 0 rfl ?_
  refine gw_get hC cl_X1 fg_X1_12 (hw.lt (by decide)) (gc_1 hw _) (gv_X1_0 _ _ _) dX1_next_67 ?_
  refine gw_get hC cl_X8 fg_X1_117 (hw.lt (by decide)) (gc_Se hw (by decide) _) (gv_X8_4 _ _ _) dX1_next_70 ?_
  refine gw_iadd hC dX1_next_73 ?_
  refine gw_put hC cl_X1 fp_X1_51 (hw.lt (by decide)) (gc_1 hw _) ((gc_1 hw _).trans (gs_X1_8 _ _ _ _)) rfl rfl (by simp [fs_X1]) dX1_next_74 ?_
  refine gw_nmM (fun M16 hM16 => ?_)
  have h := h M16 hM16
  refine gw_aload_n hC dX1_next_77 rfl 0 rfl ?_
  refine gw_aload_n hC dX1_next_78 rfl 0 rfl ?_
  refine gw_get hC cl_X1 fg_X1_51 (hw.lt (by decide)) (gc_1 hw _) (gv_X1_8 _ _ _) dX1_next_79 ?_
  refine gw_bipush (v := 20) hC dX1_next_82 (by decide) ?_
  refine gw_aload_n hC dX1_next_84 rfl 0 rfl ?_
  refine gw_get hC cl_X1 fg_X1_12 (hw.lt (by decide)) (gc_1 hw _) (gv_X1_0 _ _ _) dX1_next_85 ?_
  refine gw_get hC cl_X8 fg_X1_120 (hw.lt (by decide)) (gc_Se hw (by decide) _) (gv_X8_3 _ _ _) dX1_next_88 ?_
  refine gw_imul hC dX1_next_91 ?_
  refine gw_iadd hC dX1_next_92 ?_
  refine gw_aload_n hC dX1_next_93 rfl 0 rfl ?_
  refine gw_aload_n hC dX1_next_94 rfl 1 rfl ?_
  refine gw_calli (gx_rV hC (n := 1) (As := [.ref (gx_ad w o2)]) (rest := [.int ((M16 1 8) + (20 * (M16 34 3))), .ref (gx_ad w 1)]) (fun sz => c_X1_heldBy hw ⟨by omega, by omega⟩ h sz) cv_X1_123_X1_heldBy (by rw [hR]; exact rr_X1_next_X1_heldBy) ⟨(hw.lt (by decide)), _, _, _, _, gc_1 hw _, cl_X1.1⟩ rfl rfl (Nat.le_of_ble_eq_true rfl) dX1_next_95) ?_
  intro r18 M17 h
  refine gw_iadd hC dX1_next_98 ?_
  refine gw_put hC cl_X1 fp_X1_45 (hw.lt (by decide)) (gc_1 hw _) ((gc_1 hw _).trans (gs_X1_6 _ _ _ _)) rfl rfl (by simp [fs_X1]) dX1_next_99 ?_
  refine gw_nmM (fun M19 hM19 => ?_)
  have h := h M19 hM19
  refine gw_aload_n hC dX1_next_102 rfl 0 rfl ?_
  refine gw_dup hC dX1_next_103 rfl ?_
  refine gw_get hC cl_X1 fg_X1_48 (hw.lt (by decide)) (gc_1 hw _) (gv_X1_7 _ _ _) dX1_next_104 ?_
  refine gw_iconst (v := 1) hC dX1_next_107 (by decide) ?_
  refine gw_iadd hC dX1_next_108 ?_
  refine gw_put hC cl_X1 fp_X1_48 (hw.lt (by decide)) (gc_1 hw _) ((gc_1 hw _).trans (gs_X1_7 _ _ _ _)) rfl rfl (by simp [fs_X1]) dX1_next_109 ?_
  refine gw_nmM (fun M20 hM20 => ?_)
  have h := h M20 hM20
  refine gw_iconst (v := 1) hC dX1_next_112 (by decide) ?_
  exact gw_zret hC hr rfl dX1_next_113 h
set_option maxRecDepth 20000 in
theorem J_X1_next {z : gx_X} {d : gx_D} {w : gx_V} {ca : Nat → ClassId} (hC : gx_C z d w cX1_next 4 RX1) (hw : gx_isC ca w) (hR : gx_R z = rm_X1_next) (hr : (gx_me z).sig.returnType = (some .boolean))   {M : gx_M} {v1 : Int32} {Q : Int32 → gx_M → Prop} (h : T_X1_next M v1 Q) : GW z w 4 (gx_Qi w Q (gx_s z).heap.size) M 0 [(0, .ref (gx_ad w 1)), (1, .int v1)] [] := by
  unfold T_X1_next at h
  refine gw_aload_n hC dX1_next_0 rfl 0 rfl ?_
  refine gw_callr (gx_rV hC (n := 0) (As := []) (rest := []) (fun sz => c_X1_told hw  h sz) cv_X1_95_X1_told (by rw [hR]; exact rr_X1_next_X1_told) ⟨(hw.lt (by decide)), _, _, _, _, gc_1 hw _, cl_X1.1⟩ rfl rfl (Nat.le_of_ble_eq_true rfl) dX1_next_1) ?_
  intro r1 m2 ⟨hm2, h⟩
  rw [hm2]
  obtain ⟨⟨hkr1a, hkr1b⟩, h⟩ := h
  refine gw_astore_n (lv' := [(2, .ref (gx_ad w r1)), (0, .ref (gx_ad w 1)), (1, .int v1)]) hC dX1_next_4 rfl (by decide) rfl ?_
  refine gw_aload_n hC dX1_next_5 rfl 1 rfl ?_
  refine gw_get hC cl_X1 fg_X1_45 (hw.lt (by decide)) (gc_1 hw _) (gv_X1_6 _ _ _) dX1_next_6 ?_
  refine gw_nm (fun x3 hx3 => ?_)
  have h := h x3 hx3
  refine gw_istore_n (lv' := [(3, .int x3), (2, .ref (gx_ad w r1)), (0, .ref (gx_ad w 1)), (1, .int v1)]) hC dX1_next_9 rfl (by decide) rfl ?_
  obtain ⟨k12, h⟩ := h
  refine gw_sub (lv' := [(0, .ref (gx_ad w 1)), (1, .int v1), (2, .ref (gx_ad w r1)), (3, .int x3)]) [2, 3, 1, 0] rfl ?_
  exact J_X1_next_10 hC hw hR hr (fun M15 o2_13 v3_14 ho2_13 h => by
      have ⟨ho2_13a, ho2_13b⟩ := ho2_13
      exact J_X1_next_64 hC hw hR hr  M15 o2_13 v3_14 ⟨by omega, by omega⟩ h) (fun M21 h => by
      refine gw_iconst (v := 0) hC dX1_next_120 (by decide) ?_
      exact gw_zret hC hr rfl dX1_next_121 h) k12 M v1 r1 x3 ⟨by omega, by omega⟩ h
theorem c_X1_next {l : Launch} {d : gx_D} {w : gx_V} {ca : Nat → ClassId} (hw : gx_isC ca w)   {M : gx_M} {v1 : Int32} {Q : Int32 → gx_M → Prop} (h : T_X1_next M v1 Q) : gx_Mi l d w yX1_next cX1_next 4 .boolean rm_X1_next [.ref (gx_ad w 1), .int v1] M Q := fun sz =>
  gx_of (own := RX1) (by decide +kernel) rfl (Nat.le_of_ble_eq_true rfl) (fun z hC hl hR hsz hr => by subst hsz; exact J_X1_next hC hw hR hr  h) rfl
set_option maxRecDepth 20000 in
theorem J_X7_darken_2 {z : gx_X} {d : gx_D} {w : gx_V} {ca : Nat → ClassId} (hC : gx_C z d w cX7_darken 2 RX7) (hw : gx_isC ca w) (hR : gx_R z = rm_X7_darken) (hr : (gx_me z).sig.returnType = none)  {Q : gx_M → Prop}   : ∀ (n : Nat) (M : gx_M) (v1 : Int32) , T_X7_darken_2 Q  n M v1 → GW z w 2 (gx_Qv w Q (gx_s z).heap.size) M 2 [(0, .ref (gx_ad w 8)), (1, .int v1)] [] := by
  intro n
  induction n with
  | zero =>
    intro M v1 h
    exact h.elim
  | succ n ih =>
    intro M v1 h
    rw [T_X7_darken_2] at h
    refine gw_iload_n hC dX7_darken_2 rfl 1 rfl ?_
    refine gw_aload_n hC dX7_darken_3 rfl 0 rfl ?_
    refine gw_get hC cl_X7 fg_X7_9 (hw.lt (by decide)) (gc_8 hw _) (gv_X7_0 _ _ _) dX7_darken_4 ?_
    refine gw_alen (v := 320) hC (hw.lt (by decide)) (gc_9 hw _) (gt_0 hw) rfl dX7_darken_7 ?_
    refine gw_icmp_ge (tgt := 24) hC dX7_darken_8 (by decide) (fun hc => ?_) (fun hc => ?_)
    · have h := gx_t h hc
      exact gw_vret hC hr dX7_darken_24 h
    · have h := gx_f h hc
      refine gw_aload_n hC dX7_darken_11 rfl 0 rfl ?_
      refine gw_get hC cl_X7 fg_X7_9 (hw.lt (by decide)) (gc_8 hw _) (gv_X7_0 _ _ _) dX7_darken_12 ?_
      refine gw_iload_n hC dX7_darken_15 rfl 1 rfl ?_
      refine gw_iconst (v := 0) hC dX7_darken_16 (by decide) ?_
      obtain ⟨hi, h⟩ := h
      refine gw_iast hC (hw.lt (by decide)) (gc_9 hw) (gt_0 hw) hi dX7_darken_17 ?_
      refine gw_nmM (fun M1 hM1 => ?_)
      have h := h M1 hM1
      obtain ⟨x2, hx2⟩ : ∃ y : Int32, y = v1 + 1 := ⟨_, rfl⟩
      have h := h x2 hx2
      refine gw_iinc (v := x2) (lv' := [(1, .int x2), (0, .ref (gx_ad w 8))]) hC dX7_darken_18 (k := 1) rfl (by rw [hx2]; rfl) (by decide) rfl ?_
      refine gw_goto (tgt := 2) hC dX7_darken_21 (by decide) ?_
      refine gw_sub (lv' := [(0, .ref (gx_ad w 8)), (1, .int x2)]) [1, 0] rfl ?_
      exact ih M1 x2 h
set_option maxRecDepth 20000 in
theorem J_X7_darken {z : gx_X} {d : gx_D} {w : gx_V} {ca : Nat → ClassId} (hC : gx_C z d w cX7_darken 2 RX7) (hw : gx_isC ca w) (hR : gx_R z = rm_X7_darken) (hr : (gx_me z).sig.returnType = none)   {M : gx_M}  {Q : gx_M → Prop} (h : T_X7_darken M  Q) : GW z w 2 (gx_Qv w Q (gx_s z).heap.size) M 0 [(0, .ref (gx_ad w 8))] [] := by
  unfold T_X7_darken at h
  refine gw_iconst (v := 0) hC dX7_darken_0 (by decide) ?_
  refine gw_istore_n (lv' := [(1, .int 0), (0, .ref (gx_ad w 8))]) hC dX7_darken_1 rfl (by decide) rfl ?_
  obtain ⟨k3, h⟩ := h
  refine gw_sub (lv' := [(0, .ref (gx_ad w 8)), (1, .int 0)]) [1, 0] rfl ?_
  exact J_X7_darken_2 hC hw hR hr  k3 M 0 h
theorem c_X7_darken {l : Launch} {d : gx_D} {w : gx_V} {ca : Nat → ClassId} (hw : gx_isC ca w)   {M : gx_M}  {Q : gx_M → Prop} (h : T_X7_darken M  Q) : gx_Mv l d w yX7_darken cX7_darken 2 rm_X7_darken [.ref (gx_ad w 8)] M Q := fun sz =>
  gx_of (own := RX7) (by decide +kernel) rfl (Nat.le_of_ble_eq_true rfl) (fun z hC hl hR hsz hr => by subst hsz; exact J_X7_darken hC hw hR hr  h) rfl
set_option maxRecDepth 20000 in
theorem J_X7_dim_2 {z : gx_X} {d : gx_D} {w : gx_V} {ca : Nat → ClassId} (hC : gx_C z d w cX7_dim 3 RX7) (hw : gx_isC ca w) (hR : gx_R z = rm_X7_dim) (hr : (gx_me z).sig.returnType = none)  {Q : gx_M → Prop}   : ∀ (n : Nat) (M : gx_M) (v1 : Int32) (v2 : Int32) , T_X7_dim_2 Q  n M v1 v2 → GW z w 3 (gx_Qv w Q (gx_s z).heap.size) M 2 [(0, .ref (gx_ad w 8)), (1, .int v1), (2, .int v2)] [] := by
  intro n
  induction n with
  | zero =>
    intro M v1 v2 h
    exact h.elim
  | succ n ih =>
    intro M v1 v2 h
    rw [T_X7_dim_2] at h
    refine gw_iload_n hC dX7_dim_2 rfl 2 rfl ?_
    refine gw_aload_n hC dX7_dim_3 rfl 0 rfl ?_
    refine gw_get hC cl_X7 fg_X7_9 (hw.lt (by decide)) (gc_8 hw _) (gv_X7_0 _ _ _) dX7_dim_4 ?_
    refine gw_alen (v := 320) hC (hw.lt (by decide)) (gc_9 hw _) (gt_0 hw) rfl dX7_dim_7 ?_
    refine gw_icmp_ge (tgt := 34) hC dX7_dim_8 (by decide) (fun hc => ?_) (fun hc => ?_)
    · have h := gx_t h hc
      exact gw_vret hC hr dX7_dim_34 h
    · have h := gx_f h hc
      refine gw_aload_n hC dX7_dim_11 rfl 0 rfl ?_
      refine gw_get hC cl_X7 fg_X7_9 (hw.lt (by decide)) (gc_8 hw _) (gv_X7_0 _ _ _) dX7_dim_12 ?_
      refine gw_iload_n hC dX7_dim_15 rfl 2 rfl ?_
      refine gw_aload_n hC dX7_dim_16 rfl 0 rfl ?_
      refine gw_get hC cl_X7 fg_X7_9 (hw.lt (by decide)) (gc_8 hw _) (gv_X7_0 _ _ _) dX7_dim_17 ?_
      refine gw_iload_n hC dX7_dim_20 rfl 2 rfl ?_
      obtain ⟨hi, h⟩ := h
      refine gw_iald hC (hw.lt (by decide)) (gc_9 hw _) (gt_0 hw) hi dX7_dim_21 ?_
      refine gw_iload_n hC dX7_dim_22 rfl 1 rfl ?_
      refine gw_imul hC dX7_dim_23 ?_
      refine gw_bipush (v := 16) hC dX7_dim_24 (by decide) ?_
      refine gw_idiv hC dX7_dim_26 (by decide) ?_
      obtain ⟨hi, h⟩ := h
      refine gw_iast hC (hw.lt (by decide)) (gc_9 hw) (gt_0 hw) hi dX7_dim_27 ?_
      refine gw_nmM (fun M1 hM1 => ?_)
      have h := h M1 hM1
      obtain ⟨x2, hx2⟩ : ∃ y : Int32, y = v2 + 1 := ⟨_, rfl⟩
      have h := h x2 hx2
      refine gw_iinc (v := x2) (lv' := [(2, .int x2), (0, .ref (gx_ad w 8)), (1, .int v1)]) hC dX7_dim_28 (k := 2) rfl (by rw [hx2]; rfl) (by decide) rfl ?_
      refine gw_goto (tgt := 2) hC dX7_dim_31 (by decide) ?_
      refine gw_sub (lv' := [(0, .ref (gx_ad w 8)), (1, .int v1), (2, .int x2)]) [1, 2, 0] rfl ?_
      exact ih M1 v1 x2 h
set_option maxRecDepth 20000 in
theorem J_X7_dim {z : gx_X} {d : gx_D} {w : gx_V} {ca : Nat → ClassId} (hC : gx_C z d w cX7_dim 3 RX7) (hw : gx_isC ca w) (hR : gx_R z = rm_X7_dim) (hr : (gx_me z).sig.returnType = none)   {M : gx_M} {v1 : Int32} {Q : gx_M → Prop} (h : T_X7_dim M v1 Q) : GW z w 3 (gx_Qv w Q (gx_s z).heap.size) M 0 [(0, .ref (gx_ad w 8)), (1, .int v1)] [] := by
  unfold T_X7_dim at h
  refine gw_iconst (v := 0) hC dX7_dim_0 (by decide) ?_
  refine gw_istore_n (lv' := [(2, .int 0), (0, .ref (gx_ad w 8)), (1, .int v1)]) hC dX7_dim_1 rfl (by decide) rfl ?_
  obtain ⟨k3, h⟩ := h
  refine gw_sub (lv' := [(0, .ref (gx_ad w 8)), (1, .int v1), (2, .int 0)]) [1, 2, 0] rfl ?_
  exact J_X7_dim_2 hC hw hR hr  k3 M v1 0 h
theorem c_X7_dim {l : Launch} {d : gx_D} {w : gx_V} {ca : Nat → ClassId} (hw : gx_isC ca w)   {M : gx_M} {v1 : Int32} {Q : gx_M → Prop} (h : T_X7_dim M v1 Q) : gx_Mv l d w yX7_dim cX7_dim 3 rm_X7_dim [.ref (gx_ad w 8), .int v1] M Q := fun sz =>
  gx_of (own := RX7) (by decide +kernel) rfl (Nat.le_of_ble_eq_true rfl) (fun z hC hl hR hsz hr => by subst hsz; exact J_X7_dim hC hw hR hr  h) rfl
set_option maxRecDepth 20000 in
theorem J_J9_floorDiv_7cf53 {z : gx_X} {d : gx_D} {w : gx_V} {ca : Nat → ClassId} (hC : gx_C z d w cJ9_floorDiv_7cf53 3 RJ9) (hw : gx_isC ca w) (hR : gx_R z = rm_J9_floorDiv_7cf53) (hr : (gx_me z).sig.returnType = (some .int))   {M : gx_M} {v0 : Int32} {v1 : Int32} {Q : Int32 → Prop} (h : T_J9_floorDiv_7cf53  v0 v1 Q) : GW z w 3 (gx_Qi w (fun r M1 => M1 = M ∧ Q r) (gx_s z).heap.size) M 0 [(0, .int v0), (1, .int v1)] [] := by
  unfold T_J9_floorDiv_7cf53 at h
  refine gw_iload_n hC dJ9_floorDiv_7cf53_0 rfl 0 rfl ?_
  refine gw_iload_n hC dJ9_floorDiv_7cf53_1 rfl 1 rfl ?_
  obtain ⟨hz, h⟩ := h
  refine gw_idiv hC dJ9_floorDiv_7cf53_2 hz ?_
  refine gw_nm (fun x1 hx1 => ?_)
  have h := h x1 hx1
  refine gw_istore_n (lv' := [(2, .int x1), (0, .int v0), (1, .int v1)]) hC dJ9_floorDiv_7cf53_3 rfl (by decide) rfl ?_
  refine gw_iload_n hC dJ9_floorDiv_7cf53_4 rfl 1 rfl ?_
  refine gw_iload_n hC dJ9_floorDiv_7cf53_5 rfl 2 rfl ?_
  refine gw_ixor hC dJ9_floorDiv_7cf53_6 ?_
  refine gw_if_ge (tgt := 21) hC dJ9_floorDiv_7cf53_7 (by decide) (fun hc => ?_) (fun hc => ?_)
  · have h := gx_t h hc
    refine gw_iload_n hC dJ9_floorDiv_7cf53_21 rfl 0 rfl ?_
    exact gw_iret hC hr dJ9_floorDiv_7cf53_22 ⟨rfl, h⟩
  · have h := gx_f h hc
    refine gw_iload_n hC dJ9_floorDiv_7cf53_10 rfl 0 rfl ?_
    refine gw_iload_n hC dJ9_floorDiv_7cf53_11 rfl 2 rfl ?_
    refine gw_imul hC dJ9_floorDiv_7cf53_12 ?_
    refine gw_iload_n hC dJ9_floorDiv_7cf53_13 rfl 1 rfl ?_
    refine gw_icmp_eq (tgt := 21) hC dJ9_floorDiv_7cf53_14 (by decide) (fun hc => ?_) (fun hc => ?_)
    · have h := gx_t h hc
      refine gw_iload_n hC dJ9_floorDiv_7cf53_21 rfl 0 rfl ?_
      exact gw_iret hC hr dJ9_floorDiv_7cf53_22 ⟨rfl, h⟩
    · have h := gx_f h hc
      refine gw_iload_n hC dJ9_floorDiv_7cf53_17 rfl 0 rfl ?_
      refine gw_iconst (v := 1) hC dJ9_floorDiv_7cf53_18 (by decide) ?_
      refine gw_isub hC dJ9_floorDiv_7cf53_19 ?_
      exact gw_iret hC hr dJ9_floorDiv_7cf53_20 ⟨rfl, h⟩
theorem c_J9_floorDiv_7cf53 {l : Launch} {d : gx_D} {w : gx_V} {ca : Nat → ClassId} (hw : gx_isC ca w)   {M : gx_M} {v0 : Int32} {v1 : Int32} {Q : Int32 → Prop} (h : T_J9_floorDiv_7cf53  v0 v1 Q) : gx_Mi l d w yJ9_floorDiv_7cf53 cJ9_floorDiv_7cf53 3 .int rm_J9_floorDiv_7cf53 [.int v0, .int v1] M (fun r M1 => M1 = M ∧ Q r) := fun sz =>
  gx_ofF (own := RJ9) (by decide +kernel) rfl (Nat.le_of_ble_eq_true rfl) (fun z hC hl hR hsz hr => by subst hsz; exact J_J9_floorDiv_7cf53 hC hw hR hr  h) rfl
