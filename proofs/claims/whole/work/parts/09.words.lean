def rm_X0_word : Room := { frames := 0, cells := 0, slots := 0, locals := 0 }
def rm_X0_bounded : Room := { frames := 0, cells := 0, slots := 0, locals := 0 }
def rm_X0_isSo : Room := { frames := 0, cells := 0, slots := 0, locals := 0 }
def rm_X0_joined : Room := { frames := 1, cells := 0, slots := 0, locals := 24 }
def rm_X0_answer : Room := { frames := 2, cells := 0, slots := 0, locals := 48 }
def rm_X1_forget : Room := { frames := 0, cells := 0, slots := 0, locals := 0 }
def rm_X10_within : Room := { frames := 0, cells := 0, slots := 0, locals := 0 }
def rm_X10_isSignal : Room := { frames := 1, cells := 0, slots := 0, locals := 22 }
def rm_X3_phase : Room := { frames := 0, cells := 0, slots := 0, locals := 0 }
def rm_X3_heightAt : Room := { frames := 1, cells := 0, slots := 0, locals := 22 }
def rm_X9_heightAt : Room := { frames := 2, cells := 0, slots := 0, locals := 43 }
def rm_X2_outBehind : Room := { frames := 0, cells := 0, slots := 0, locals := 0 }
def rm_X1_traceTo : Room := { frames := 3, cells := 0, slots := 0, locals := 66 }
def rm_X10_isChannel : Room := { frames := 1, cells := 0, slots := 0, locals := 22 }
def rm_X1_outAt : Room := { frames := 4, cells := 0, slots := 0, locals := 92 }
def rm_X1_restart : Room := { frames := 0, cells := 0, slots := 0, locals := 0 }
def rm_X1_told : Room := { frames := 1, cells := 0, slots := 0, locals := 22 }
def rm_X4_isEmpty : Room := { frames := 0, cells := 0, slots := 0, locals := 0 }
def rm_X1_look : Room := { frames := 1, cells := 0, slots := 0, locals := 22 }
def rm_X1_heldBy : Room := { frames := 3, cells := 0, slots := 0, locals := 73 }
def rm_X1_next : Room := { frames := 4, cells := 0, slots := 0, locals := 94 }
def rm_X7_darken : Room := { frames := 0, cells := 0, slots := 0, locals := 0 }
def rm_X7_dim : Room := { frames := 0, cells := 0, slots := 0, locals := 0 }
def rm_J9_floorDiv_7cf53 : Room := { frames := 0, cells := 0, slots := 0, locals := 0 }
def rm_X2_dotsFrom : Room := { frames := 1, cells := 0, slots := 0, locals := 22 }
def rm_X7_brighten : Room := { frames := 1, cells := 0, slots := 0, locals := 22 }
def rm_X1_turnAt : Room := { frames := 0, cells := 0, slots := 0, locals := 0 }
def rm_X1_drawDot : Room := { frames := 2, cells := 0, slots := 0, locals := 45 }
def rm_X1_drawSweep : Room := { frames := 3, cells := 0, slots := 0, locals := 69 }
def rm_X1_draw : Room := { frames := 5, cells := 0, slots := 0, locals := 117 }
def rm_X3_isOn : Room := { frames := 1, cells := 0, slots := 0, locals := 22 }
def rm_X1_isShown : Room := { frames := 1, cells := 0, slots := 0, locals := 21 }
def rm_X1_catches : Room := { frames := 5, cells := 0, slots := 0, locals := 117 }
def rm_X2_setProbe : Room := { frames := 0, cells := 0, slots := 0, locals := 0 }
def rm_X2_setView : Room := { frames := 0, cells := 0, slots := 0, locals := 0 }
def rm_X2_copyFrom : Room := { frames := 1, cells := 0, slots := 0, locals := 23 }
def rm_X3_set : Room := { frames := 0, cells := 0, slots := 0, locals := 0 }
def rm_X4_empty : Room := { frames := 0, cells := 0, slots := 0, locals := 0 }
def rm_X6_restart : Room := { frames := 0, cells := 0, slots := 0, locals := 0 }
def rm_X6_byteAt : Room := { frames := 0, cells := 0, slots := 0, locals := 0 }
def rm_X6_isBlank : Room := { frames := 0, cells := 0, slots := 0, locals := 0 }
def rm_X6_isLetter : Room := { frames := 1, cells := 0, slots := 0, locals := 22 }
def rm_X6_passLetters : Room := { frames := 2, cells := 0, slots := 0, locals := 42 }
def rm_X6_spells : Room := { frames := 5, cells := 0, slots := 0, locals := 140 }
def rm_X6_valueSign : Room := { frames := 6, cells := 0, slots := 0, locals := 162 }
def rm_X6_wordSign : Room := { frames := 7, cells := 0, slots := 0, locals := 182 }
def rm_X6_isDigit : Room := { frames := 1, cells := 0, slots := 0, locals := 22 }
def rm_X6_readNumber : Room := { frames := 2, cells := 0, slots := 0, locals := 42 }
def rm_X6_passesEqual : Room := { frames := 1, cells := 0, slots := 0, locals := 21 }
def rm_X6_signOf : Room := { frames := 2, cells := 0, slots := 0, locals := 41 }
def rm_X6_next : Room := { frames := 8, cells := 0, slots := 0, locals := 202 }
def rm_X5_fail : Room := { frames := 0, cells := 0, slots := 0, locals := 0 }
def rm_X5_takeFirst : Room := { frames := 1, cells := 0, slots := 0, locals := 21 }
def rm_X5_emit : Room := { frames := 0, cells := 0, slots := 0, locals := 0 }
def rm_X5_await : Room := { frames := 1, cells := 0, slots := 0, locals := 22 }
def rm_X5_openUp : Room := { frames := 2, cells := 0, slots := 0, locals := 43 }
def rm_X5_takeOne : Room := { frames := 3, cells := 0, slots := 0, locals := 64 }
def rm_X5_strength : Room := { frames := 0, cells := 0, slots := 0, locals := 0 }
def rm_X5_unwind : Room := { frames := 1, cells := 0, slots := 0, locals := 21 }
def rm_X5_awaitNext : Room := { frames := 2, cells := 0, slots := 0, locals := 44 }
def rm_X5_closeBracket : Room := { frames := 2, cells := 0, slots := 0, locals := 44 }
def rm_X5_endClause : Room := { frames := 2, cells := 0, slots := 0, locals := 44 }
def rm_X5_takeBehindOne : Room := { frames := 3, cells := 0, slots := 0, locals := 65 }
def rm_X5_take : Room := { frames := 4, cells := 0, slots := 0, locals := 86 }
def rm_X5_read : Room := { frames := 9, cells := 0, slots := 0, locals := 223 }
def rm_X7_glowOf : Room := { frames := 1, cells := 0, slots := 0, locals := 22 }
def rm_X7_bits : Room := { frames := 2, cells := 0, slots := 0, locals := 45 }
def rm_J6_bitCount_0f7a4 : Room := { frames := 0, cells := 0, slots := 0, locals := 0 }
def rm_X7_dots : Room := { frames := 3, cells := 0, slots := 0, locals := 69 }
def rm_X9_add : Room := { frames := 1, cells := 0, slots := 0, locals := 25 }
def rm_X9_copyFrom : Room := { frames := 2, cells := 0, slots := 0, locals := 50 }
def rm_X8_copyFrom : Room := { frames := 3, cells := 0, slots := 0, locals := 73 }
def rm_X10_part : Room := { frames := 2, cells := 0, slots := 0, locals := 50 }
def rm_X10_clear : Room := { frames := 2, cells := 0, slots := 0, locals := 42 }
def rm_X10_raw : Room := { frames := 3, cells := 0, slots := 0, locals := 66 }
def rm_X10_probe : Room := { frames := 2, cells := 0, slots := 0, locals := 42 }
def rm_X10_channel : Room := { frames := 2, cells := 0, slots := 0, locals := 42 }
def rm_X10_out : Room := { frames := 5, cells := 0, slots := 0, locals := 114 }
def rm_X10_base : Room := { frames := 1, cells := 0, slots := 0, locals := 22 }
def rm_X10_mode : Room := { frames := 1, cells := 0, slots := 0, locals := 22 }
def rm_X10_feedNumber : Room := { frames := 1, cells := 0, slots := 0, locals := 22 }
def rm_X10_feed : Room := { frames := 2, cells := 0, slots := 0, locals := 44 }
def rm_X10_end : Room := { frames := 1, cells := 0, slots := 0, locals := 22 }
def rm_X10_text : Room := { frames := 10, cells := 0, slots := 0, locals := 246 }
def rm_X10_fault : Room := { frames := 0, cells := 0, slots := 0, locals := 0 }
def rm_X10_by : Room := { frames := 1, cells := 0, slots := 0, locals := 22 }
def rm_X10_isSpan : Room := { frames := 1, cells := 0, slots := 0, locals := 22 }
def rm_X10_swept : Room := { frames := 5, cells := 0, slots := 0, locals := 117 }
def rm_X10_glow : Room := { frames := 6, cells := 0, slots := 0, locals := 140 }
def rm_X10_lit : Room := { frames := 6, cells := 0, slots := 0, locals := 140 }
def rm_X10_takeSamples : Room := { frames := 5, cells := 0, slots := 0, locals := 114 }
def rm_X10_guessFits : Room := { frames := 2, cells := 0, slots := 0, locals := 43 }
def rm_X10_otherwise : Room := { frames := 6, cells := 0, slots := 0, locals := 138 }
def rm_X10_caught : Room := { frames := 6, cells := 0, slots := 0, locals := 143 }
def rm_X10_photo : Room := { frames := 1, cells := 0, slots := 0, locals := 22 }
def rm_X10_copyBits : Room := { frames := 3, cells := 0, slots := 0, locals := 69 }
def rm_X10_shoot : Room := { frames := 6, cells := 0, slots := 0, locals := 140 }
def rm_X10_unlike : Room := { frames := 3, cells := 0, slots := 0, locals := 69 }
def rm_X10_settings : Room := { frames := 6, cells := 0, slots := 0, locals := 140 }
def rm_X10_lowest : Room := { frames := 5, cells := 0, slots := 0, locals := 114 }
def rm_X10_highest : Room := { frames := 5, cells := 0, slots := 0, locals := 114 }
def rm_X10_rise : Room := { frames := 5, cells := 0, slots := 0, locals := 114 }
def rm_X10_wide : Room := { frames := 5, cells := 0, slots := 0, locals := 114 }
def rm_X10_leastRise : Room := { frames := 1, cells := 0, slots := 0, locals := 21 }
def rm_X10_greatestRise : Room := { frames := 0, cells := 0, slots := 0, locals := 0 }
def rm_X10_measure : Room := { frames := 6, cells := 0, slots := 0, locals := 143 }
def rm_X10_parting : Room := { frames := 6, cells := 0, slots := 0, locals := 140 }
def rm_X10_image : Room := { frames := 4, cells := 0, slots := 0, locals := 95 }
def rm_X10_back : Room := { frames := 4, cells := 0, slots := 0, locals := 95 }
def rm_X10_aboutInputs : Room := { frames := 1, cells := 0, slots := 0, locals := 22 }
def rm_X10_about : Room := { frames := 2, cells := 0, slots := 0, locals := 43 }
def rm_X11_in : Room := { frames := 0, cells := 0, slots := 0, locals := 0 }
def rm_X11_rest : Room := { frames := 0, cells := 0, slots := 0, locals := 0 }
def rm_X11_down : Room := { frames := 1, cells := 0, slots := 0, locals := 22 }
def rm_X11_copies : Room := { frames := 0, cells := 0, slots := 0, locals := 0 }
def rm_X11_isSignal : Room := { frames := 1, cells := 0, slots := 0, locals := 22 }
def rm_X11_isChannel : Room := { frames := 1, cells := 0, slots := 0, locals := 22 }
def rm_X11_part : Room := { frames := 2, cells := 0, slots := 0, locals := 42 }
def rm_X11_clear : Room := { frames := 2, cells := 0, slots := 0, locals := 42 }
def rm_X11_phase : Room := { frames := 1, cells := 0, slots := 0, locals := 22 }
def rm_X11_partAt : Room := { frames := 2, cells := 0, slots := 0, locals := 44 }
def rm_X11_rawAt : Room := { frames := 3, cells := 0, slots := 0, locals := 67 }
def rm_X11_raw : Room := { frames := 4, cells := 0, slots := 0, locals := 91 }
def rm_X11_probe : Room := { frames := 2, cells := 0, slots := 0, locals := 42 }
def rm_X11_channel : Room := { frames := 2, cells := 0, slots := 0, locals := 42 }
def rm_X11_laysOut : Room := { frames := 4, cells := 0, slots := 0, locals := 91 }
def rm_X11_laysBoth : Room := { frames := 5, cells := 0, slots := 0, locals := 115 }
def rm_X11_out : Room := { frames := 5, cells := 0, slots := 0, locals := 115 }
def rm_X11_base : Room := { frames := 1, cells := 0, slots := 0, locals := 22 }
def rm_X11_mode : Room := { frames := 1, cells := 0, slots := 0, locals := 22 }
def rm_X11_put : Room := { frames := 0, cells := 0, slots := 0, locals := 0 }
def rm_X11_feed : Room := { frames := 1, cells := 0, slots := 0, locals := 22 }
def rm_X11_end : Room := { frames := 1, cells := 0, slots := 0, locals := 22 }
def rm_X11_isLetter : Room := { frames := 1, cells := 0, slots := 0, locals := 22 }
def rm_X11_wordOf : Room := { frames := 0, cells := 0, slots := 0, locals := 0 }
def rm_X11_next : Room := { frames := 2, cells := 0, slots := 0, locals := 42 }
def rm_X11_isSign : Room := { frames := 0, cells := 0, slots := 0, locals := 0 }
def rm_X11_isWord : Room := { frames := 0, cells := 0, slots := 0, locals := 0 }
def rm_X11_errs : Room := { frames := 0, cells := 0, slots := 0, locals := 0 }
def rm_X11_emits : Room := { frames := 0, cells := 0, slots := 0, locals := 0 }
def rm_X11_opensFrame : Room := { frames := 0, cells := 0, slots := 0, locals := 0 }
def rm_X11_top : Room := { frames := 0, cells := 0, slots := 0, locals := 0 }
def rm_X11_opensSign : Room := { frames := 3, cells := 0, slots := 0, locals := 66 }
def rm_X11_rank : Room := { frames := 0, cells := 0, slots := 0, locals := 0 }
def rm_X11_works : Room := { frames := 1, cells := 0, slots := 0, locals := 22 }
def rm_X11_waitsFor : Room := { frames := 3, cells := 0, slots := 0, locals := 66 }
def rm_X11_asks : Room := { frames := 4, cells := 0, slots := 0, locals := 87 }
def rm_X11_oneIsOver : Room := { frames := 1, cells := 0, slots := 0, locals := 22 }
def rm_X11_begins : Room := { frames := 4, cells := 0, slots := 0, locals := 87 }
def rm_X11_askIsOver : Room := { frames := 1, cells := 0, slots := 0, locals := 22 }
def rm_X11_isAsking : Room := { frames := 0, cells := 0, slots := 0, locals := 0 }
def rm_X11_clauseIsOver : Room := { frames := 3, cells := 0, slots := 0, locals := 66 }
def rm_X11_goesOn : Room := { frames := 4, cells := 0, slots := 0, locals := 87 }
def rm_X11_asksOn : Room := { frames := 4, cells := 0, slots := 0, locals := 87 }
def rm_X11_wasHold : Room := { frames := 0, cells := 0, slots := 0, locals := 0 }
def rm_X11_clause : Room := { frames := 3, cells := 0, slots := 0, locals := 66 }
def rm_X11_keepsText : Room := { frames := 0, cells := 0, slots := 0, locals := 0 }
def rm_X11_text : Room := { frames := 5, cells := 0, slots := 0, locals := 109 }
def rm_X11_fault : Room := { frames := 0, cells := 0, slots := 0, locals := 0 }
def rm_X11_bound : Room := { frames := 0, cells := 0, slots := 0, locals := 0 }
def rm_X11_worked : Room := { frames := 1, cells := 0, slots := 0, locals := 21 }
def rm_X11_tells : Room := { frames := 2, cells := 0, slots := 0, locals := 45 }
def rm_X11_by : Room := { frames := 1, cells := 0, slots := 0, locals := 22 }
def rm_X11_words : Room := { frames := 0, cells := 0, slots := 0, locals := 0 }
def rm_X11_triggers : Room := { frames := 3, cells := 0, slots := 0, locals := 69 }
def rm_X11_hold : Room := { frames := 3, cells := 0, slots := 0, locals := 69 }
def rm_X11_sweeps : Room := { frames := 4, cells := 0, slots := 0, locals := 93 }
def rm_X11_isEnd : Room := { frames := 1, cells := 0, slots := 0, locals := 22 }
def rm_X11_swept : Room := { frames := 6, cells := 0, slots := 0, locals := 135 }
def rm_X11_rowOf : Room := { frames := 2, cells := 0, slots := 0, locals := 43 }
def rm_X11_turnOf : Room := { frames := 0, cells := 0, slots := 0, locals := 0 }
def rm_X11_dotOf : Room := { frames := 3, cells := 0, slots := 0, locals := 66 }
def rm_X11_draws : Room := { frames := 4, cells := 0, slots := 0, locals := 91 }
def rm_X11_shows : Room := { frames := 6, cells := 0, slots := 0, locals := 135 }
def rm_X11_glow : Room := { frames := 7, cells := 0, slots := 0, locals := 156 }
def rm_X11_rowsOf : Room := { frames := 0, cells := 0, slots := 0, locals := 0 }
def rm_X11_dots : Room := { frames := 0, cells := 0, slots := 0, locals := 0 }
def rm_X11_isLight : Room := { frames := 1, cells := 0, slots := 0, locals := 22 }
def rm_X11_lit : Room := { frames := 7, cells := 0, slots := 0, locals := 156 }
def rm_X11_isAs : Room := { frames := 1, cells := 0, slots := 0, locals := 22 }
def rm_X11_otherwise : Room := { frames := 5, cells := 0, slots := 0, locals := 115 }
def rm_X11_catches : Room := { frames := 2, cells := 0, slots := 0, locals := 44 }
def rm_X11_caught : Room := { frames := 6, cells := 0, slots := 0, locals := 135 }
def rm_X11_photo : Room := { frames := 1, cells := 0, slots := 0, locals := 22 }
def rm_X11_shoot : Room := { frames := 7, cells := 0, slots := 0, locals := 156 }
def rm_X11_isPhoto : Room := { frames := 1, cells := 0, slots := 0, locals := 24 }
def rm_X11_gainOf : Room := { frames := 0, cells := 0, slots := 0, locals := 0 }
def rm_X11_settings : Room := { frames := 6, cells := 0, slots := 0, locals := 135 }
def rm_X11_risen : Room := { frames := 0, cells := 0, slots := 0, locals := 0 }
def rm_X11_measure : Room := { frames := 5, cells := 0, slots := 0, locals := 115 }
def rm_X11_parting : Room := { frames := 7, cells := 0, slots := 0, locals := 156 }
def rm_X11_image : Room := { frames := 1, cells := 0, slots := 0, locals := 22 }
def rm_X11_back : Room := { frames := 1, cells := 0, slots := 0, locals := 22 }
def rm_X11_about : Room := { frames := 1, cells := 0, slots := 0, locals := 22 }
theorem fg_X0_28 : gx_fl RX0 28 TX0 7 5 := ⟨by decide, gx_in 264 (by decide +kernel) (by decide +kernel)⟩
theorem fg_X0_25 : gx_fl RX0 25 TX0 7 4 := ⟨by decide, gx_in 262 (by decide +kernel) (by decide +kernel)⟩
theorem fg_X0_22 : gx_fl RX0 22 TX0 7 3 := ⟨by decide, gx_in 260 (by decide +kernel) (by decide +kernel)⟩
theorem fg_X0_19 : gx_fl RX0 19 TX0 7 2 := ⟨by decide, gx_in 258 (by decide +kernel) (by decide +kernel)⟩
theorem fg_X0_15 : gx_fl RX0 15 TX0 7 1 := ⟨by decide, gx_in 256 (by decide +kernel) (by decide +kernel)⟩
theorem fg_X0_31 : gx_fl RX0 31 TX0 7 6 := ⟨by decide, gx_in 266 (by decide +kernel) (by decide +kernel)⟩
theorem kl_X0_50 : Cond.constantLong RX0 50 1000000 ∈ gx_U := gx_in 794 (by decide +kernel) (by decide +kernel)
theorem kl_X0_53 : Cond.constantLong RX0 53 (-1000000) ∈ gx_U := gx_in 796 (by decide +kernel) (by decide +kernel)
theorem kc_X0_55 : Cond.constant RX0 55 (-1000000) ∈ gx_U := gx_in 797 (by decide +kernel) (by decide +kernel)
theorem kc_X0_52 : Cond.constant RX0 52 1000000 ∈ gx_U := gx_in 795 (by decide +kernel) (by decide +kernel)
theorem cs_X0_42_X0_bounded : gx_cS RX0 42 yX0_bounded cX0_bounded 2 1 (some .int) := ⟨⟨gx_in 791 (by decide +kernel) (by decide +kernel), gx_in 792 (by decide +kernel) (by decide +kernel), gx_in 63 (by decide +kernel) (by decide +kernel), gx_in 793 (by decide +kernel) (by decide +kernel)⟩, by decide, by decide, by decide +kernel⟩
theorem rr_X0_joined_X0_bounded : gx_rm rm_X0_joined rm_X0_bounded 2 := ⟨rfl, rfl, by decide, by decide⟩
theorem cs_X0_46_X0_isSo : gx_cS RX0 46 yX0_isSo cX0_isSo 5 3 (some .boolean) := ⟨⟨gx_in 798 (by decide +kernel) (by decide +kernel), gx_in 799 (by decide +kernel) (by decide +kernel), gx_in 63 (by decide +kernel) (by decide +kernel), gx_in 800 (by decide +kernel) (by decide +kernel)⟩, by decide, by decide, by decide +kernel⟩
theorem rr_X0_joined_X0_isSo : gx_rm rm_X0_joined rm_X0_isSo 5 := ⟨rfl, rfl, by decide, by decide⟩
theorem fg_X0_9 : gx_fl RX0 9 TX0 7 0 := ⟨by decide, gx_in 255 (by decide +kernel) (by decide +kernel)⟩
theorem cs_X0_38_X0_joined : gx_cS RX0 38 yX0_joined cX0_joined 5 3 (some .int) := ⟨⟨gx_in 788 (by decide +kernel) (by decide +kernel), gx_in 789 (by decide +kernel) (by decide +kernel), gx_in 63 (by decide +kernel) (by decide +kernel), gx_in 790 (by decide +kernel) (by decide +kernel)⟩, by decide, by decide, by decide +kernel⟩
theorem rr_X0_answer_X0_joined : gx_rm rm_X0_answer rm_X0_joined 5 := ⟨rfl, rfl, by decide, by decide⟩
theorem cv_X0_34_X0_word : gx_cV RX0 34 RX0 yX0_word cX0_word 2 1 (some .int) := ⟨⟨gx_in 784 (by decide +kernel) (by decide +kernel), gx_in 785 (by decide +kernel) (by decide +kernel), gx_in 786 (by decide +kernel) (by decide +kernel), gx_in 63 (by decide +kernel) (by decide +kernel), gx_in 787 (by decide +kernel) (by decide +kernel)⟩, rfl, by decide, by decide, by decide +kernel⟩
theorem rr_X0_answer_X0_word : gx_rm rm_X0_answer rm_X0_word 2 := ⟨rfl, rfl, by decide, by decide⟩
theorem fp_X1_41 : gx_fp RX1 41 TX1 9 5 tyX1 .int := ⟨⟨by decide, gx_in 292 (by decide +kernel) (by decide +kernel)⟩, rfl, rfl⟩
theorem cs_X10_81_X10_within : gx_cS RX10 81 yX10_within cX10_within 3 3 (some .boolean) := ⟨⟨gx_in 467 (by decide +kernel) (by decide +kernel), gx_in 468 (by decide +kernel) (by decide +kernel), gx_in 56 (by decide +kernel) (by decide +kernel), gx_in 469 (by decide +kernel) (by decide +kernel)⟩, by decide, by decide, by decide +kernel⟩
theorem rr_X10_isSignal_X10_within : gx_rm rm_X10_isSignal rm_X10_within 3 := ⟨rfl, rfl, by decide, by decide⟩
theorem fg_X3_18 : gx_fl RX3 18 TX3 5 2 := ⟨by decide, gx_in 115 (by decide +kernel) (by decide +kernel)⟩
theorem fg_X3_24 : gx_fl RX3 24 TX3 5 4 := ⟨by decide, gx_in 120 (by decide +kernel) (by decide +kernel)⟩
theorem fg_X3_9 : gx_fl RX3 9 TX3 5 0 := ⟨by decide, gx_in 110 (by decide +kernel) (by decide +kernel)⟩
theorem fg_X3_15 : gx_fl RX3 15 TX3 5 1 := ⟨by decide, gx_in 113 (by decide +kernel) (by decide +kernel)⟩
theorem cv_X3_27_X3_phase : gx_cV RX3 27 RX3 yX3_phase cX3_phase 3 1 (some .int) := ⟨⟨gx_in 500 (by decide +kernel) (by decide +kernel), gx_in 501 (by decide +kernel) (by decide +kernel), gx_in 502 (by decide +kernel) (by decide +kernel), gx_in 60 (by decide +kernel) (by decide +kernel), gx_in 503 (by decide +kernel) (by decide +kernel)⟩, rfl, by decide, by decide, by decide +kernel⟩
theorem rr_X3_heightAt_X3_phase : gx_rm rm_X3_heightAt rm_X3_phase 3 := ⟨rfl, rfl, by decide, by decide⟩
theorem fg_X3_21 : gx_fl RX3 21 TX3 5 3 := ⟨by decide, gx_in 118 (by decide +kernel) (by decide +kernel)⟩
theorem fg_X9_17 : gx_fl RX9 17 TX9 2 1 := ⟨by decide, gx_in 137 (by decide +kernel) (by decide +kernel)⟩
theorem fg_X9_11 : gx_fl RX9 11 TX9 2 0 := ⟨by decide, gx_in 135 (by decide +kernel) (by decide +kernel)⟩
theorem cv_X9_30_X3_heightAt : gx_cV RX9 30 RX3 yX3_heightAt cX3_heightAt 2 1 (some .int) := ⟨⟨gx_in 496 (by decide +kernel) (by decide +kernel), gx_in 497 (by decide +kernel) (by decide +kernel), gx_in 498 (by decide +kernel) (by decide +kernel), gx_in 60 (by decide +kernel) (by decide +kernel), gx_in 499 (by decide +kernel) (by decide +kernel)⟩, rfl, by decide, by decide, by decide +kernel⟩
theorem rr_X9_heightAt_X3_heightAt : gx_rm rm_X9_heightAt rm_X3_heightAt 2 := ⟨rfl, rfl, by decide, by decide⟩
theorem fg_X2_18 : gx_fl RX2 18 TX2 6 2 := ⟨by decide, gx_in 153 (by decide +kernel) (by decide +kernel)⟩
theorem fg_X2_15 : gx_fl RX2 15 TX2 6 1 := ⟨by decide, gx_in 152 (by decide +kernel) (by decide +kernel)⟩
theorem fg_X2_21 : gx_fl RX2 21 TX2 6 3 := ⟨by decide, gx_in 154 (by decide +kernel) (by decide +kernel)⟩
theorem fg_X1_41 : gx_fl RX1 41 TX1 9 5 := ⟨by decide, gx_in 292 (by decide +kernel) (by decide +kernel)⟩
theorem fg_X1_12 : gx_fl RX1 12 TX1 9 0 := ⟨by decide, gx_in 285 (by decide +kernel) (by decide +kernel)⟩
theorem fg_X1_54 : gx_fl RX1 54 TX8 10 1 := ⟨by decide, gx_in 176 (by decide +kernel) (by decide +kernel)⟩
theorem fg_X1_58 : gx_fl RX1 58 TX2 6 0 := ⟨by decide, gx_in 150 (by decide +kernel) (by decide +kernel)⟩
theorem cn_X1_63_X10_isSignal : gx_cN RX1 63 "GreenLine" yX10_isSignal cX10_isSignal 1 1 (some .boolean) := ⟨⟨by unfold gx_nest; simp [RX1], gx_in 465 (by decide +kernel) (by decide +kernel), gx_in 56 (by decide +kernel) (by decide +kernel), gx_in 466 (by decide +kernel) (by decide +kernel)⟩, by decide, by decide, by decide +kernel⟩
theorem rr_X1_traceTo_X10_isSignal : gx_rm rm_X1_traceTo rm_X10_isSignal 1 := ⟨rfl, rfl, by decide, by decide⟩
theorem fg_X1_38 : gx_fl RX1 38 TX1 9 4 := ⟨by decide, gx_in 291 (by decide +kernel) (by decide +kernel)⟩
theorem cv_X1_77_X2_outBehind : gx_cV RX1 77 RX2 yX2_outBehind cX2_outBehind 4 2 (some .int) := ⟨⟨gx_in 539 (by decide +kernel) (by decide +kernel), gx_in 540 (by decide +kernel) (by decide +kernel), gx_in 541 (by decide +kernel) (by decide +kernel), gx_in 61 (by decide +kernel) (by decide +kernel), gx_in 542 (by decide +kernel) (by decide +kernel)⟩, rfl, by decide, by decide, by decide +kernel⟩
theorem rr_X1_traceTo_X2_outBehind : gx_rm rm_X1_traceTo rm_X2_outBehind 4 := ⟨rfl, rfl, by decide, by decide⟩
theorem fg_X1_67 : gx_fl RX1 67 TX8 10 0 := ⟨by decide, gx_in 174 (by decide +kernel) (by decide +kernel)⟩
theorem cv_X1_71_X9_heightAt : gx_cV RX1 71 RX9 yX9_heightAt cX9_heightAt 4 1 (some .int) := ⟨⟨gx_in 538 (by decide +kernel) (by decide +kernel), gx_in 493 (by decide +kernel) (by decide +kernel), gx_in 494 (by decide +kernel) (by decide +kernel), gx_in 59 (by decide +kernel) (by decide +kernel), gx_in 495 (by decide +kernel) (by decide +kernel)⟩, rfl, by decide, by decide, by decide +kernel⟩
theorem rr_X1_traceTo_X9_heightAt : gx_rm rm_X1_traceTo rm_X9_heightAt 4 := ⟨rfl, rfl, by decide, by decide⟩
theorem rr_X10_isChannel_X10_within : gx_rm rm_X10_isChannel rm_X10_within 3 := ⟨rfl, rfl, by decide, by decide⟩
theorem cn_X1_81_X10_isChannel : gx_cN RX1 81 "GreenLine" yX10_isChannel cX10_isChannel 1 1 (some .boolean) := ⟨⟨by unfold gx_nest; simp [RX1], gx_in 509 (by decide +kernel) (by decide +kernel), gx_in 56 (by decide +kernel) (by decide +kernel), gx_in 510 (by decide +kernel) (by decide +kernel)⟩, by decide, by decide, by decide +kernel⟩
theorem rr_X1_outAt_X10_isChannel : gx_rm rm_X1_outAt rm_X10_isChannel 1 := ⟨rfl, rfl, by decide, by decide⟩
theorem cn_X1_84_X10_within : gx_cN RX1 84 "GreenLine" yX10_within cX10_within 3 3 (some .boolean) := ⟨⟨by unfold gx_nest; simp [RX1], gx_in 468 (by decide +kernel) (by decide +kernel), gx_in 56 (by decide +kernel) (by decide +kernel), gx_in 469 (by decide +kernel) (by decide +kernel)⟩, by decide, by decide, by decide +kernel⟩
theorem rr_X1_outAt_X10_within : gx_rm rm_X1_outAt rm_X10_within 3 := ⟨rfl, rfl, by decide, by decide⟩
theorem cv_X1_88_X1_traceTo : gx_cV RX1 88 RX1 yX1_traceTo cX1_traceTo 7 1 none := ⟨⟨gx_in 533 (by decide +kernel) (by decide +kernel), gx_in 534 (by decide +kernel) (by decide +kernel), gx_in 535 (by decide +kernel) (by decide +kernel), gx_in 57 (by decide +kernel) (by decide +kernel), gx_in 536 (by decide +kernel) (by decide +kernel)⟩, rfl, by decide, by decide, by decide +kernel⟩
theorem rr_X1_outAt_X1_traceTo : gx_rm rm_X1_outAt rm_X1_traceTo 7 := ⟨rfl, rfl, by decide, by decide⟩
theorem fp_X1_45 : gx_fp RX1 45 TX1 9 6 tyX1 .int := ⟨⟨by decide, gx_in 293 (by decide +kernel) (by decide +kernel)⟩, rfl, rfl⟩
theorem fp_X1_48 : gx_fp RX1 48 TX1 9 7 tyX1 .int := ⟨⟨by decide, gx_in 294 (by decide +kernel) (by decide +kernel)⟩, rfl, rfl⟩
theorem fp_X1_51 : gx_fp RX1 51 TX1 9 8 tyX1 .int := ⟨⟨by decide, gx_in 296 (by decide +kernel) (by decide +kernel)⟩, rfl, rfl⟩
theorem fg_X1_92 : gx_fl RX1 92 TX8 10 9 := ⟨by decide, gx_in 198 (by decide +kernel) (by decide +kernel)⟩
theorem fg_X1_20 : gx_fl RX1 20 TX1 9 1 := ⟨by decide, gx_in 287 (by decide +kernel) (by decide +kernel)⟩
theorem rr_X1_told_X10_within : gx_rm rm_X1_told rm_X10_within 3 := ⟨rfl, rfl, by decide, by decide⟩
theorem fg_X1_25 : gx_fl RX1 25 TX1 9 2 := ⟨by decide, gx_in 289 (by decide +kernel) (by decide +kernel)⟩
theorem fg_X4_18 : gx_fl RX4 18 TX4 4 2 := ⟨by decide, gx_in 234 (by decide +kernel) (by decide +kernel)⟩
theorem fg_X4_22 : gx_fl RX4 22 TX4 4 3 := ⟨by decide, gx_in 237 (by decide +kernel) (by decide +kernel)⟩
theorem rr_X1_look_X10_within : gx_rm rm_X1_look rm_X10_within 3 := ⟨rfl, rfl, by decide, by decide⟩
theorem fg_X1_32 : gx_fl RX1 32 TX1 9 3 := ⟨by decide, gx_in 290 (by decide +kernel) (by decide +kernel)⟩
theorem fp_X1_127 : gx_fp RX1 127 TX0 7 1 tyX0 .int := ⟨⟨by decide, gx_in 257 (by decide +kernel) (by decide +kernel)⟩, rfl, rfl⟩
theorem fp_X1_130 : gx_fp RX1 130 TX0 7 2 tyX0 .int := ⟨⟨by decide, gx_in 259 (by decide +kernel) (by decide +kernel)⟩, rfl, rfl⟩
theorem fp_X1_133 : gx_fp RX1 133 TX0 7 3 tyX0 .int := ⟨⟨by decide, gx_in 261 (by decide +kernel) (by decide +kernel)⟩, rfl, rfl⟩
theorem fp_X1_136 : gx_fp RX1 136 TX0 7 4 tyX0 .int := ⟨⟨by decide, gx_in 263 (by decide +kernel) (by decide +kernel)⟩, rfl, rfl⟩
theorem fg_X1_48 : gx_fl RX1 48 TX1 9 7 := ⟨by decide, gx_in 294 (by decide +kernel) (by decide +kernel)⟩
theorem fp_X1_139 : gx_fp RX1 139 TX0 7 5 tyX0 .int := ⟨⟨by decide, gx_in 265 (by decide +kernel) (by decide +kernel)⟩, rfl, rfl⟩
theorem fg_X1_45 : gx_fl RX1 45 TX1 9 6 := ⟨by decide, gx_in 293 (by decide +kernel) (by decide +kernel)⟩
theorem fp_X1_140 : gx_fp RX1 140 TX0 7 6 tyX0 .int := ⟨⟨by decide, gx_in 267 (by decide +kernel) (by decide +kernel)⟩, rfl, rfl⟩
theorem fg_X1_143 : gx_fl RX1 143 TX4 4 3 := ⟨by decide, gx_in 238 (by decide +kernel) (by decide +kernel)⟩
theorem fg_X1_146 : gx_fl RX1 146 TX4 4 1 := ⟨by decide, gx_in 232 (by decide +kernel) (by decide +kernel)⟩
theorem cv_X1_113_X0_answer : gx_cV RX1 113 RX0 yX0_answer cX0_answer 6 2 (some .int) := ⟨⟨gx_in 780 (by decide +kernel) (by decide +kernel), gx_in 781 (by decide +kernel) (by decide +kernel), gx_in 782 (by decide +kernel) (by decide +kernel), gx_in 63 (by decide +kernel) (by decide +kernel), gx_in 783 (by decide +kernel) (by decide +kernel)⟩, rfl, by decide, by decide, by decide +kernel⟩
theorem rr_X1_heldBy_X0_answer : gx_rm rm_X1_heldBy rm_X0_answer 6 := ⟨rfl, rfl, by decide, by decide⟩
theorem cm_X1_149 : Cond.methodLink RX1 149 Lib.Math.min.name ∈ gx_U := gx_in 805 (by decide +kernel) (by decide +kernel)
theorem cm_st_min : Cond.static Lib.Math.min.name ∈ gx_U := gx_in 678 (by decide +kernel) (by decide +kernel)
theorem cm_ini : Cond.initialized "java/lang/Math" ∈ gx_U := gx_in 72 (by decide +kernel) (by decide +kernel)
theorem cm_co_min : Cond.code Lib.Math.min.name Lib.Math.min.code 2 (some .int) ∈ gx_U := gx_in 679 (by decide +kernel) (by decide +kernel)
theorem cm_X1_154 : Cond.methodLink RX1 154 Lib.Math.max.name ∈ gx_U := gx_in 806 (by decide +kernel) (by decide +kernel)
theorem cm_st_max : Cond.static Lib.Math.max.name ∈ gx_U := gx_in 738 (by decide +kernel) (by decide +kernel)
theorem cm_co_max : Cond.code Lib.Math.max.name Lib.Math.max.code 2 (some .int) ∈ gx_U := gx_in 739 (by decide +kernel) (by decide +kernel)
theorem cv_X1_95_X1_told : gx_cV RX1 95 RX1 yX1_told cX1_told 1 0 (some (.object "GreenLine$Program")) := ⟨⟨gx_in 768 (by decide +kernel) (by decide +kernel), gx_in 769 (by decide +kernel) (by decide +kernel), gx_in 770 (by decide +kernel) (by decide +kernel), gx_in 57 (by decide +kernel) (by decide +kernel), gx_in 771 (by decide +kernel) (by decide +kernel)⟩, rfl, by decide, by decide, by decide +kernel⟩
theorem rr_X1_next_X1_told : gx_rm rm_X1_next rm_X1_told 1 := ⟨rfl, rfl, by decide, by decide⟩
theorem cv_X1_99_X4_isEmpty : gx_cV RX1 99 RX4 yX4_isEmpty cX4_isEmpty 1 0 (some .boolean) := ⟨⟨gx_in 772 (by decide +kernel) (by decide +kernel), gx_in 773 (by decide +kernel) (by decide +kernel), gx_in 774 (by decide +kernel) (by decide +kernel), gx_in 62 (by decide +kernel) (by decide +kernel), gx_in 775 (by decide +kernel) (by decide +kernel)⟩, rfl, by decide, by decide, by decide +kernel⟩
theorem rr_X1_next_X4_isEmpty : gx_rm rm_X1_next rm_X4_isEmpty 1 := ⟨rfl, rfl, by decide, by decide⟩
theorem fg_X1_106 : gx_fl RX1 106 TX4 4 2 := ⟨by decide, gx_in 235 (by decide +kernel) (by decide +kernel)⟩
theorem fg_X1_109 : gx_fl RX1 109 TX4 4 0 := ⟨by decide, gx_in 229 (by decide +kernel) (by decide +kernel)⟩
theorem rr_X1_next_X0_answer : gx_rm rm_X1_next rm_X0_answer 6 := ⟨rfl, rfl, by decide, by decide⟩
theorem rr_X1_next_X1_traceTo : gx_rm rm_X1_next rm_X1_traceTo 7 := ⟨rfl, rfl, by decide, by decide⟩
theorem cv_X1_103_X1_look : gx_cV RX1 103 RX1 yX1_look cX1_look 2 1 none := ⟨⟨gx_in 776 (by decide +kernel) (by decide +kernel), gx_in 777 (by decide +kernel) (by decide +kernel), gx_in 778 (by decide +kernel) (by decide +kernel), gx_in 57 (by decide +kernel) (by decide +kernel), gx_in 779 (by decide +kernel) (by decide +kernel)⟩, rfl, by decide, by decide, by decide +kernel⟩
theorem rr_X1_next_X1_look : gx_rm rm_X1_next rm_X1_look 2 := ⟨rfl, rfl, by decide, by decide⟩
theorem fg_X1_117 : gx_fl RX1 117 TX8 10 4 := ⟨by decide, gx_in 184 (by decide +kernel) (by decide +kernel)⟩
theorem fg_X1_51 : gx_fl RX1 51 TX1 9 8 := ⟨by decide, gx_in 296 (by decide +kernel) (by decide +kernel)⟩
theorem fg_X1_120 : gx_fl RX1 120 TX8 10 3 := ⟨by decide, gx_in 181 (by decide +kernel) (by decide +kernel)⟩
theorem cv_X1_123_X1_heldBy : gx_cV RX1 123 RX1 yX1_heldBy cX1_heldBy 2 1 (some .int) := ⟨⟨gx_in 801 (by decide +kernel) (by decide +kernel), gx_in 802 (by decide +kernel) (by decide +kernel), gx_in 803 (by decide +kernel) (by decide +kernel), gx_in 57 (by decide +kernel) (by decide +kernel), gx_in 804 (by decide +kernel) (by decide +kernel)⟩, rfl, by decide, by decide, by decide +kernel⟩
theorem rr_X1_next_X1_heldBy : gx_rm rm_X1_next rm_X1_heldBy 2 := ⟨rfl, rfl, by decide, by decide⟩
theorem fg_X7_9 : gx_fl RX7 9 TX7 1 0 := ⟨by decide, gx_in 417 (by decide +kernel) (by decide +kernel)⟩
theorem fg_X2_24 : gx_fl RX2 24 TX2 6 4 := ⟨by decide, gx_in 155 (by decide +kernel) (by decide +kernel)⟩
theorem cs_X2_37_J9_floorDiv_7cf53 : gx_cS RX2 37 yJ9_floorDiv_7cf53 cJ9_floorDiv_7cf53 3 2 (some .int) := ⟨⟨gx_in 837 (by decide +kernel) (by decide +kernel), gx_in 838 (by decide +kernel) (by decide +kernel), gx_in 72 (by decide +kernel) (by decide +kernel), gx_in 839 (by decide +kernel) (by decide +kernel)⟩, by decide, by decide, by decide +kernel⟩
theorem rr_X2_dotsFrom_J9_floorDiv_7cf53 : gx_rm rm_X2_dotsFrom rm_J9_floorDiv_7cf53 3 := ⟨rfl, rfl, by decide, by decide⟩
theorem fg_X2_27 : gx_fl RX2 27 TX2 6 5 := ⟨by decide, gx_in 157 (by decide +kernel) (by decide +kernel)⟩
theorem cn_X7_15_X10_within : gx_cN RX7 15 "GreenLine" yX10_within cX10_within 3 3 (some .boolean) := ⟨⟨by unfold gx_nest; simp [RX7], gx_in 468 (by decide +kernel) (by decide +kernel), gx_in 56 (by decide +kernel) (by decide +kernel), gx_in 469 (by decide +kernel) (by decide +kernel)⟩, by decide, by decide, by decide +kernel⟩
theorem rr_X7_brighten_X10_within : gx_rm rm_X7_brighten rm_X10_within 3 := ⟨rfl, rfl, by decide, by decide⟩
theorem cm_X7_19 : Cond.methodLink RX7 19 Lib.Math.min.name ∈ gx_U := gx_in 845 (by decide +kernel) (by decide +kernel)
theorem fg_X1_182 : gx_fl RX1 182 TX8 10 6 := ⟨by decide, gx_in 191 (by decide +kernel) (by decide +kernel)⟩
theorem fg_X1_195 : gx_fl RX1 195 TX8 10 7 := ⟨by decide, gx_in 194 (by decide +kernel) (by decide +kernel)⟩
theorem cv_X1_192_X1_turnAt : gx_cV RX1 192 RX1 yX1_turnAt cX1_turnAt 2 1 (some .int) := ⟨⟨gx_in 846 (by decide +kernel) (by decide +kernel), gx_in 847 (by decide +kernel) (by decide +kernel), gx_in 848 (by decide +kernel) (by decide +kernel), gx_in 57 (by decide +kernel) (by decide +kernel), gx_in 849 (by decide +kernel) (by decide +kernel)⟩, rfl, by decide, by decide, by decide +kernel⟩
theorem rr_X1_drawDot_X1_turnAt : gx_rm rm_X1_drawDot rm_X1_turnAt 2 := ⟨rfl, rfl, by decide, by decide⟩
theorem cv_X1_185_X2_dotsFrom : gx_cV RX1 185 RX2 yX2_dotsFrom cX2_dotsFrom 3 2 (some .int) := ⟨⟨gx_in 833 (by decide +kernel) (by decide +kernel), gx_in 834 (by decide +kernel) (by decide +kernel), gx_in 835 (by decide +kernel) (by decide +kernel), gx_in 61 (by decide +kernel) (by decide +kernel), gx_in 836 (by decide +kernel) (by decide +kernel)⟩, rfl, by decide, by decide, by decide +kernel⟩
theorem rr_X1_drawDot_X2_dotsFrom : gx_rm rm_X1_drawDot rm_X2_dotsFrom 3 := ⟨rfl, rfl, by decide, by decide⟩
theorem cv_X1_188_X7_brighten : gx_cV RX1 188 RX7 yX7_brighten cX7_brighten 4 2 none := ⟨⟨gx_in 840 (by decide +kernel) (by decide +kernel), gx_in 841 (by decide +kernel) (by decide +kernel), gx_in 842 (by decide +kernel) (by decide +kernel), gx_in 66 (by decide +kernel) (by decide +kernel), gx_in 843 (by decide +kernel) (by decide +kernel)⟩, rfl, by decide, by decide, by decide +kernel⟩
theorem rr_X1_drawDot_X7_brighten : gx_rm rm_X1_drawDot rm_X7_brighten 4 := ⟨rfl, rfl, by decide, by decide⟩
theorem rr_X1_drawSweep_X10_within : gx_rm rm_X1_drawSweep rm_X10_within 3 := ⟨rfl, rfl, by decide, by decide⟩
theorem cv_X1_178_X1_drawDot : gx_cV RX1 178 RX1 yX1_drawDot cX1_drawDot 5 3 none := ⟨⟨gx_in 829 (by decide +kernel) (by decide +kernel), gx_in 830 (by decide +kernel) (by decide +kernel), gx_in 831 (by decide +kernel) (by decide +kernel), gx_in 57 (by decide +kernel) (by decide +kernel), gx_in 832 (by decide +kernel) (by decide +kernel)⟩, rfl, by decide, by decide, by decide +kernel⟩
theorem rr_X1_drawSweep_X1_drawDot : gx_rm rm_X1_drawSweep rm_X1_drawDot 5 := ⟨rfl, rfl, by decide, by decide⟩
theorem cv_X1_157_X7_darken : gx_cV RX1 157 RX7 yX7_darken cX7_darken 2 0 none := ⟨⟨gx_in 815 (by decide +kernel) (by decide +kernel), gx_in 816 (by decide +kernel) (by decide +kernel), gx_in 817 (by decide +kernel) (by decide +kernel), gx_in 66 (by decide +kernel) (by decide +kernel), gx_in 818 (by decide +kernel) (by decide +kernel)⟩, rfl, by decide, by decide, by decide +kernel⟩
theorem rr_X1_draw_X7_darken : gx_rm rm_X1_draw rm_X7_darken 2 := ⟨rfl, rfl, by decide, by decide⟩
theorem rr_X1_draw_X1_traceTo : gx_rm rm_X1_draw rm_X1_traceTo 7 := ⟨rfl, rfl, by decide, by decide⟩
theorem cv_X1_162_X1_restart : gx_cV RX1 162 RX1 yX1_restart cX1_restart 1 0 none := ⟨⟨gx_in 819 (by decide +kernel) (by decide +kernel), gx_in 761 (by decide +kernel) (by decide +kernel), gx_in 762 (by decide +kernel) (by decide +kernel), gx_in 57 (by decide +kernel) (by decide +kernel), gx_in 763 (by decide +kernel) (by decide +kernel)⟩, rfl, by decide, by decide, by decide +kernel⟩
theorem rr_X1_draw_X1_restart : gx_rm rm_X1_draw rm_X1_restart 1 := ⟨rfl, rfl, by decide, by decide⟩
theorem cv_X1_165_X1_next : gx_cV RX1 165 RX1 yX1_next cX1_next 4 1 (some .boolean) := ⟨⟨gx_in 820 (by decide +kernel) (by decide +kernel), gx_in 765 (by decide +kernel) (by decide +kernel), gx_in 766 (by decide +kernel) (by decide +kernel), gx_in 57 (by decide +kernel) (by decide +kernel), gx_in 767 (by decide +kernel) (by decide +kernel)⟩, rfl, by decide, by decide, by decide +kernel⟩
theorem rr_X1_draw_X1_next : gx_rm rm_X1_draw rm_X1_next 4 := ⟨rfl, rfl, by decide, by decide⟩
theorem fg_X1_168 : gx_fl RX1 168 TX8 10 5 := ⟨by decide, gx_in 188 (by decide +kernel) (by decide +kernel)⟩
theorem cv_X1_171_X7_dim : gx_cV RX1 171 RX7 yX7_dim cX7_dim 3 1 none := ⟨⟨gx_in 821 (by decide +kernel) (by decide +kernel), gx_in 822 (by decide +kernel) (by decide +kernel), gx_in 823 (by decide +kernel) (by decide +kernel), gx_in 66 (by decide +kernel) (by decide +kernel), gx_in 824 (by decide +kernel) (by decide +kernel)⟩, rfl, by decide, by decide, by decide +kernel⟩
theorem rr_X1_draw_X7_dim : gx_rm rm_X1_draw rm_X7_dim 3 := ⟨rfl, rfl, by decide, by decide⟩
theorem cv_X1_174_X1_drawSweep : gx_cV RX1 174 RX1 yX1_drawSweep cX1_drawSweep 5 2 none := ⟨⟨gx_in 825 (by decide +kernel) (by decide +kernel), gx_in 826 (by decide +kernel) (by decide +kernel), gx_in 827 (by decide +kernel) (by decide +kernel), gx_in 57 (by decide +kernel) (by decide +kernel), gx_in 828 (by decide +kernel) (by decide +kernel)⟩, rfl, by decide, by decide, by decide +kernel⟩
theorem rr_X1_draw_X1_drawSweep : gx_rm rm_X1_draw rm_X1_drawSweep 5 := ⟨rfl, rfl, by decide, by decide⟩
theorem rr_X3_isOn_X3_phase : gx_rm rm_X3_isOn rm_X3_phase 3 := ⟨rfl, rfl, by decide, by decide⟩
theorem rr_X1_isShown_X1_turnAt : gx_rm rm_X1_isShown rm_X1_turnAt 2 := ⟨rfl, rfl, by decide, by decide⟩
theorem rr_X1_catches_X1_restart : gx_rm rm_X1_catches rm_X1_restart 1 := ⟨rfl, rfl, by decide, by decide⟩
theorem rr_X1_catches_X1_next : gx_rm rm_X1_catches rm_X1_next 4 := ⟨rfl, rfl, by decide, by decide⟩
theorem cv_X1_198_X3_isOn : gx_cV RX1 198 RX3 yX3_isOn cX3_isOn 2 1 (some .boolean) := ⟨⟨gx_in 897 (by decide +kernel) (by decide +kernel), gx_in 898 (by decide +kernel) (by decide +kernel), gx_in 899 (by decide +kernel) (by decide +kernel), gx_in 60 (by decide +kernel) (by decide +kernel), gx_in 900 (by decide +kernel) (by decide +kernel)⟩, rfl, by decide, by decide, by decide +kernel⟩
theorem rr_X1_catches_X3_isOn : gx_rm rm_X1_catches rm_X3_isOn 2 := ⟨rfl, rfl, by decide, by decide⟩
theorem cv_X1_203_X1_isShown : gx_cV RX1 203 RX1 yX1_isShown cX1_isShown 3 2 (some .boolean) := ⟨⟨gx_in 901 (by decide +kernel) (by decide +kernel), gx_in 902 (by decide +kernel) (by decide +kernel), gx_in 903 (by decide +kernel) (by decide +kernel), gx_in 57 (by decide +kernel) (by decide +kernel), gx_in 904 (by decide +kernel) (by decide +kernel)⟩, rfl, by decide, by decide, by decide +kernel⟩
theorem rr_X1_catches_X1_isShown : gx_rm rm_X1_catches rm_X1_isShown 3 := ⟨rfl, rfl, by decide, by decide⟩
theorem fp_X2_15 : gx_fp RX2 15 TX2 6 1 tyX2 .int := ⟨⟨by decide, gx_in 152 (by decide +kernel) (by decide +kernel)⟩, rfl, rfl⟩
theorem fp_X2_18 : gx_fp RX2 18 TX2 6 2 tyX2 .int := ⟨⟨by decide, gx_in 153 (by decide +kernel) (by decide +kernel)⟩, rfl, rfl⟩
theorem fp_X2_21 : gx_fp RX2 21 TX2 6 3 tyX2 .int := ⟨⟨by decide, gx_in 154 (by decide +kernel) (by decide +kernel)⟩, rfl, rfl⟩
theorem fp_X2_9 : gx_fp RX2 9 TX2 6 0 tyX2 .int := ⟨⟨by decide, gx_in 149 (by decide +kernel) (by decide +kernel)⟩, rfl, rfl⟩
theorem fp_X2_24 : gx_fp RX2 24 TX2 6 4 tyX2 .int := ⟨⟨by decide, gx_in 155 (by decide +kernel) (by decide +kernel)⟩, rfl, rfl⟩
theorem fp_X2_27 : gx_fp RX2 27 TX2 6 5 tyX2 .int := ⟨⟨by decide, gx_in 157 (by decide +kernel) (by decide +kernel)⟩, rfl, rfl⟩
theorem cv_X2_30_X2_setProbe : gx_cV RX2 30 RX2 yX2_setProbe cX2_setProbe 4 3 none := ⟨⟨gx_in 979 (by decide +kernel) (by decide +kernel), gx_in 512 (by decide +kernel) (by decide +kernel), gx_in 513 (by decide +kernel) (by decide +kernel), gx_in 61 (by decide +kernel) (by decide +kernel), gx_in 514 (by decide +kernel) (by decide +kernel)⟩, rfl, by decide, by decide, by decide +kernel⟩
theorem rr_X2_copyFrom_X2_setProbe : gx_rm rm_X2_copyFrom rm_X2_setProbe 4 := ⟨rfl, rfl, by decide, by decide⟩
theorem fg_X2_9 : gx_fl RX2 9 TX2 6 0 := ⟨by decide, gx_in 149 (by decide +kernel) (by decide +kernel)⟩
theorem cv_X2_34_X2_setView : gx_cV RX2 34 RX2 yX2_setView cX2_setView 4 3 none := ⟨⟨gx_in 980 (by decide +kernel) (by decide +kernel), gx_in 520 (by decide +kernel) (by decide +kernel), gx_in 521 (by decide +kernel) (by decide +kernel), gx_in 61 (by decide +kernel) (by decide +kernel), gx_in 522 (by decide +kernel) (by decide +kernel)⟩, rfl, by decide, by decide, by decide +kernel⟩
theorem rr_X2_copyFrom_X2_setView : gx_rm rm_X2_copyFrom rm_X2_setView 4 := ⟨rfl, rfl, by decide, by decide⟩
theorem fp_X3_9 : gx_fp RX3 9 TX3 5 0 tyX3 .int := ⟨⟨by decide, gx_in 110 (by decide +kernel) (by decide +kernel)⟩, rfl, rfl⟩
theorem fp_X3_15 : gx_fp RX3 15 TX3 5 1 tyX3 .int := ⟨⟨by decide, gx_in 113 (by decide +kernel) (by decide +kernel)⟩, rfl, rfl⟩
theorem fp_X3_18 : gx_fp RX3 18 TX3 5 2 tyX3 .int := ⟨⟨by decide, gx_in 115 (by decide +kernel) (by decide +kernel)⟩, rfl, rfl⟩
theorem fp_X3_21 : gx_fp RX3 21 TX3 5 3 tyX3 .int := ⟨⟨by decide, gx_in 118 (by decide +kernel) (by decide +kernel)⟩, rfl, rfl⟩
theorem fp_X3_24 : gx_fp RX3 24 TX3 5 4 tyX3 .int := ⟨⟨by decide, gx_in 120 (by decide +kernel) (by decide +kernel)⟩, rfl, rfl⟩
theorem fp_X4_18 : gx_fp RX4 18 TX4 4 2 tyX4 .int := ⟨⟨by decide, gx_in 234 (by decide +kernel) (by decide +kernel)⟩, rfl, rfl⟩
theorem fp_X4_22 : gx_fp RX4 22 TX4 4 3 tyX4 .int := ⟨⟨by decide, gx_in 237 (by decide +kernel) (by decide +kernel)⟩, rfl, rfl⟩
theorem fp_X6_15 : gx_fp RX6 15 TX6 6 1 tyX6 .int := ⟨⟨by decide, gx_in 333 (by decide +kernel) (by decide +kernel)⟩, rfl, rfl⟩
theorem fp_X6_19 : gx_fp RX6 19 TX6 6 2 tyX6 .int := ⟨⟨by decide, gx_in 334 (by decide +kernel) (by decide +kernel)⟩, rfl, rfl⟩
theorem fg_X6_15 : gx_fl RX6 15 TX6 6 1 := ⟨by decide, gx_in 333 (by decide +kernel) (by decide +kernel)⟩
theorem fg_X6_9 : gx_fl RX6 9 TX6 6 0 := ⟨by decide, gx_in 331 (by decide +kernel) (by decide +kernel)⟩
theorem cn_X6_107_X10_within : gx_cN RX6 107 "GreenLine" yX10_within cX10_within 3 3 (some .boolean) := ⟨⟨by unfold gx_nest; simp [RX6], gx_in 468 (by decide +kernel) (by decide +kernel), gx_in 56 (by decide +kernel) (by decide +kernel), gx_in 469 (by decide +kernel) (by decide +kernel)⟩, by decide, by decide, by decide +kernel⟩
theorem rr_X6_isLetter_X10_within : gx_rm rm_X6_isLetter rm_X10_within 3 := ⟨rfl, rfl, by decide, by decide⟩
theorem fg_X6_19 : gx_fl RX6 19 TX6 6 2 := ⟨by decide, gx_in 334 (by decide +kernel) (by decide +kernel)⟩
theorem cv_X6_31_X6_byteAt : gx_cV RX6 31 RX6 yX6_byteAt cX6_byteAt 2 1 (some .int) := ⟨⟨gx_in 583 (by decide +kernel) (by decide +kernel), gx_in 584 (by decide +kernel) (by decide +kernel), gx_in 585 (by decide +kernel) (by decide +kernel), gx_in 65 (by decide +kernel) (by decide +kernel), gx_in 586 (by decide +kernel) (by decide +kernel)⟩, rfl, by decide, by decide, by decide +kernel⟩
theorem rr_X6_passLetters_X6_byteAt : gx_rm rm_X6_passLetters rm_X6_byteAt 2 := ⟨rfl, rfl, by decide, by decide⟩
theorem cs_X6_39_X6_isLetter : gx_cS RX6 39 yX6_isLetter cX6_isLetter 1 1 (some .boolean) := ⟨⟨gx_in 590 (by decide +kernel) (by decide +kernel), gx_in 591 (by decide +kernel) (by decide +kernel), gx_in 65 (by decide +kernel) (by decide +kernel), gx_in 592 (by decide +kernel) (by decide +kernel)⟩, by decide, by decide, by decide +kernel⟩
theorem rr_X6_passLetters_X6_isLetter : gx_rm rm_X6_passLetters rm_X6_isLetter 1 := ⟨rfl, rfl, by decide, by decide⟩
theorem fg_X6_22 : gx_fl RX6 22 TX6 6 3 := ⟨by decide, gx_in 335 (by decide +kernel) (by decide +kernel)⟩
theorem rr_X6_spells_X6_byteAt : gx_rm rm_X6_spells rm_X6_byteAt 2 := ⟨rfl, rfl, by decide, by decide⟩
theorem cv_X6_70_X6_spells : gx_cV RX6 70 RX6 yX6_spells cX6_spells 3 1 (some .boolean) := ⟨⟨gx_in 603 (by decide +kernel) (by decide +kernel), gx_in 604 (by decide +kernel) (by decide +kernel), gx_in 605 (by decide +kernel) (by decide +kernel), gx_in 65 (by decide +kernel) (by decide +kernel), gx_in 606 (by decide +kernel) (by decide +kernel)⟩, rfl, by decide, by decide, by decide +kernel⟩
theorem rr_X6_valueSign_X6_spells : gx_rm rm_X6_valueSign rm_X6_spells 3 := ⟨rfl, rfl, by decide, by decide⟩
theorem rr_X6_wordSign_X6_spells : gx_rm rm_X6_wordSign rm_X6_spells 3 := ⟨rfl, rfl, by decide, by decide⟩
theorem cv_X6_82_X6_valueSign : gx_cV RX6 82 RX6 yX6_valueSign cX6_valueSign 1 0 (some .int) := ⟨⟨gx_in 659 (by decide +kernel) (by decide +kernel), gx_in 660 (by decide +kernel) (by decide +kernel), gx_in 661 (by decide +kernel) (by decide +kernel), gx_in 65 (by decide +kernel) (by decide +kernel), gx_in 662 (by decide +kernel) (by decide +kernel)⟩, rfl, by decide, by decide, by decide +kernel⟩
theorem rr_X6_wordSign_X6_valueSign : gx_rm rm_X6_wordSign rm_X6_valueSign 1 := ⟨rfl, rfl, by decide, by decide⟩
theorem rr_X6_isDigit_X10_within : gx_rm rm_X6_isDigit rm_X10_within 3 := ⟨rfl, rfl, by decide, by decide⟩
theorem fp_X6_28 : gx_fp RX6 28 TX6 6 5 tyX6 .int := ⟨⟨by decide, gx_in 339 (by decide +kernel) (by decide +kernel)⟩, rfl, rfl⟩
theorem rr_X6_readNumber_X6_byteAt : gx_rm rm_X6_readNumber rm_X6_byteAt 2 := ⟨rfl, rfl, by decide, by decide⟩
theorem cs_X6_49_X6_isDigit : gx_cS RX6 49 yX6_isDigit cX6_isDigit 1 1 (some .boolean) := ⟨⟨gx_in 670 (by decide +kernel) (by decide +kernel), gx_in 671 (by decide +kernel) (by decide +kernel), gx_in 65 (by decide +kernel) (by decide +kernel), gx_in 672 (by decide +kernel) (by decide +kernel)⟩, by decide, by decide, by decide +kernel⟩
theorem rr_X6_readNumber_X6_isDigit : gx_rm rm_X6_readNumber rm_X6_isDigit 1 := ⟨rfl, rfl, by decide, by decide⟩
theorem fg_X6_28 : gx_fl RX6 28 TX6 6 5 := ⟨by decide, gx_in 339 (by decide +kernel) (by decide +kernel)⟩
theorem cm_X6_58 : Cond.methodLink RX6 58 Lib.Math.min.name ∈ gx_U := gx_in 677 (by decide +kernel) (by decide +kernel)
theorem rr_X6_passesEqual_X6_byteAt : gx_rm rm_X6_passesEqual rm_X6_byteAt 2 := ⟨rfl, rfl, by decide, by decide⟩
theorem cv_X6_64_X6_passesEqual : gx_cV RX6 64 RX6 yX6_passesEqual cX6_passesEqual 1 0 (some .boolean) := ⟨⟨gx_in 684 (by decide +kernel) (by decide +kernel), gx_in 685 (by decide +kernel) (by decide +kernel), gx_in 686 (by decide +kernel) (by decide +kernel), gx_in 65 (by decide +kernel) (by decide +kernel), gx_in 687 (by decide +kernel) (by decide +kernel)⟩, rfl, by decide, by decide, by decide +kernel⟩
theorem rr_X6_signOf_X6_passesEqual : gx_rm rm_X6_signOf rm_X6_passesEqual 1 := ⟨rfl, rfl, by decide, by decide⟩
theorem rr_X6_next_X6_byteAt : gx_rm rm_X6_next rm_X6_byteAt 2 := ⟨rfl, rfl, by decide, by decide⟩
theorem cs_X6_35_X6_isBlank : gx_cS RX6 35 yX6_isBlank cX6_isBlank 1 1 (some .boolean) := ⟨⟨gx_in 587 (by decide +kernel) (by decide +kernel), gx_in 588 (by decide +kernel) (by decide +kernel), gx_in 65 (by decide +kernel) (by decide +kernel), gx_in 589 (by decide +kernel) (by decide +kernel)⟩, by decide, by decide, by decide +kernel⟩
theorem rr_X6_next_X6_isBlank : gx_rm rm_X6_next rm_X6_isBlank 1 := ⟨rfl, rfl, by decide, by decide⟩
theorem fp_X6_22 : gx_fp RX6 22 TX6 6 3 tyX6 .int := ⟨⟨by decide, gx_in 335 (by decide +kernel) (by decide +kernel)⟩, rfl, rfl⟩
theorem rr_X6_next_X6_isLetter : gx_rm rm_X6_next rm_X6_isLetter 1 := ⟨rfl, rfl, by decide, by decide⟩
theorem rr_X6_next_X6_isDigit : gx_rm rm_X6_next rm_X6_isDigit 1 := ⟨rfl, rfl, by decide, by decide⟩
theorem cv_X6_55_X6_signOf : gx_cV RX6 55 RX6 yX6_signOf cX6_signOf 2 1 (some .int) := ⟨⟨gx_in 680 (by decide +kernel) (by decide +kernel), gx_in 681 (by decide +kernel) (by decide +kernel), gx_in 682 (by decide +kernel) (by decide +kernel), gx_in 65 (by decide +kernel) (by decide +kernel), gx_in 683 (by decide +kernel) (by decide +kernel)⟩, rfl, by decide, by decide, by decide +kernel⟩
theorem rr_X6_next_X6_signOf : gx_rm rm_X6_next rm_X6_signOf 2 := ⟨rfl, rfl, by decide, by decide⟩
theorem fp_X6_25 : gx_fp RX6 25 TX6 6 4 tyX6 .int := ⟨⟨by decide, gx_in 337 (by decide +kernel) (by decide +kernel)⟩, rfl, rfl⟩
theorem cv_X6_52_X6_readNumber : gx_cV RX6 52 RX6 yX6_readNumber cX6_readNumber 1 0 none := ⟨⟨gx_in 673 (by decide +kernel) (by decide +kernel), gx_in 674 (by decide +kernel) (by decide +kernel), gx_in 675 (by decide +kernel) (by decide +kernel), gx_in 65 (by decide +kernel) (by decide +kernel), gx_in 676 (by decide +kernel) (by decide +kernel)⟩, rfl, by decide, by decide, by decide +kernel⟩
theorem rr_X6_next_X6_readNumber : gx_rm rm_X6_next rm_X6_readNumber 1 := ⟨rfl, rfl, by decide, by decide⟩
theorem cv_X6_42_X6_passLetters : gx_cV RX6 42 RX6 yX6_passLetters cX6_passLetters 1 0 none := ⟨⟨gx_in 594 (by decide +kernel) (by decide +kernel), gx_in 595 (by decide +kernel) (by decide +kernel), gx_in 596 (by decide +kernel) (by decide +kernel), gx_in 65 (by decide +kernel) (by decide +kernel), gx_in 597 (by decide +kernel) (by decide +kernel)⟩, rfl, by decide, by decide, by decide +kernel⟩
theorem rr_X6_next_X6_passLetters : gx_rm rm_X6_next rm_X6_passLetters 1 := ⟨rfl, rfl, by decide, by decide⟩
theorem cv_X6_45_X6_wordSign : gx_cV RX6 45 RX6 yX6_wordSign cX6_wordSign 1 0 (some .int) := ⟨⟨gx_in 598 (by decide +kernel) (by decide +kernel), gx_in 599 (by decide +kernel) (by decide +kernel), gx_in 600 (by decide +kernel) (by decide +kernel), gx_in 65 (by decide +kernel) (by decide +kernel), gx_in 601 (by decide +kernel) (by decide +kernel)⟩, rfl, by decide, by decide, by decide +kernel⟩
theorem rr_X6_next_X6_wordSign : gx_rm rm_X6_next rm_X6_wordSign 1 := ⟨rfl, rfl, by decide, by decide⟩
theorem fp_X5_60 : gx_fp RX5 60 TX5 17 14 tyX5 .int := ⟨⟨by decide, gx_in 371 (by decide +kernel) (by decide +kernel)⟩, rfl, rfl⟩
theorem fg_X5_12 : gx_fl RX5 12 TX5 17 0 := ⟨by decide, gx_in 356 (by decide +kernel) (by decide +kernel)⟩
theorem fg_X5_89 : gx_fl RX5 89 TX6 6 3 := ⟨by decide, gx_in 336 (by decide +kernel) (by decide +kernel)⟩
theorem fp_X5_63 : gx_fp RX5 63 TX5 17 15 tyX5 .int := ⟨⟨by decide, gx_in 373 (by decide +kernel) (by decide +kernel)⟩, rfl, rfl⟩
theorem fp_X5_57 : gx_fp RX5 57 TX5 17 13 tyX5 .boolean := ⟨⟨by decide, gx_in 370 (by decide +kernel) (by decide +kernel)⟩, rfl, rfl⟩
theorem fg_X5_32 : gx_fl RX5 32 TX5 17 5 := ⟨by decide, gx_in 362 (by decide +kernel) (by decide +kernel)⟩
theorem fp_X5_32 : gx_fp RX5 32 TX5 17 5 tyX5 .int := ⟨⟨by decide, gx_in 362 (by decide +kernel) (by decide +kernel)⟩, rfl, rfl⟩
theorem fg_X5_35 : gx_fl RX5 35 TX5 17 6 := ⟨by decide, gx_in 363 (by decide +kernel) (by decide +kernel)⟩
theorem fp_X5_35 : gx_fp RX5 35 TX5 17 6 tyX5 .boolean := ⟨⟨by decide, gx_in 363 (by decide +kernel) (by decide +kernel)⟩, rfl, rfl⟩
theorem fp_X5_39 : gx_fp RX5 39 TX5 17 7 tyX5 .boolean := ⟨⟨by decide, gx_in 364 (by decide +kernel) (by decide +kernel)⟩, rfl, rfl⟩
theorem fp_X5_42 : gx_fp RX5 42 TX5 17 8 tyX5 .boolean := ⟨⟨by decide, gx_in 365 (by decide +kernel) (by decide +kernel)⟩, rfl, rfl⟩
theorem fp_X5_45 : gx_fp RX5 45 TX5 17 9 tyX5 .boolean := ⟨⟨by decide, gx_in 366 (by decide +kernel) (by decide +kernel)⟩, rfl, rfl⟩
theorem fg_X5_42 : gx_fl RX5 42 TX5 17 8 := ⟨by decide, gx_in 365 (by decide +kernel) (by decide +kernel)⟩
theorem fp_X5_48 : gx_fp RX5 48 TX5 17 10 tyX5 .boolean := ⟨⟨by decide, gx_in 367 (by decide +kernel) (by decide +kernel)⟩, rfl, rfl⟩
theorem fp_X5_51 : gx_fp RX5 51 TX5 17 11 tyX5 .boolean := ⟨⟨by decide, gx_in 368 (by decide +kernel) (by decide +kernel)⟩, rfl, rfl⟩
theorem fp_X5_22 : gx_fp RX5 22 TX5 17 2 tyX5 .int := ⟨⟨by decide, gx_in 359 (by decide +kernel) (by decide +kernel)⟩, rfl, rfl⟩
theorem fp_X5_26 : gx_fp RX5 26 TX5 17 3 tyX5 .int := ⟨⟨by decide, gx_in 360 (by decide +kernel) (by decide +kernel)⟩, rfl, rfl⟩
theorem fp_X5_29 : gx_fp RX5 29 TX5 17 4 tyX5 .int := ⟨⟨by decide, gx_in 361 (by decide +kernel) (by decide +kernel)⟩, rfl, rfl⟩
theorem cv_X5_92_X5_fail : gx_cV RX5 92 RX5 yX5_fail cX5_fail 2 1 none := ⟨⟨gx_in 692 (by decide +kernel) (by decide +kernel), gx_in 693 (by decide +kernel) (by decide +kernel), gx_in 694 (by decide +kernel) (by decide +kernel), gx_in 64 (by decide +kernel) (by decide +kernel), gx_in 695 (by decide +kernel) (by decide +kernel)⟩, rfl, by decide, by decide, by decide +kernel⟩
theorem rr_X5_takeFirst_X5_fail : gx_rm rm_X5_takeFirst rm_X5_fail 2 := ⟨rfl, rfl, by decide, by decide⟩
theorem fg_X5_69 : gx_fl RX5 69 TX5 17 16 := ⟨by decide, gx_in 375 (by decide +kernel) (by decide +kernel)⟩
theorem fg_X5_151 : gx_fl RX5 151 TX4 4 3 := ⟨by decide, gx_in 239 (by decide +kernel) (by decide +kernel)⟩
theorem fg_X5_154 : gx_fl RX5 154 TX4 4 1 := ⟨by decide, gx_in 233 (by decide +kernel) (by decide +kernel)⟩
theorem fp_X5_151 : gx_fp RX5 151 TX4 4 3 tyX4 .int := ⟨⟨by decide, gx_in 239 (by decide +kernel) (by decide +kernel)⟩, rfl, rfl⟩
theorem fg_X5_145 : gx_fl RX5 145 TX4 4 2 := ⟨by decide, gx_in 236 (by decide +kernel) (by decide +kernel)⟩
theorem fg_X5_148 : gx_fl RX5 148 TX4 4 0 := ⟨by decide, gx_in 230 (by decide +kernel) (by decide +kernel)⟩
theorem fp_X5_145 : gx_fp RX5 145 TX4 4 2 tyX4 .int := ⟨⟨by decide, gx_in 236 (by decide +kernel) (by decide +kernel)⟩, rfl, rfl⟩
theorem fg_X5_22 : gx_fl RX5 22 TX5 17 2 := ⟨by decide, gx_in 359 (by decide +kernel) (by decide +kernel)⟩
theorem fg_X5_18 : gx_fl RX5 18 TX5 17 1 := ⟨by decide, gx_in 358 (by decide +kernel) (by decide +kernel)⟩
theorem cn_X5_110_X10_within : gx_cN RX5 110 "GreenLine" yX10_within cX10_within 3 3 (some .boolean) := ⟨⟨by unfold gx_nest; simp [RX5], gx_in 468 (by decide +kernel) (by decide +kernel), gx_in 56 (by decide +kernel) (by decide +kernel), gx_in 469 (by decide +kernel) (by decide +kernel)⟩, by decide, by decide, by decide +kernel⟩
theorem rr_X5_await_X10_within : gx_rm rm_X5_await rm_X10_within 3 := ⟨rfl, rfl, by decide, by decide⟩
theorem fg_X5_26 : gx_fl RX5 26 TX5 17 3 := ⟨by decide, gx_in 360 (by decide +kernel) (by decide +kernel)⟩
theorem cv_X5_117_X5_await : gx_cV RX5 117 RX5 yX5_await cX5_await 2 1 none := ⟨⟨gx_in 713 (by decide +kernel) (by decide +kernel), gx_in 714 (by decide +kernel) (by decide +kernel), gx_in 715 (by decide +kernel) (by decide +kernel), gx_in 64 (by decide +kernel) (by decide +kernel), gx_in 716 (by decide +kernel) (by decide +kernel)⟩, rfl, by decide, by decide, by decide +kernel⟩
theorem rr_X5_openUp_X5_await : gx_rm rm_X5_openUp rm_X5_await 2 := ⟨rfl, rfl, by decide, by decide⟩
theorem fg_X5_29 : gx_fl RX5 29 TX5 17 4 := ⟨by decide, gx_in 361 (by decide +kernel) (by decide +kernel)⟩
theorem rr_X5_openUp_X5_fail : gx_rm rm_X5_openUp rm_X5_fail 2 := ⟨rfl, rfl, by decide, by decide⟩
theorem rr_X5_takeOne_X10_within : gx_rm rm_X5_takeOne rm_X10_within 3 := ⟨rfl, rfl, by decide, by decide⟩
theorem cv_X5_114_X5_openUp : gx_cV RX5 114 RX5 yX5_openUp cX5_openUp 2 1 none := ⟨⟨gx_in 709 (by decide +kernel) (by decide +kernel), gx_in 710 (by decide +kernel) (by decide +kernel), gx_in 711 (by decide +kernel) (by decide +kernel), gx_in 64 (by decide +kernel) (by decide +kernel), gx_in 712 (by decide +kernel) (by decide +kernel)⟩, rfl, by decide, by decide, by decide +kernel⟩
theorem rr_X5_takeOne_X5_openUp : gx_rm rm_X5_takeOne rm_X5_openUp 2 := ⟨rfl, rfl, by decide, by decide⟩
theorem rr_X5_takeOne_X5_fail : gx_rm rm_X5_takeOne rm_X5_fail 2 := ⟨rfl, rfl, by decide, by decide⟩
theorem fg_X5_48 : gx_fl RX5 48 TX5 17 10 := ⟨by decide, gx_in 367 (by decide +kernel) (by decide +kernel)⟩
theorem cv_X5_107_X5_emit : gx_cV RX5 107 RX5 yX5_emit cX5_emit 2 1 none := ⟨⟨gx_in 704 (by decide +kernel) (by decide +kernel), gx_in 705 (by decide +kernel) (by decide +kernel), gx_in 706 (by decide +kernel) (by decide +kernel), gx_in 64 (by decide +kernel) (by decide +kernel), gx_in 707 (by decide +kernel) (by decide +kernel)⟩, rfl, by decide, by decide, by decide +kernel⟩
theorem rr_X5_takeOne_X5_emit : gx_rm rm_X5_takeOne rm_X5_emit 2 := ⟨rfl, rfl, by decide, by decide⟩
theorem fg_X5_104 : gx_fl RX5 104 TX6 6 5 := ⟨by decide, gx_in 340 (by decide +kernel) (by decide +kernel)⟩
theorem cm_X5_142 : Cond.methodLink RX5 142 Lib.Math.min.name ∈ gx_U := gx_in 732 (by decide +kernel) (by decide +kernel)
theorem cs_X5_129_X5_strength : gx_cS RX5 129 yX5_strength cX5_strength 1 1 (some .int) := ⟨⟨gx_in 725 (by decide +kernel) (by decide +kernel), gx_in 726 (by decide +kernel) (by decide +kernel), gx_in 64 (by decide +kernel) (by decide +kernel), gx_in 727 (by decide +kernel) (by decide +kernel)⟩, by decide, by decide, by decide +kernel⟩
theorem rr_X5_unwind_X5_strength : gx_rm rm_X5_unwind rm_X5_strength 1 := ⟨rfl, rfl, by decide, by decide⟩
theorem rr_X5_unwind_X5_emit : gx_rm rm_X5_unwind rm_X5_emit 2 := ⟨rfl, rfl, by decide, by decide⟩
theorem rr_X5_awaitNext_X5_strength : gx_rm rm_X5_awaitNext rm_X5_strength 1 := ⟨rfl, rfl, by decide, by decide⟩
theorem cv_X5_133_X5_unwind : gx_cV RX5 133 RX5 yX5_unwind cX5_unwind 4 1 none := ⟨⟨gx_in 728 (by decide +kernel) (by decide +kernel), gx_in 729 (by decide +kernel) (by decide +kernel), gx_in 730 (by decide +kernel) (by decide +kernel), gx_in 64 (by decide +kernel) (by decide +kernel), gx_in 731 (by decide +kernel) (by decide +kernel)⟩, rfl, by decide, by decide, by decide +kernel⟩
theorem rr_X5_awaitNext_X5_unwind : gx_rm rm_X5_awaitNext rm_X5_unwind 4 := ⟨rfl, rfl, by decide, by decide⟩
theorem rr_X5_awaitNext_X5_await : gx_rm rm_X5_awaitNext rm_X5_await 2 := ⟨rfl, rfl, by decide, by decide⟩
theorem rr_X5_closeBracket_X5_unwind : gx_rm rm_X5_closeBracket rm_X5_unwind 4 := ⟨rfl, rfl, by decide, by decide⟩
theorem cm_X5_136 : Cond.methodLink RX5 136 Lib.Math.max.name ∈ gx_U := gx_in 737 (by decide +kernel) (by decide +kernel)
theorem rr_X5_endClause_X5_unwind : gx_rm rm_X5_endClause rm_X5_unwind 4 := ⟨rfl, rfl, by decide, by decide⟩
theorem fg_X5_54 : gx_fl RX5 54 TX5 17 12 := ⟨by decide, gx_in 369 (by decide +kernel) (by decide +kernel)⟩
theorem fp_X5_54 : gx_fp RX5 54 TX5 17 12 tyX5 .boolean := ⟨⟨by decide, gx_in 369 (by decide +kernel) (by decide +kernel)⟩, rfl, rfl⟩
theorem rr_X5_endClause_X5_emit : gx_rm rm_X5_endClause rm_X5_emit 2 := ⟨rfl, rfl, by decide, by decide⟩
theorem rr_X5_takeBehindOne_X10_within : gx_rm rm_X5_takeBehindOne rm_X10_within 3 := ⟨rfl, rfl, by decide, by decide⟩
theorem rr_X5_takeBehindOne_X5_fail : gx_rm rm_X5_takeBehindOne rm_X5_fail 2 := ⟨rfl, rfl, by decide, by decide⟩
theorem fg_X5_51 : gx_fl RX5 51 TX5 17 11 := ⟨by decide, gx_in 368 (by decide +kernel) (by decide +kernel)⟩
theorem cv_X5_126_X5_endClause : gx_cV RX5 126 RX5 yX5_endClause cX5_endClause 1 0 none := ⟨⟨gx_in 740 (by decide +kernel) (by decide +kernel), gx_in 741 (by decide +kernel) (by decide +kernel), gx_in 742 (by decide +kernel) (by decide +kernel), gx_in 64 (by decide +kernel) (by decide +kernel), gx_in 743 (by decide +kernel) (by decide +kernel)⟩, rfl, by decide, by decide, by decide +kernel⟩
theorem rr_X5_takeBehindOne_X5_endClause : gx_rm rm_X5_takeBehindOne rm_X5_endClause 1 := ⟨rfl, rfl, by decide, by decide⟩
theorem cv_X5_120_X5_awaitNext : gx_cV RX5 120 RX5 yX5_awaitNext cX5_awaitNext 2 1 none := ⟨⟨gx_in 721 (by decide +kernel) (by decide +kernel), gx_in 722 (by decide +kernel) (by decide +kernel), gx_in 723 (by decide +kernel) (by decide +kernel), gx_in 64 (by decide +kernel) (by decide +kernel), gx_in 724 (by decide +kernel) (by decide +kernel)⟩, rfl, by decide, by decide, by decide +kernel⟩
theorem rr_X5_takeBehindOne_X5_awaitNext : gx_rm rm_X5_takeBehindOne rm_X5_awaitNext 2 := ⟨rfl, rfl, by decide, by decide⟩
theorem cv_X5_123_X5_closeBracket : gx_cV RX5 123 RX5 yX5_closeBracket cX5_closeBracket 1 0 none := ⟨⟨gx_in 733 (by decide +kernel) (by decide +kernel), gx_in 734 (by decide +kernel) (by decide +kernel), gx_in 735 (by decide +kernel) (by decide +kernel), gx_in 64 (by decide +kernel) (by decide +kernel), gx_in 736 (by decide +kernel) (by decide +kernel)⟩, rfl, by decide, by decide, by decide +kernel⟩
theorem rr_X5_takeBehindOne_X5_closeBracket : gx_rm rm_X5_takeBehindOne rm_X5_closeBracket 1 := ⟨rfl, rfl, by decide, by decide⟩
theorem rr_X5_take_X5_fail : gx_rm rm_X5_take rm_X5_fail 2 := ⟨rfl, rfl, by decide, by decide⟩
theorem fg_X5_39 : gx_fl RX5 39 TX5 17 7 := ⟨by decide, gx_in 364 (by decide +kernel) (by decide +kernel)⟩
theorem fg_X5_45 : gx_fl RX5 45 TX5 17 9 := ⟨by decide, gx_in 366 (by decide +kernel) (by decide +kernel)⟩
theorem cv_X5_101_X5_takeBehindOne : gx_cV RX5 101 RX5 yX5_takeBehindOne cX5_takeBehindOne 2 1 none := ⟨⟨gx_in 717 (by decide +kernel) (by decide +kernel), gx_in 718 (by decide +kernel) (by decide +kernel), gx_in 719 (by decide +kernel) (by decide +kernel), gx_in 64 (by decide +kernel) (by decide +kernel), gx_in 720 (by decide +kernel) (by decide +kernel)⟩, rfl, by decide, by decide, by decide +kernel⟩
theorem rr_X5_take_X5_takeBehindOne : gx_rm rm_X5_take rm_X5_takeBehindOne 2 := ⟨rfl, rfl, by decide, by decide⟩
theorem cv_X5_98_X5_takeOne : gx_cV RX5 98 RX5 yX5_takeOne cX5_takeOne 2 1 none := ⟨⟨gx_in 700 (by decide +kernel) (by decide +kernel), gx_in 701 (by decide +kernel) (by decide +kernel), gx_in 702 (by decide +kernel) (by decide +kernel), gx_in 64 (by decide +kernel) (by decide +kernel), gx_in 703 (by decide +kernel) (by decide +kernel)⟩, rfl, by decide, by decide, by decide +kernel⟩
theorem rr_X5_take_X5_takeOne : gx_rm rm_X5_take rm_X5_takeOne 2 := ⟨rfl, rfl, by decide, by decide⟩
theorem cv_X5_95_X5_takeFirst : gx_cV RX5 95 RX5 yX5_takeFirst cX5_takeFirst 2 1 none := ⟨⟨gx_in 696 (by decide +kernel) (by decide +kernel), gx_in 697 (by decide +kernel) (by decide +kernel), gx_in 698 (by decide +kernel) (by decide +kernel), gx_in 64 (by decide +kernel) (by decide +kernel), gx_in 699 (by decide +kernel) (by decide +kernel)⟩, rfl, by decide, by decide, by decide +kernel⟩
theorem rr_X5_take_X5_takeFirst : gx_rm rm_X5_take rm_X5_takeFirst 2 := ⟨rfl, rfl, by decide, by decide⟩
theorem cv_X5_73_X6_restart : gx_cV RX5 73 RX6 yX6_restart cX6_restart 2 1 none := ⟨⟨gx_in 571 (by decide +kernel) (by decide +kernel), gx_in 572 (by decide +kernel) (by decide +kernel), gx_in 573 (by decide +kernel) (by decide +kernel), gx_in 65 (by decide +kernel) (by decide +kernel), gx_in 574 (by decide +kernel) (by decide +kernel)⟩, rfl, by decide, by decide, by decide +kernel⟩
theorem rr_X5_read_X6_restart : gx_rm rm_X5_read rm_X6_restart 2 := ⟨rfl, rfl, by decide, by decide⟩
theorem fp_X5_69 : gx_fp RX5 69 TX5 17 16 tyX5 (.object "GreenLine$Program") := ⟨⟨by decide, gx_in 375 (by decide +kernel) (by decide +kernel)⟩, rfl, rfl⟩
theorem cv_X5_77_X4_empty : gx_cV RX5 77 RX4 yX4_empty cX4_empty 1 0 none := ⟨⟨gx_in 575 (by decide +kernel) (by decide +kernel), gx_in 576 (by decide +kernel) (by decide +kernel), gx_in 577 (by decide +kernel) (by decide +kernel), gx_in 62 (by decide +kernel) (by decide +kernel), gx_in 578 (by decide +kernel) (by decide +kernel)⟩, rfl, by decide, by decide, by decide +kernel⟩
theorem rr_X5_read_X4_empty : gx_rm rm_X5_read rm_X4_empty 1 := ⟨rfl, rfl, by decide, by decide⟩
theorem fg_X5_57 : gx_fl RX5 57 TX5 17 13 := ⟨by decide, gx_in 370 (by decide +kernel) (by decide +kernel)⟩
theorem cv_X5_80_X6_next : gx_cV RX5 80 RX6 yX6_next cX6_next 2 0 none := ⟨⟨gx_in 579 (by decide +kernel) (by decide +kernel), gx_in 580 (by decide +kernel) (by decide +kernel), gx_in 581 (by decide +kernel) (by decide +kernel), gx_in 65 (by decide +kernel) (by decide +kernel), gx_in 582 (by decide +kernel) (by decide +kernel)⟩, rfl, by decide, by decide, by decide +kernel⟩
theorem rr_X5_read_X6_next : gx_rm rm_X5_read rm_X6_next 2 := ⟨rfl, rfl, by decide, by decide⟩
theorem fg_X5_83 : gx_fl RX5 83 TX6 6 4 := ⟨by decide, gx_in 338 (by decide +kernel) (by decide +kernel)⟩
theorem cv_X5_86_X5_take : gx_cV RX5 86 RX5 yX5_take cX5_take 2 1 none := ⟨⟨gx_in 688 (by decide +kernel) (by decide +kernel), gx_in 689 (by decide +kernel) (by decide +kernel), gx_in 690 (by decide +kernel) (by decide +kernel), gx_in 64 (by decide +kernel) (by decide +kernel), gx_in 691 (by decide +kernel) (by decide +kernel)⟩, rfl, by decide, by decide, by decide +kernel⟩
theorem rr_X5_read_X5_take : gx_rm rm_X5_read rm_X5_take 2 := ⟨rfl, rfl, by decide, by decide⟩
theorem rr_X7_glowOf_X10_within : gx_rm rm_X7_glowOf rm_X10_within 3 := ⟨rfl, rfl, by decide, by decide⟩
theorem cv_X7_25_X7_glowOf : gx_cV RX7 25 RX7 yX7_glowOf cX7_glowOf 4 2 (some .int) := ⟨⟨gx_in 866 (by decide +kernel) (by decide +kernel), gx_in 851 (by decide +kernel) (by decide +kernel), gx_in 852 (by decide +kernel) (by decide +kernel), gx_in 66 (by decide +kernel) (by decide +kernel), gx_in 853 (by decide +kernel) (by decide +kernel)⟩, rfl, by decide, by decide, by decide +kernel⟩
theorem rr_X7_bits_X7_glowOf : gx_rm rm_X7_bits rm_X7_glowOf 4 := ⟨rfl, rfl, by decide, by decide⟩
theorem kc_J6_265 : Cond.constant RJ6 265 1431655765 ∈ gx_U := gx_in 870 (by decide +kernel) (by decide +kernel)
theorem kc_J6_266 : Cond.constant RJ6 266 858993459 ∈ gx_U := gx_in 871 (by decide +kernel) (by decide +kernel)
theorem kc_J6_267 : Cond.constant RJ6 267 252645135 ∈ gx_U := gx_in 872 (by decide +kernel) (by decide +kernel)
theorem cv_X7_28_X7_bits : gx_cV RX7 28 RX7 yX7_bits cX7_bits 5 2 (some .int) := ⟨⟨gx_in 862 (by decide +kernel) (by decide +kernel), gx_in 863 (by decide +kernel) (by decide +kernel), gx_in 864 (by decide +kernel) (by decide +kernel), gx_in 66 (by decide +kernel) (by decide +kernel), gx_in 865 (by decide +kernel) (by decide +kernel)⟩, rfl, by decide, by decide, by decide +kernel⟩
theorem rr_X7_dots_X7_bits : gx_rm rm_X7_dots rm_X7_bits 5 := ⟨rfl, rfl, by decide, by decide⟩
theorem cs_X7_31_J6_bitCount_0f7a4 : gx_cS RX7 31 yJ6_bitCount_0f7a4 cJ6_bitCount_0f7a4 1 1 (some .int) := ⟨⟨gx_in 867 (by decide +kernel) (by decide +kernel), gx_in 868 (by decide +kernel) (by decide +kernel), gx_in 73 (by decide +kernel) (by decide +kernel), gx_in 869 (by decide +kernel) (by decide +kernel)⟩, by decide, by decide, by decide +kernel⟩
theorem rr_X7_dots_J6_bitCount_0f7a4 : gx_rm rm_X7_dots rm_J6_bitCount_0f7a4 1 := ⟨rfl, rfl, by decide, by decide⟩
theorem cn_X9_22_X10_within : gx_cN RX9 22 "GreenLine" yX10_within cX10_within 3 3 (some .boolean) := ⟨⟨by unfold gx_nest; simp [RX9], gx_in 468 (by decide +kernel) (by decide +kernel), gx_in 56 (by decide +kernel) (by decide +kernel), gx_in 469 (by decide +kernel) (by decide +kernel)⟩, by decide, by decide, by decide +kernel⟩
theorem rr_X9_add_X10_within : gx_rm rm_X9_add rm_X10_within 3 := ⟨rfl, rfl, by decide, by decide⟩
theorem cv_X9_26_X3_set : gx_cV RX9 26 RX3 yX3_set cX3_set 6 5 none := ⟨⟨gx_in 475 (by decide +kernel) (by decide +kernel), gx_in 476 (by decide +kernel) (by decide +kernel), gx_in 477 (by decide +kernel) (by decide +kernel), gx_in 60 (by decide +kernel) (by decide +kernel), gx_in 478 (by decide +kernel) (by decide +kernel)⟩, rfl, by decide, by decide, by decide +kernel⟩
theorem rr_X9_add_X3_set : gx_rm rm_X9_add rm_X3_set 6 := ⟨rfl, rfl, by decide, by decide⟩
theorem fp_X9_17 : gx_fp RX9 17 TX9 2 1 tyX9 .int := ⟨⟨by decide, gx_in 137 (by decide +kernel) (by decide +kernel)⟩, rfl, rfl⟩
theorem fg_X9_34 : gx_fl RX9 34 TX3 5 0 := ⟨by decide, gx_in 111 (by decide +kernel) (by decide +kernel)⟩
theorem fg_X9_37 : gx_fl RX9 37 TX3 5 1 := ⟨by decide, gx_in 114 (by decide +kernel) (by decide +kernel)⟩
theorem fg_X9_40 : gx_fl RX9 40 TX3 5 2 := ⟨by decide, gx_in 116 (by decide +kernel) (by decide +kernel)⟩
theorem fg_X9_43 : gx_fl RX9 43 TX3 5 3 := ⟨by decide, gx_in 119 (by decide +kernel) (by decide +kernel)⟩
theorem fg_X9_46 : gx_fl RX9 46 TX3 5 4 := ⟨by decide, gx_in 121 (by decide +kernel) (by decide +kernel)⟩
theorem cv_X9_49_X9_add : gx_cV RX9 49 RX9 yX9_add cX9_add 6 5 none := ⟨⟨gx_in 974 (by decide +kernel) (by decide +kernel), gx_in 471 (by decide +kernel) (by decide +kernel), gx_in 472 (by decide +kernel) (by decide +kernel), gx_in 59 (by decide +kernel) (by decide +kernel), gx_in 473 (by decide +kernel) (by decide +kernel)⟩, rfl, by decide, by decide, by decide +kernel⟩
theorem rr_X9_copyFrom_X9_add : gx_rm rm_X9_copyFrom rm_X9_add 6 := ⟨rfl, rfl, by decide, by decide⟩
theorem fg_X8_11 : gx_fl RX8 11 TX8 10 0 := ⟨by decide, gx_in 172 (by decide +kernel) (by decide +kernel)⟩
theorem cv_X8_53_X9_copyFrom : gx_cV RX8 53 RX9 yX9_copyFrom cX9_copyFrom 4 1 none := ⟨⟨gx_in 970 (by decide +kernel) (by decide +kernel), gx_in 971 (by decide +kernel) (by decide +kernel), gx_in 972 (by decide +kernel) (by decide +kernel), gx_in 59 (by decide +kernel) (by decide +kernel), gx_in 973 (by decide +kernel) (by decide +kernel)⟩, rfl, by decide, by decide, by decide +kernel⟩
theorem rr_X8_copyFrom_X9_copyFrom : gx_rm rm_X8_copyFrom rm_X9_copyFrom 4 := ⟨rfl, rfl, by decide, by decide⟩
theorem fg_X8_19 : gx_fl RX8 19 TX8 10 1 := ⟨by decide, gx_in 175 (by decide +kernel) (by decide +kernel)⟩
theorem cv_X8_57_X2_copyFrom : gx_cV RX8 57 RX2 yX2_copyFrom cX2_copyFrom 2 1 none := ⟨⟨gx_in 975 (by decide +kernel) (by decide +kernel), gx_in 976 (by decide +kernel) (by decide +kernel), gx_in 977 (by decide +kernel) (by decide +kernel), gx_in 61 (by decide +kernel) (by decide +kernel), gx_in 978 (by decide +kernel) (by decide +kernel)⟩, rfl, by decide, by decide, by decide +kernel⟩
theorem rr_X8_copyFrom_X2_copyFrom : gx_rm rm_X8_copyFrom rm_X2_copyFrom 2 := ⟨rfl, rfl, by decide, by decide⟩
theorem fg_X8_23 : gx_fl RX8 23 TX8 10 2 := ⟨by decide, gx_in 178 (by decide +kernel) (by decide +kernel)⟩
theorem fg_X8_27 : gx_fl RX8 27 TX8 10 3 := ⟨by decide, gx_in 180 (by decide +kernel) (by decide +kernel)⟩
theorem fp_X8_27 : gx_fp RX8 27 TX8 10 3 tyX8 .int := ⟨⟨by decide, gx_in 180 (by decide +kernel) (by decide +kernel)⟩, rfl, rfl⟩
theorem fg_X8_31 : gx_fl RX8 31 TX8 10 4 := ⟨by decide, gx_in 183 (by decide +kernel) (by decide +kernel)⟩
theorem fp_X8_31 : gx_fp RX8 31 TX8 10 4 tyX8 .int := ⟨⟨by decide, gx_in 183 (by decide +kernel) (by decide +kernel)⟩, rfl, rfl⟩
theorem fg_X8_34 : gx_fl RX8 34 TX8 10 5 := ⟨by decide, gx_in 186 (by decide +kernel) (by decide +kernel)⟩
theorem fp_X8_34 : gx_fp RX8 34 TX8 10 5 tyX8 .int := ⟨⟨by decide, gx_in 186 (by decide +kernel) (by decide +kernel)⟩, rfl, rfl⟩
theorem fg_X8_37 : gx_fl RX8 37 TX8 10 6 := ⟨by decide, gx_in 189 (by decide +kernel) (by decide +kernel)⟩
theorem fp_X8_37 : gx_fp RX8 37 TX8 10 6 tyX8 .int := ⟨⟨by decide, gx_in 189 (by decide +kernel) (by decide +kernel)⟩, rfl, rfl⟩
theorem fg_X8_40 : gx_fl RX8 40 TX8 10 7 := ⟨by decide, gx_in 192 (by decide +kernel) (by decide +kernel)⟩
theorem fp_X8_40 : gx_fp RX8 40 TX8 10 7 tyX8 .int := ⟨⟨by decide, gx_in 192 (by decide +kernel) (by decide +kernel)⟩, rfl, rfl⟩
theorem fg_X8_43 : gx_fl RX8 43 TX8 10 8 := ⟨by decide, gx_in 195 (by decide +kernel) (by decide +kernel)⟩
theorem fp_X8_43 : gx_fp RX8 43 TX8 10 8 tyX8 .int := ⟨⟨by decide, gx_in 195 (by decide +kernel) (by decide +kernel)⟩, rfl, rfl⟩
theorem fg_X8_46 : gx_fl RX8 46 TX8 10 9 := ⟨by decide, gx_in 197 (by decide +kernel) (by decide +kernel)⟩
theorem fp_X8_46 : gx_fp RX8 46 TX8 10 9 tyX8 .int := ⟨⟨by decide, gx_in 197 (by decide +kernel) (by decide +kernel)⟩, rfl, rfl⟩
theorem cs_X10_77_X10_isSignal : gx_cS RX10 77 yX10_isSignal cX10_isSignal 1 1 (some .boolean) := ⟨⟨gx_in 464 (by decide +kernel) (by decide +kernel), gx_in 465 (by decide +kernel) (by decide +kernel), gx_in 56 (by decide +kernel) (by decide +kernel), gx_in 466 (by decide +kernel) (by decide +kernel)⟩, by decide, by decide, by decide +kernel⟩
theorem rr_X10_part_X10_isSignal : gx_rm rm_X10_part rm_X10_isSignal 1 := ⟨rfl, rfl, by decide, by decide⟩
theorem fg_X10_20 : gx_fl RX10 20 TX10 12 1 := ⟨by decide, gx_in 424 (by decide +kernel) (by decide +kernel)⟩
theorem fg_X10_85 : gx_fl RX10 85 TX8 10 0 := ⟨by decide, gx_in 173 (by decide +kernel) (by decide +kernel)⟩
theorem fg_X10_89 : gx_fl RX10 89 TX9 2 1 := ⟨by decide, gx_in 138 (by decide +kernel) (by decide +kernel)⟩
theorem cv_X10_94_X9_add : gx_cV RX10 94 RX9 yX9_add cX9_add 6 5 none := ⟨⟨gx_in 470 (by decide +kernel) (by decide +kernel), gx_in 471 (by decide +kernel) (by decide +kernel), gx_in 472 (by decide +kernel) (by decide +kernel), gx_in 59 (by decide +kernel) (by decide +kernel), gx_in 473 (by decide +kernel) (by decide +kernel)⟩, rfl, by decide, by decide, by decide +kernel⟩
theorem rr_X10_part_X9_add : gx_rm rm_X10_part rm_X9_add 6 := ⟨rfl, rfl, by decide, by decide⟩
theorem fg_X10_10 : gx_fl RX10 10 TX10 12 0 := ⟨by decide, gx_in 423 (by decide +kernel) (by decide +kernel)⟩
theorem cv_X10_98_X1_forget : gx_cV RX10 98 RX1 yX1_forget cX1_forget 1 0 none := ⟨⟨gx_in 479 (by decide +kernel) (by decide +kernel), gx_in 480 (by decide +kernel) (by decide +kernel), gx_in 481 (by decide +kernel) (by decide +kernel), gx_in 57 (by decide +kernel) (by decide +kernel), gx_in 482 (by decide +kernel) (by decide +kernel)⟩, rfl, by decide, by decide, by decide +kernel⟩
theorem rr_X10_part_X1_forget : gx_rm rm_X10_part rm_X1_forget 1 := ⟨rfl, rfl, by decide, by decide⟩
theorem rr_X10_part_X10_within : gx_rm rm_X10_part rm_X10_within 3 := ⟨rfl, rfl, by decide, by decide⟩
theorem rr_X10_clear_X10_isSignal : gx_rm rm_X10_clear rm_X10_isSignal 1 := ⟨rfl, rfl, by decide, by decide⟩
theorem fp_X10_89 : gx_fp RX10 89 TX9 2 1 tyX9 .int := ⟨⟨by decide, gx_in 138 (by decide +kernel) (by decide +kernel)⟩, rfl, rfl⟩
theorem rr_X10_clear_X1_forget : gx_rm rm_X10_clear rm_X1_forget 1 := ⟨rfl, rfl, by decide, by decide⟩
theorem rr_X10_raw_X10_isSignal : gx_rm rm_X10_raw rm_X10_isSignal 1 := ⟨rfl, rfl, by decide, by decide⟩
theorem kc_X10_101 : Cond.constant RX10 101 (-1000000) ∈ gx_U := gx_in 491 (by decide +kernel) (by decide +kernel)
theorem rr_X10_raw_X10_within : gx_rm rm_X10_raw rm_X10_within 3 := ⟨rfl, rfl, by decide, by decide⟩
theorem cv_X10_102_X9_heightAt : gx_cV RX10 102 RX9 yX9_heightAt cX9_heightAt 4 1 (some .int) := ⟨⟨gx_in 492 (by decide +kernel) (by decide +kernel), gx_in 493 (by decide +kernel) (by decide +kernel), gx_in 494 (by decide +kernel) (by decide +kernel), gx_in 59 (by decide +kernel) (by decide +kernel), gx_in 495 (by decide +kernel) (by decide +kernel)⟩, rfl, by decide, by decide, by decide +kernel⟩
theorem rr_X10_raw_X9_heightAt : gx_rm rm_X10_raw rm_X9_heightAt 4 := ⟨rfl, rfl, by decide, by decide⟩
theorem cs_X10_106_X10_isChannel : gx_cS RX10 106 yX10_isChannel cX10_isChannel 1 1 (some .boolean) := ⟨⟨gx_in 508 (by decide +kernel) (by decide +kernel), gx_in 509 (by decide +kernel) (by decide +kernel), gx_in 56 (by decide +kernel) (by decide +kernel), gx_in 510 (by decide +kernel) (by decide +kernel)⟩, by decide, by decide, by decide +kernel⟩
theorem rr_X10_probe_X10_isChannel : gx_rm rm_X10_probe rm_X10_isChannel 1 := ⟨rfl, rfl, by decide, by decide⟩
theorem rr_X10_probe_X10_within : gx_rm rm_X10_probe rm_X10_within 3 := ⟨rfl, rfl, by decide, by decide⟩
theorem fg_X10_109 : gx_fl RX10 109 TX8 10 1 := ⟨by decide, gx_in 177 (by decide +kernel) (by decide +kernel)⟩
theorem cv_X10_113_X2_setProbe : gx_cV RX10 113 RX2 yX2_setProbe cX2_setProbe 4 3 none := ⟨⟨gx_in 511 (by decide +kernel) (by decide +kernel), gx_in 512 (by decide +kernel) (by decide +kernel), gx_in 513 (by decide +kernel) (by decide +kernel), gx_in 61 (by decide +kernel) (by decide +kernel), gx_in 514 (by decide +kernel) (by decide +kernel)⟩, rfl, by decide, by decide, by decide +kernel⟩
theorem rr_X10_probe_X2_setProbe : gx_rm rm_X10_probe rm_X2_setProbe 4 := ⟨rfl, rfl, by decide, by decide⟩
theorem rr_X10_probe_X1_forget : gx_rm rm_X10_probe rm_X1_forget 1 := ⟨rfl, rfl, by decide, by decide⟩
theorem rr_X10_channel_X10_isChannel : gx_rm rm_X10_channel rm_X10_isChannel 1 := ⟨rfl, rfl, by decide, by decide⟩
theorem rr_X10_channel_X10_isSignal : gx_rm rm_X10_channel rm_X10_isSignal 1 := ⟨rfl, rfl, by decide, by decide⟩
theorem rr_X10_channel_X10_within : gx_rm rm_X10_channel rm_X10_within 3 := ⟨rfl, rfl, by decide, by decide⟩
theorem cv_X10_119_X2_setView : gx_cV RX10 119 RX2 yX2_setView cX2_setView 4 3 none := ⟨⟨gx_in 519 (by decide +kernel) (by decide +kernel), gx_in 520 (by decide +kernel) (by decide +kernel), gx_in 521 (by decide +kernel) (by decide +kernel), gx_in 61 (by decide +kernel) (by decide +kernel), gx_in 522 (by decide +kernel) (by decide +kernel)⟩, rfl, by decide, by decide, by decide +kernel⟩
theorem rr_X10_channel_X2_setView : gx_rm rm_X10_channel rm_X2_setView 4 := ⟨rfl, rfl, by decide, by decide⟩
theorem rr_X10_channel_X1_forget : gx_rm rm_X10_channel rm_X1_forget 1 := ⟨rfl, rfl, by decide, by decide⟩
theorem rr_X10_out_X10_isChannel : gx_rm rm_X10_out rm_X10_isChannel 1 := ⟨rfl, rfl, by decide, by decide⟩
theorem rr_X10_out_X10_within : gx_rm rm_X10_out rm_X10_within 3 := ⟨rfl, rfl, by decide, by decide⟩
theorem cv_X10_122_X1_outAt : gx_cV RX10 122 RX1 yX1_outAt cX1_outAt 3 2 (some .int) := ⟨⟨gx_in 527 (by decide +kernel) (by decide +kernel), gx_in 528 (by decide +kernel) (by decide +kernel), gx_in 529 (by decide +kernel) (by decide +kernel), gx_in 57 (by decide +kernel) (by decide +kernel), gx_in 530 (by decide +kernel) (by decide +kernel)⟩, rfl, by decide, by decide, by decide +kernel⟩
theorem rr_X10_out_X1_outAt : gx_rm rm_X10_out rm_X1_outAt 3 := ⟨rfl, rfl, by decide, by decide⟩
theorem rr_X10_base_X10_within : gx_rm rm_X10_base rm_X10_within 3 := ⟨rfl, rfl, by decide, by decide⟩
theorem fp_X10_126 : gx_fp RX10 126 TX8 10 3 tyX8 .int := ⟨⟨by decide, gx_in 182 (by decide +kernel) (by decide +kernel)⟩, rfl, rfl⟩
theorem fp_X10_129 : gx_fp RX10 129 TX8 10 4 tyX8 .int := ⟨⟨by decide, gx_in 185 (by decide +kernel) (by decide +kernel)⟩, rfl, rfl⟩
theorem fp_X10_132 : gx_fp RX10 132 TX8 10 5 tyX8 .int := ⟨⟨by decide, gx_in 187 (by decide +kernel) (by decide +kernel)⟩, rfl, rfl⟩
theorem rr_X10_mode_X10_within : gx_rm rm_X10_mode rm_X10_within 3 := ⟨rfl, rfl, by decide, by decide⟩
theorem fp_X10_135 : gx_fp RX10 135 TX8 10 6 tyX8 .int := ⟨⟨by decide, gx_in 190 (by decide +kernel) (by decide +kernel)⟩, rfl, rfl⟩
theorem fp_X10_138 : gx_fp RX10 138 TX8 10 7 tyX8 .int := ⟨⟨by decide, gx_in 193 (by decide +kernel) (by decide +kernel)⟩, rfl, rfl⟩
theorem fg_X10_67 : gx_fl RX10 67 TX10 12 9 := ⟨by decide, gx_in 432 (by decide +kernel) (by decide +kernel)⟩
theorem fg_X10_44 : gx_fl RX10 44 TX10 12 4 := ⟨by decide, gx_in 427 (by decide +kernel) (by decide +kernel)⟩
theorem rr_X10_feedNumber_X10_within : gx_rm rm_X10_feedNumber rm_X10_within 3 := ⟨rfl, rfl, by decide, by decide⟩
theorem fp_X10_67 : gx_fp RX10 67 TX10 12 9 tyX10 .int := ⟨⟨by decide, gx_in 432 (by decide +kernel) (by decide +kernel)⟩, rfl, rfl⟩
theorem cv_X10_141_X10_feedNumber : gx_cV RX10 141 RX10 yX10_feedNumber cX10_feedNumber 3 1 none := ⟨⟨gx_in 555 (by decide +kernel) (by decide +kernel), gx_in 557 (by decide +kernel) (by decide +kernel), gx_in 0 (by decide +kernel) (by decide +kernel), gx_in 56 (by decide +kernel) (by decide +kernel), gx_in 558 (by decide +kernel) (by decide +kernel)⟩, rfl, by decide, by decide, by decide +kernel⟩
theorem rr_X10_feed_X10_feedNumber : gx_rm rm_X10_feed rm_X10_feedNumber 3 := ⟨rfl, rfl, by decide, by decide⟩
theorem rr_X10_end_X10_within : gx_rm rm_X10_end rm_X10_within 3 := ⟨rfl, rfl, by decide, by decide⟩
theorem fg_X10_145 : gx_fl RX10 145 TX8 10 8 := ⟨by decide, gx_in 196 (by decide +kernel) (by decide +kernel)⟩
theorem rr_X10_text_X10_within : gx_rm rm_X10_text rm_X10_within 3 := ⟨rfl, rfl, by decide, by decide⟩
theorem fg_X10_30 : gx_fl RX10 30 TX10 12 3 := ⟨by decide, gx_in 426 (by decide +kernel) (by decide +kernel)⟩
theorem fg_X10_148 : gx_fl RX10 148 TX1 9 1 := ⟨by decide, gx_in 288 (by decide +kernel) (by decide +kernel)⟩
theorem cv_X10_152_X5_read : gx_cV RX10 152 RX5 yX5_read cX5_read 4 2 none := ⟨⟨gx_in 567 (by decide +kernel) (by decide +kernel), gx_in 568 (by decide +kernel) (by decide +kernel), gx_in 569 (by decide +kernel) (by decide +kernel), gx_in 64 (by decide +kernel) (by decide +kernel), gx_in 570 (by decide +kernel) (by decide +kernel)⟩, rfl, by decide, by decide, by decide +kernel⟩
theorem rr_X10_text_X5_read : gx_rm rm_X10_text rm_X5_read 4 := ⟨rfl, rfl, by decide, by decide⟩
theorem fg_X10_156 : gx_fl RX10 156 TX5 17 14 := ⟨by decide, gx_in 372 (by decide +kernel) (by decide +kernel)⟩
theorem fp_X10_71 : gx_fp RX10 71 TX10 12 10 tyX10 .int := ⟨⟨by decide, gx_in 433 (by decide +kernel) (by decide +kernel)⟩, rfl, rfl⟩
theorem fg_X10_159 : gx_fl RX10 159 TX5 17 15 := ⟨by decide, gx_in 374 (by decide +kernel) (by decide +kernel)⟩
theorem fp_X10_74 : gx_fp RX10 74 TX10 12 11 tyX10 .int := ⟨⟨by decide, gx_in 434 (by decide +kernel) (by decide +kernel)⟩, rfl, rfl⟩
theorem fp_X10_145 : gx_fp RX10 145 TX8 10 8 tyX8 .int := ⟨⟨by decide, gx_in 196 (by decide +kernel) (by decide +kernel)⟩, rfl, rfl⟩
theorem fg_X10_74 : gx_fl RX10 74 TX10 12 11 := ⟨by decide, gx_in 434 (by decide +kernel) (by decide +kernel)⟩
theorem fg_X10_71 : gx_fl RX10 71 TX10 12 10 := ⟨by decide, gx_in 433 (by decide +kernel) (by decide +kernel)⟩
theorem rr_X10_by_X10_within : gx_rm rm_X10_by rm_X10_within 3 := ⟨rfl, rfl, by decide, by decide⟩
theorem fp_X10_162 : gx_fp RX10 162 TX8 10 9 tyX8 .int := ⟨⟨by decide, gx_in 199 (by decide +kernel) (by decide +kernel)⟩, rfl, rfl⟩
theorem rr_X10_isSpan_X10_within : gx_rm rm_X10_isSpan rm_X10_within 3 := ⟨rfl, rfl, by decide, by decide⟩
theorem cs_X10_165_X10_isSpan : gx_cS RX10 165 yX10_isSpan cX10_isSpan 1 1 (some .boolean) := ⟨⟨gx_in 757 (by decide +kernel) (by decide +kernel), gx_in 758 (by decide +kernel) (by decide +kernel), gx_in 56 (by decide +kernel) (by decide +kernel), gx_in 759 (by decide +kernel) (by decide +kernel)⟩, by decide, by decide, by decide +kernel⟩
theorem rr_X10_swept_X10_isSpan : gx_rm rm_X10_swept rm_X10_isSpan 1 := ⟨rfl, rfl, by decide, by decide⟩
theorem cv_X10_168_X1_restart : gx_cV RX10 168 RX1 yX1_restart cX1_restart 1 0 none := ⟨⟨gx_in 760 (by decide +kernel) (by decide +kernel), gx_in 761 (by decide +kernel) (by decide +kernel), gx_in 762 (by decide +kernel) (by decide +kernel), gx_in 57 (by decide +kernel) (by decide +kernel), gx_in 763 (by decide +kernel) (by decide +kernel)⟩, rfl, by decide, by decide, by decide +kernel⟩
theorem rr_X10_swept_X1_restart : gx_rm rm_X10_swept rm_X1_restart 1 := ⟨rfl, rfl, by decide, by decide⟩
theorem cv_X10_171_X1_next : gx_cV RX10 171 RX1 yX1_next cX1_next 4 1 (some .boolean) := ⟨⟨gx_in 764 (by decide +kernel) (by decide +kernel), gx_in 765 (by decide +kernel) (by decide +kernel), gx_in 766 (by decide +kernel) (by decide +kernel), gx_in 57 (by decide +kernel) (by decide +kernel), gx_in 767 (by decide +kernel) (by decide +kernel)⟩, rfl, by decide, by decide, by decide +kernel⟩
theorem rr_X10_swept_X1_next : gx_rm rm_X10_swept rm_X1_next 4 := ⟨rfl, rfl, by decide, by decide⟩
theorem fg_X10_174 : gx_fl RX10 174 TX1 9 8 := ⟨by decide, gx_in 297 (by decide +kernel) (by decide +kernel)⟩
theorem fg_X10_177 : gx_fl RX10 177 TX1 9 7 := ⟨by decide, gx_in 295 (by decide +kernel) (by decide +kernel)⟩
theorem rr_X10_glow_X10_isSpan : gx_rm rm_X10_glow rm_X10_isSpan 1 := ⟨rfl, rfl, by decide, by decide⟩
theorem rr_X10_glow_X10_within : gx_rm rm_X10_glow rm_X10_within 3 := ⟨rfl, rfl, by decide, by decide⟩
theorem fg_X10_50 : gx_fl RX10 50 TX10 12 5 := ⟨by decide, gx_in 428 (by decide +kernel) (by decide +kernel)⟩
theorem cv_X10_180_X1_draw : gx_cV RX10 180 RX1 yX1_draw cX1_draw 4 2 none := ⟨⟨gx_in 811 (by decide +kernel) (by decide +kernel), gx_in 812 (by decide +kernel) (by decide +kernel), gx_in 813 (by decide +kernel) (by decide +kernel), gx_in 57 (by decide +kernel) (by decide +kernel), gx_in 814 (by decide +kernel) (by decide +kernel)⟩, rfl, by decide, by decide, by decide +kernel⟩
theorem rr_X10_glow_X1_draw : gx_rm rm_X10_glow rm_X1_draw 4 := ⟨rfl, rfl, by decide, by decide⟩
theorem cv_X10_184_X7_glowOf : gx_cV RX10 184 RX7 yX7_glowOf cX7_glowOf 4 2 (some .int) := ⟨⟨gx_in 850 (by decide +kernel) (by decide +kernel), gx_in 851 (by decide +kernel) (by decide +kernel), gx_in 852 (by decide +kernel) (by decide +kernel), gx_in 66 (by decide +kernel) (by decide +kernel), gx_in 853 (by decide +kernel) (by decide +kernel)⟩, rfl, by decide, by decide, by decide +kernel⟩
theorem rr_X10_glow_X7_glowOf : gx_rm rm_X10_glow rm_X7_glowOf 4 := ⟨rfl, rfl, by decide, by decide⟩
theorem rr_X10_lit_X10_isSpan : gx_rm rm_X10_lit rm_X10_isSpan 1 := ⟨rfl, rfl, by decide, by decide⟩
theorem rr_X10_lit_X10_within : gx_rm rm_X10_lit rm_X10_within 3 := ⟨rfl, rfl, by decide, by decide⟩
theorem rr_X10_lit_X1_draw : gx_rm rm_X10_lit rm_X1_draw 4 := ⟨rfl, rfl, by decide, by decide⟩
theorem cv_X10_190_X7_bits : gx_cV RX10 190 RX7 yX7_bits cX7_bits 5 2 (some .int) := ⟨⟨gx_in 873 (by decide +kernel) (by decide +kernel), gx_in 863 (by decide +kernel) (by decide +kernel), gx_in 864 (by decide +kernel) (by decide +kernel), gx_in 66 (by decide +kernel) (by decide +kernel), gx_in 865 (by decide +kernel) (by decide +kernel)⟩, rfl, by decide, by decide, by decide +kernel⟩
theorem rr_X10_lit_X7_bits : gx_rm rm_X10_lit rm_X7_bits 5 := ⟨rfl, rfl, by decide, by decide⟩
theorem cv_X10_187_X7_dots : gx_cV RX10 187 RX7 yX7_dots cX7_dots 4 1 (some .int) := ⟨⟨gx_in 858 (by decide +kernel) (by decide +kernel), gx_in 859 (by decide +kernel) (by decide +kernel), gx_in 860 (by decide +kernel) (by decide +kernel), gx_in 66 (by decide +kernel) (by decide +kernel), gx_in 861 (by decide +kernel) (by decide +kernel)⟩, rfl, by decide, by decide, by decide +kernel⟩
theorem rr_X10_lit_X7_dots : gx_rm rm_X10_lit rm_X7_dots 4 := ⟨rfl, rfl, by decide, by decide⟩
theorem rr_X10_takeSamples_X1_outAt : gx_rm rm_X10_takeSamples rm_X1_outAt 3 := ⟨rfl, rfl, by decide, by decide⟩
theorem fg_X10_61 : gx_fl RX10 61 TX10 12 7 := ⟨by decide, gx_in 430 (by decide +kernel) (by decide +kernel)⟩
theorem fg_X10_126 : gx_fl RX10 126 TX8 10 3 := ⟨by decide, gx_in 182 (by decide +kernel) (by decide +kernel)⟩
theorem cm_X10_202 : Cond.methodLink RX10 202 Lib.Math.max.name ∈ gx_U := gx_in 882 (by decide +kernel) (by decide +kernel)
theorem fg_X10_57 : gx_fl RX10 57 TX10 12 6 := ⟨by decide, gx_in 429 (by decide +kernel) (by decide +kernel)⟩
theorem cv_X10_207_X3_heightAt : gx_cV RX10 207 RX3 yX3_heightAt cX3_heightAt 2 1 (some .int) := ⟨⟨gx_in 888 (by decide +kernel) (by decide +kernel), gx_in 497 (by decide +kernel) (by decide +kernel), gx_in 498 (by decide +kernel) (by decide +kernel), gx_in 60 (by decide +kernel) (by decide +kernel), gx_in 499 (by decide +kernel) (by decide +kernel)⟩, rfl, by decide, by decide, by decide +kernel⟩
theorem rr_X10_guessFits_X3_heightAt : gx_rm rm_X10_guessFits rm_X3_heightAt 2 := ⟨rfl, rfl, by decide, by decide⟩
theorem rr_X10_otherwise_X10_isChannel : gx_rm rm_X10_otherwise rm_X10_isChannel 1 := ⟨rfl, rfl, by decide, by decide⟩
theorem rr_X10_otherwise_X10_within : gx_rm rm_X10_otherwise rm_X10_within 3 := ⟨rfl, rfl, by decide, by decide⟩
theorem cv_X10_193_X10_takeSamples : gx_cV RX10 193 RX10 yX10_takeSamples cX10_takeSamples 5 2 (some .int) := ⟨⟨gx_in 878 (by decide +kernel) (by decide +kernel), gx_in 880 (by decide +kernel) (by decide +kernel), gx_in 1 (by decide +kernel) (by decide +kernel), gx_in 56 (by decide +kernel) (by decide +kernel), gx_in 881 (by decide +kernel) (by decide +kernel)⟩, rfl, by decide, by decide, by decide +kernel⟩
theorem rr_X10_otherwise_X10_takeSamples : gx_rm rm_X10_otherwise rm_X10_takeSamples 5 := ⟨rfl, rfl, by decide, by decide⟩
theorem cv_X10_196_X3_set : gx_cV RX10 196 RX3 yX3_set cX3_set 6 5 none := ⟨⟨gx_in 883 (by decide +kernel) (by decide +kernel), gx_in 476 (by decide +kernel) (by decide +kernel), gx_in 477 (by decide +kernel) (by decide +kernel), gx_in 60 (by decide +kernel) (by decide +kernel), gx_in 478 (by decide +kernel) (by decide +kernel)⟩, rfl, by decide, by decide, by decide +kernel⟩
theorem rr_X10_otherwise_X3_set : gx_rm rm_X10_otherwise rm_X3_set 6 := ⟨rfl, rfl, by decide, by decide⟩
theorem cv_X10_199_X10_guessFits : gx_cV RX10 199 RX10 yX10_guessFits cX10_guessFits 3 1 (some .boolean) := ⟨⟨gx_in 884 (by decide +kernel) (by decide +kernel), gx_in 886 (by decide +kernel) (by decide +kernel), gx_in 2 (by decide +kernel) (by decide +kernel), gx_in 56 (by decide +kernel) (by decide +kernel), gx_in 887 (by decide +kernel) (by decide +kernel)⟩, rfl, by decide, by decide, by decide +kernel⟩
theorem rr_X10_otherwise_X10_guessFits : gx_rm rm_X10_otherwise rm_X10_guessFits 3 := ⟨rfl, rfl, by decide, by decide⟩
theorem rr_X10_caught_X10_isSignal : gx_rm rm_X10_caught rm_X10_isSignal 1 := ⟨rfl, rfl, by decide, by decide⟩
theorem rr_X10_caught_X10_isSpan : gx_rm rm_X10_caught rm_X10_isSpan 1 := ⟨rfl, rfl, by decide, by decide⟩
theorem rr_X10_caught_X10_within : gx_rm rm_X10_caught rm_X10_within 3 := ⟨rfl, rfl, by decide, by decide⟩
theorem fg_X10_208 : gx_fl RX10 208 TX9 2 0 := ⟨by decide, gx_in 136 (by decide +kernel) (by decide +kernel)⟩
theorem fg_X10_212 : gx_fl RX10 212 TX3 5 0 := ⟨by decide, gx_in 112 (by decide +kernel) (by decide +kernel)⟩
theorem fg_X10_215 : gx_fl RX10 215 TX3 5 4 := ⟨by decide, gx_in 122 (by decide +kernel) (by decide +kernel)⟩
theorem fg_X10_218 : gx_fl RX10 218 TX3 5 2 := ⟨by decide, gx_in 117 (by decide +kernel) (by decide +kernel)⟩
theorem fp_X10_215 : gx_fp RX10 215 TX3 5 4 tyX3 .int := ⟨⟨by decide, gx_in 122 (by decide +kernel) (by decide +kernel)⟩, rfl, rfl⟩
theorem rr_X10_caught_X1_forget : gx_rm rm_X10_caught rm_X1_forget 1 := ⟨rfl, rfl, by decide, by decide⟩
theorem cv_X10_221_X1_catches : gx_cV RX10 221 RX1 yX1_catches cX1_catches 7 3 (some .boolean) := ⟨⟨gx_in 893 (by decide +kernel) (by decide +kernel), gx_in 894 (by decide +kernel) (by decide +kernel), gx_in 895 (by decide +kernel) (by decide +kernel), gx_in 57 (by decide +kernel) (by decide +kernel), gx_in 896 (by decide +kernel) (by decide +kernel)⟩, rfl, by decide, by decide, by decide +kernel⟩
theorem rr_X10_caught_X1_catches : gx_rm rm_X10_caught rm_X1_catches 7 := ⟨rfl, rfl, by decide, by decide⟩
theorem rr_X10_photo_X10_within : gx_rm rm_X10_photo rm_X10_within 3 := ⟨rfl, rfl, by decide, by decide⟩
theorem kc_X10_225 : Cond.constant RX10 225 65535 ∈ gx_U := gx_in 909 (by decide +kernel) (by decide +kernel)
theorem fg_X10_226 : gx_fl RX10 226 TX8 10 2 := ⟨by decide, gx_in 179 (by decide +kernel) (by decide +kernel)⟩
theorem rr_X10_copyBits_X7_bits : gx_rm rm_X10_copyBits rm_X7_bits 5 := ⟨rfl, rfl, by decide, by decide⟩
theorem rr_X10_shoot_X10_isSpan : gx_rm rm_X10_shoot rm_X10_isSpan 1 := ⟨rfl, rfl, by decide, by decide⟩
theorem rr_X10_shoot_X10_within : gx_rm rm_X10_shoot rm_X10_within 3 := ⟨rfl, rfl, by decide, by decide⟩
theorem rr_X10_shoot_X1_draw : gx_rm rm_X10_shoot rm_X1_draw 4 := ⟨rfl, rfl, by decide, by decide⟩
theorem cv_X10_229_X10_copyBits : gx_cV RX10 229 RX10 yX10_copyBits cX10_copyBits 4 2 none := ⟨⟨gx_in 914 (by decide +kernel) (by decide +kernel), gx_in 916 (by decide +kernel) (by decide +kernel), gx_in 3 (by decide +kernel) (by decide +kernel), gx_in 56 (by decide +kernel) (by decide +kernel), gx_in 917 (by decide +kernel) (by decide +kernel)⟩, rfl, by decide, by decide, by decide +kernel⟩
theorem rr_X10_shoot_X10_copyBits : gx_rm rm_X10_shoot rm_X10_copyBits 4 := ⟨rfl, rfl, by decide, by decide⟩
theorem rr_X10_shoot_X7_dots : gx_rm rm_X10_shoot rm_X7_dots 4 := ⟨rfl, rfl, by decide, by decide⟩
theorem rr_X10_unlike_X7_bits : gx_rm rm_X10_unlike rm_X7_bits 5 := ⟨rfl, rfl, by decide, by decide⟩
theorem cs_X10_243_J6_bitCount_0f7a4 : gx_cS RX10 243 yJ6_bitCount_0f7a4 cJ6_bitCount_0f7a4 1 1 (some .int) := ⟨⟨gx_in 928 (by decide +kernel) (by decide +kernel), gx_in 868 (by decide +kernel) (by decide +kernel), gx_in 73 (by decide +kernel) (by decide +kernel), gx_in 869 (by decide +kernel) (by decide +kernel)⟩, by decide, by decide, by decide +kernel⟩
theorem rr_X10_unlike_J6_bitCount_0f7a4 : gx_rm rm_X10_unlike rm_J6_bitCount_0f7a4 1 := ⟨rfl, rfl, by decide, by decide⟩
theorem rr_X10_settings_X10_isSpan : gx_rm rm_X10_settings rm_X10_isSpan 1 := ⟨rfl, rfl, by decide, by decide⟩
theorem rr_X10_settings_X10_within : gx_rm rm_X10_settings rm_X10_within 3 := ⟨rfl, rfl, by decide, by decide⟩
theorem fg_X10_233 : gx_fl RX10 233 TX2 6 4 := ⟨by decide, gx_in 156 (by decide +kernel) (by decide +kernel)⟩
theorem fs_X10_236 : Cond.fieldLink RX10 236 "GreenLine" "GAINS" "[I" ∈ gx_U := gx_in 922 (by decide +kernel) (by decide +kernel)
theorem fp_X10_233 : gx_fp RX10 233 TX2 6 4 tyX2 .int := ⟨⟨by decide, gx_in 156 (by decide +kernel) (by decide +kernel)⟩, rfl, rfl⟩
theorem rr_X10_settings_X1_draw : gx_rm rm_X10_settings rm_X1_draw 4 := ⟨rfl, rfl, by decide, by decide⟩
theorem cv_X10_239_X10_unlike : gx_cV RX10 239 RX10 yX10_unlike cX10_unlike 5 2 (some .int) := ⟨⟨gx_in 924 (by decide +kernel) (by decide +kernel), gx_in 926 (by decide +kernel) (by decide +kernel), gx_in 4 (by decide +kernel) (by decide +kernel), gx_in 56 (by decide +kernel) (by decide +kernel), gx_in 927 (by decide +kernel) (by decide +kernel)⟩, rfl, by decide, by decide, by decide +kernel⟩
theorem rr_X10_settings_X10_unlike : gx_rm rm_X10_settings rm_X10_unlike 5 := ⟨rfl, rfl, by decide, by decide⟩
theorem rr_X10_lowest_X1_outAt : gx_rm rm_X10_lowest rm_X1_outAt 3 := ⟨rfl, rfl, by decide, by decide⟩
theorem cm_X10_269 : Cond.methodLink RX10 269 Lib.Math.min.name ∈ gx_U := gx_in 937 (by decide +kernel) (by decide +kernel)
theorem rr_X10_highest_X1_outAt : gx_rm rm_X10_highest rm_X1_outAt 3 := ⟨rfl, rfl, by decide, by decide⟩
theorem rr_X10_rise_X1_outAt : gx_rm rm_X10_rise rm_X1_outAt 3 := ⟨rfl, rfl, by decide, by decide⟩
theorem rr_X10_wide_X1_outAt : gx_rm rm_X10_wide rm_X1_outAt 3 := ⟨rfl, rfl, by decide, by decide⟩
theorem rr_X10_measure_X10_isChannel : gx_rm rm_X10_measure rm_X10_isChannel 1 := ⟨rfl, rfl, by decide, by decide⟩
theorem cv_X10_248_X10_lowest : gx_cV RX10 248 RX10 yX10_lowest cX10_lowest 6 3 (some .int) := ⟨⟨gx_in 933 (by decide +kernel) (by decide +kernel), gx_in 935 (by decide +kernel) (by decide +kernel), gx_in 5 (by decide +kernel) (by decide +kernel), gx_in 56 (by decide +kernel) (by decide +kernel), gx_in 936 (by decide +kernel) (by decide +kernel)⟩, rfl, by decide, by decide, by decide +kernel⟩
theorem rr_X10_measure_X10_lowest : gx_rm rm_X10_measure rm_X10_lowest 6 := ⟨rfl, rfl, by decide, by decide⟩
theorem cv_X10_252_X10_highest : gx_cV RX10 252 RX10 yX10_highest cX10_highest 6 3 (some .int) := ⟨⟨gx_in 938 (by decide +kernel) (by decide +kernel), gx_in 940 (by decide +kernel) (by decide +kernel), gx_in 6 (by decide +kernel) (by decide +kernel), gx_in 56 (by decide +kernel) (by decide +kernel), gx_in 941 (by decide +kernel) (by decide +kernel)⟩, rfl, by decide, by decide, by decide +kernel⟩
theorem rr_X10_measure_X10_highest : gx_rm rm_X10_measure rm_X10_highest 6 := ⟨rfl, rfl, by decide, by decide⟩
theorem cv_X10_255_X10_rise : gx_cV RX10 255 RX10 yX10_rise cX10_rise 10 6 (some .int) := ⟨⟨gx_in 942 (by decide +kernel) (by decide +kernel), gx_in 944 (by decide +kernel) (by decide +kernel), gx_in 7 (by decide +kernel) (by decide +kernel), gx_in 56 (by decide +kernel) (by decide +kernel), gx_in 945 (by decide +kernel) (by decide +kernel)⟩, rfl, by decide, by decide, by decide +kernel⟩
theorem rr_X10_measure_X10_rise : gx_rm rm_X10_measure rm_X10_rise 10 := ⟨rfl, rfl, by decide, by decide⟩
theorem cv_X10_259_X10_wide : gx_cV RX10 259 RX10 yX10_wide cX10_wide 7 4 (some .int) := ⟨⟨gx_in 946 (by decide +kernel) (by decide +kernel), gx_in 948 (by decide +kernel) (by decide +kernel), gx_in 8 (by decide +kernel) (by decide +kernel), gx_in 56 (by decide +kernel) (by decide +kernel), gx_in 949 (by decide +kernel) (by decide +kernel)⟩, rfl, by decide, by decide, by decide +kernel⟩
theorem rr_X10_measure_X10_wide : gx_rm rm_X10_measure rm_X10_wide 7 := ⟨rfl, rfl, by decide, by decide⟩
theorem cv_X10_263_X10_leastRise : gx_cV RX10 263 RX10 yX10_leastRise cX10_leastRise 2 1 (some .int) := ⟨⟨gx_in 950 (by decide +kernel) (by decide +kernel), gx_in 952 (by decide +kernel) (by decide +kernel), gx_in 9 (by decide +kernel) (by decide +kernel), gx_in 56 (by decide +kernel) (by decide +kernel), gx_in 953 (by decide +kernel) (by decide +kernel)⟩, rfl, by decide, by decide, by decide +kernel⟩
theorem rr_X10_measure_X10_leastRise : gx_rm rm_X10_measure rm_X10_leastRise 2 := ⟨rfl, rfl, by decide, by decide⟩
theorem cv_X10_266_X10_greatestRise : gx_cV RX10 266 RX10 yX10_greatestRise cX10_greatestRise 2 1 (some .int) := ⟨⟨gx_in 954 (by decide +kernel) (by decide +kernel), gx_in 956 (by decide +kernel) (by decide +kernel), gx_in 10 (by decide +kernel) (by decide +kernel), gx_in 56 (by decide +kernel) (by decide +kernel), gx_in 957 (by decide +kernel) (by decide +kernel)⟩, rfl, by decide, by decide, by decide +kernel⟩
theorem rr_X10_measure_X10_greatestRise : gx_rm rm_X10_measure rm_X10_greatestRise 2 := ⟨rfl, rfl, by decide, by decide⟩
theorem rr_X10_parting_X10_isSignal : gx_rm rm_X10_parting rm_X10_isSignal 1 := ⟨rfl, rfl, by decide, by decide⟩
theorem rr_X10_parting_X10_isSpan : gx_rm rm_X10_parting rm_X10_isSpan 1 := ⟨rfl, rfl, by decide, by decide⟩
theorem rr_X10_parting_X10_within : gx_rm rm_X10_parting rm_X10_within 3 := ⟨rfl, rfl, by decide, by decide⟩
theorem fg_X10_272 : gx_fl RX10 272 TX2 6 0 := ⟨by decide, gx_in 151 (by decide +kernel) (by decide +kernel)⟩
theorem fp_X10_272 : gx_fp RX10 272 TX2 6 0 tyX2 .int := ⟨⟨by decide, gx_in 151 (by decide +kernel) (by decide +kernel)⟩, rfl, rfl⟩
theorem rr_X10_parting_X1_forget : gx_rm rm_X10_parting rm_X1_forget 1 := ⟨rfl, rfl, by decide, by decide⟩
theorem rr_X10_parting_X1_draw : gx_rm rm_X10_parting rm_X1_draw 4 := ⟨rfl, rfl, by decide, by decide⟩
theorem fg_X10_64 : gx_fl RX10 64 TX10 12 8 := ⟨by decide, gx_in 431 (by decide +kernel) (by decide +kernel)⟩
theorem rr_X10_parting_X10_copyBits : gx_rm rm_X10_parting rm_X10_copyBits 4 := ⟨rfl, rfl, by decide, by decide⟩
theorem rr_X10_parting_X10_unlike : gx_rm rm_X10_parting rm_X10_unlike 5 := ⟨rfl, rfl, by decide, by decide⟩
theorem fg_X10_24 : gx_fl RX10 24 TX10 12 2 := ⟨by decide, gx_in 425 (by decide +kernel) (by decide +kernel)⟩
theorem cv_X10_275_X8_copyFrom : gx_cV RX10 275 RX8 yX8_copyFrom cX8_copyFrom 3 1 none := ⟨⟨gx_in 966 (by decide +kernel) (by decide +kernel), gx_in 967 (by decide +kernel) (by decide +kernel), gx_in 968 (by decide +kernel) (by decide +kernel), gx_in 58 (by decide +kernel) (by decide +kernel), gx_in 969 (by decide +kernel) (by decide +kernel)⟩, rfl, by decide, by decide, by decide +kernel⟩
theorem rr_X10_image_X8_copyFrom : gx_rm rm_X10_image rm_X8_copyFrom 3 := ⟨rfl, rfl, by decide, by decide⟩
theorem rr_X10_back_X8_copyFrom : gx_rm rm_X10_back rm_X8_copyFrom 3 := ⟨rfl, rfl, by decide, by decide⟩
theorem rr_X10_back_X1_forget : gx_rm rm_X10_back rm_X1_forget 1 := ⟨rfl, rfl, by decide, by decide⟩
theorem rr_X10_aboutInputs_X10_within : gx_rm rm_X10_aboutInputs rm_X10_within 3 := ⟨rfl, rfl, by decide, by decide⟩
theorem fg_X10_282 : gx_fl RX10 282 TX2 6 5 := ⟨by decide, gx_in 158 (by decide +kernel) (by decide +kernel)⟩
theorem fg_X10_162 : gx_fl RX10 162 TX8 10 9 := ⟨by decide, gx_in 199 (by decide +kernel) (by decide +kernel)⟩
theorem fg_X10_129 : gx_fl RX10 129 TX8 10 4 := ⟨by decide, gx_in 185 (by decide +kernel) (by decide +kernel)⟩
theorem fg_X10_132 : gx_fl RX10 132 TX8 10 5 := ⟨by decide, gx_in 187 (by decide +kernel) (by decide +kernel)⟩
theorem fg_X10_135 : gx_fl RX10 135 TX8 10 6 := ⟨by decide, gx_in 190 (by decide +kernel) (by decide +kernel)⟩
theorem fg_X10_138 : gx_fl RX10 138 TX8 10 7 := ⟨by decide, gx_in 193 (by decide +kernel) (by decide +kernel)⟩
theorem cv_X10_279_X10_aboutInputs : gx_cV RX10 279 RX10 yX10_aboutInputs cX10_aboutInputs 2 1 (some .int) := ⟨⟨gx_in 989 (by decide +kernel) (by decide +kernel), gx_in 991 (by decide +kernel) (by decide +kernel), gx_in 11 (by decide +kernel) (by decide +kernel), gx_in 56 (by decide +kernel) (by decide +kernel), gx_in 992 (by decide +kernel) (by decide +kernel)⟩, rfl, by decide, by decide, by decide +kernel⟩
theorem rr_X10_about_X10_aboutInputs : gx_rm rm_X10_about rm_X10_aboutInputs 2 := ⟨rfl, rfl, by decide, by decide⟩
theorem cs_X11_93_X11_rest : gx_cS RX11 93 yX11_rest cX11_rest 3 2 (some .int) := ⟨⟨gx_in 1162 (by decide +kernel) (by decide +kernel), gx_in 1163 (by decide +kernel) (by decide +kernel), gx_in 67 (by decide +kernel) (by decide +kernel), gx_in 1164 (by decide +kernel) (by decide +kernel)⟩, by decide, by decide, by decide +kernel⟩
theorem rr_X11_down_X11_rest : gx_rm rm_X11_down rm_X11_rest 3 := ⟨rfl, rfl, by decide, by decide⟩
theorem fg_X11_7 : gx_fl RX11 7 TX11 42 0 := ⟨by decide, gx_in 1003 (by decide +kernel) (by decide +kernel)⟩
theorem fg_X11_13 : gx_fl RX11 13 TX11 42 1 := ⟨by decide, gx_in 1004 (by decide +kernel) (by decide +kernel)⟩
theorem cs_X11_97_X11_in : gx_cS RX11 97 yX11_in cX11_in 3 3 (some .boolean) := ⟨⟨gx_in 1139 (by decide +kernel) (by decide +kernel), gx_in 1140 (by decide +kernel) (by decide +kernel), gx_in 67 (by decide +kernel) (by decide +kernel), gx_in 1141 (by decide +kernel) (by decide +kernel)⟩, by decide, by decide, by decide +kernel⟩
theorem rr_X11_isSignal_X11_in : gx_rm rm_X11_isSignal rm_X11_in 3 := ⟨rfl, rfl, by decide, by decide⟩
theorem rr_X11_isChannel_X11_in : gx_rm rm_X11_isChannel rm_X11_in 3 := ⟨rfl, rfl, by decide, by decide⟩
theorem cs_X11_101_X11_isSignal : gx_cS RX11 101 yX11_isSignal cX11_isSignal 1 1 (some .boolean) := ⟨⟨gx_in 1136 (by decide +kernel) (by decide +kernel), gx_in 1137 (by decide +kernel) (by decide +kernel), gx_in 67 (by decide +kernel) (by decide +kernel), gx_in 1138 (by decide +kernel) (by decide +kernel)⟩, by decide, by decide, by decide +kernel⟩
theorem rr_X11_part_X11_isSignal : gx_rm rm_X11_part rm_X11_isSignal 1 := ⟨rfl, rfl, by decide, by decide⟩
theorem rr_X11_part_X11_in : gx_rm rm_X11_part rm_X11_in 3 := ⟨rfl, rfl, by decide, by decide⟩
theorem rr_X11_clear_X11_isSignal : gx_rm rm_X11_clear rm_X11_isSignal 1 := ⟨rfl, rfl, by decide, by decide⟩
theorem rr_X11_phase_X11_rest : gx_rm rm_X11_phase rm_X11_rest 3 := ⟨rfl, rfl, by decide, by decide⟩
theorem cv_X11_105_X11_phase : gx_cV RX11 105 RX11 yX11_phase cX11_phase 3 2 (some .int) := ⟨⟨gx_in 1158 (by decide +kernel) (by decide +kernel), gx_in 1160 (by decide +kernel) (by decide +kernel), gx_in 15 (by decide +kernel) (by decide +kernel), gx_in 67 (by decide +kernel) (by decide +kernel), gx_in 1161 (by decide +kernel) (by decide +kernel)⟩, rfl, by decide, by decide, by decide +kernel⟩
theorem rr_X11_partAt_X11_phase : gx_rm rm_X11_partAt rm_X11_phase 3 := ⟨rfl, rfl, by decide, by decide⟩
theorem cv_X11_108_X11_partAt : gx_cV RX11 108 RX11 yX11_partAt cX11_partAt 4 2 (some .int) := ⟨⟨gx_in 1154 (by decide +kernel) (by decide +kernel), gx_in 1156 (by decide +kernel) (by decide +kernel), gx_in 14 (by decide +kernel) (by decide +kernel), gx_in 67 (by decide +kernel) (by decide +kernel), gx_in 1157 (by decide +kernel) (by decide +kernel)⟩, rfl, by decide, by decide, by decide +kernel⟩
theorem rr_X11_rawAt_X11_partAt : gx_rm rm_X11_rawAt rm_X11_partAt 4 := ⟨rfl, rfl, by decide, by decide⟩
theorem rr_X11_raw_X11_isSignal : gx_rm rm_X11_raw rm_X11_isSignal 1 := ⟨rfl, rfl, by decide, by decide⟩
theorem kc_X11_114 : Cond.constant RX11 114 (-1000000) ∈ gx_U := gx_in 1165 (by decide +kernel) (by decide +kernel)
theorem rr_X11_raw_X11_in : gx_rm rm_X11_raw rm_X11_in 3 := ⟨rfl, rfl, by decide, by decide⟩
theorem cv_X11_111_X11_rawAt : gx_cV RX11 111 RX11 yX11_rawAt cX11_rawAt 5 2 (some .int) := ⟨⟨gx_in 1150 (by decide +kernel) (by decide +kernel), gx_in 1152 (by decide +kernel) (by decide +kernel), gx_in 13 (by decide +kernel) (by decide +kernel), gx_in 67 (by decide +kernel) (by decide +kernel), gx_in 1153 (by decide +kernel) (by decide +kernel)⟩, rfl, by decide, by decide, by decide +kernel⟩
theorem rr_X11_raw_X11_rawAt : gx_rm rm_X11_raw rm_X11_rawAt 5 := ⟨rfl, rfl, by decide, by decide⟩
theorem cs_X11_115_X11_isChannel : gx_cS RX11 115 yX11_isChannel cX11_isChannel 1 1 (some .boolean) := ⟨⟨gx_in 1170 (by decide +kernel) (by decide +kernel), gx_in 1171 (by decide +kernel) (by decide +kernel), gx_in 67 (by decide +kernel) (by decide +kernel), gx_in 1172 (by decide +kernel) (by decide +kernel)⟩, by decide, by decide, by decide +kernel⟩
theorem rr_X11_probe_X11_isChannel : gx_rm rm_X11_probe rm_X11_isChannel 1 := ⟨rfl, rfl, by decide, by decide⟩
theorem rr_X11_probe_X11_in : gx_rm rm_X11_probe rm_X11_in 3 := ⟨rfl, rfl, by decide, by decide⟩
theorem rr_X11_channel_X11_isChannel : gx_rm rm_X11_channel rm_X11_isChannel 1 := ⟨rfl, rfl, by decide, by decide⟩
theorem rr_X11_channel_X11_isSignal : gx_rm rm_X11_channel rm_X11_isSignal 1 := ⟨rfl, rfl, by decide, by decide⟩
theorem rr_X11_channel_X11_in : gx_rm rm_X11_channel rm_X11_in 3 := ⟨rfl, rfl, by decide, by decide⟩
theorem rr_X11_laysOut_X11_rawAt : gx_rm rm_X11_laysOut rm_X11_rawAt 5 := ⟨rfl, rfl, by decide, by decide⟩
theorem fg_X11_42 : gx_fl RX11 42 TX11 42 11 := ⟨by decide, gx_in 1014 (by decide +kernel) (by decide +kernel)⟩
theorem cv_X11_118_X11_laysOut : gx_cV RX11 118 RX11 yX11_laysOut cX11_laysOut 5 1 none := ⟨⟨gx_in 1181 (by decide +kernel) (by decide +kernel), gx_in 1183 (by decide +kernel) (by decide +kernel), gx_in 16 (by decide +kernel) (by decide +kernel), gx_in 67 (by decide +kernel) (by decide +kernel), gx_in 1184 (by decide +kernel) (by decide +kernel)⟩, rfl, by decide, by decide, by decide +kernel⟩
theorem rr_X11_laysBoth_X11_laysOut : gx_rm rm_X11_laysBoth rm_X11_laysOut 5 := ⟨rfl, rfl, by decide, by decide⟩
theorem rr_X11_out_X11_isChannel : gx_rm rm_X11_out rm_X11_isChannel 1 := ⟨rfl, rfl, by decide, by decide⟩
theorem rr_X11_out_X11_in : gx_rm rm_X11_out rm_X11_in 3 := ⟨rfl, rfl, by decide, by decide⟩
theorem rr_X11_out_X11_laysOut : gx_rm rm_X11_out rm_X11_laysOut 5 := ⟨rfl, rfl, by decide, by decide⟩
theorem rr_X11_base_X11_in : gx_rm rm_X11_base rm_X11_in 3 := ⟨rfl, rfl, by decide, by decide⟩
theorem rr_X11_mode_X11_in : gx_rm rm_X11_mode rm_X11_in 3 := ⟨rfl, rfl, by decide, by decide⟩
theorem fg_X11_16 : gx_fl RX11 16 TX11 42 2 := ⟨by decide, gx_in 1005 (by decide +kernel) (by decide +kernel)⟩
theorem fg_X11_122 : gx_fl RX11 122 TX11 42 3 := ⟨by decide, gx_in 1006 (by decide +kernel) (by decide +kernel)⟩
theorem fp_X11_122 : gx_fp RX11 122 TX11 42 3 tyX11 .int := ⟨⟨by decide, gx_in 1006 (by decide +kernel) (by decide +kernel)⟩, rfl, rfl⟩
theorem cv_X11_125_X11_put : gx_cV RX11 125 RX11 yX11_put cX11_put 3 1 none := ⟨⟨gx_in 1197 (by decide +kernel) (by decide +kernel), gx_in 1199 (by decide +kernel) (by decide +kernel), gx_in 17 (by decide +kernel) (by decide +kernel), gx_in 67 (by decide +kernel) (by decide +kernel), gx_in 1200 (by decide +kernel) (by decide +kernel)⟩, rfl, by decide, by decide, by decide +kernel⟩
theorem rr_X11_feed_X11_put : gx_rm rm_X11_feed rm_X11_put 3 := ⟨rfl, rfl, by decide, by decide⟩
theorem rr_X11_end_X11_in : gx_rm rm_X11_end rm_X11_in 3 := ⟨rfl, rfl, by decide, by decide⟩
theorem rr_X11_isLetter_X11_in : gx_rm rm_X11_isLetter rm_X11_in 3 := ⟨rfl, rfl, by decide, by decide⟩
theorem kl_X11_128 : Cond.constantLong RX11 128 10681124 ∈ gx_U := gx_in 1220 (by decide +kernel) (by decide +kernel)
theorem kl_X11_130 : Cond.constantLong RX11 130 580287086 ∈ gx_U := gx_in 1221 (by decide +kernel) (by decide +kernel)
theorem kl_X11_132 : Cond.constantLong RX11 132 3058 ∈ gx_U := gx_in 1222 (by decide +kernel) (by decide +kernel)
theorem kl_X11_134 : Cond.constantLong RX11 134 138148 ∈ gx_U := gx_in 1223 (by decide +kernel) (by decide +kernel)
theorem kl_X11_136 : Cond.constantLong RX11 136 191476 ∈ gx_U := gx_in 1224 (by decide +kernel) (by decide +kernel)
theorem kl_X11_138 : Cond.constantLong RX11 138 191479 ∈ gx_U := gx_in 1225 (by decide +kernel) (by decide +kernel)
theorem kl_X11_140 : Cond.constantLong RX11 140 564287588 ∈ gx_U := gx_in 1226 (by decide +kernel) (by decide +kernel)
theorem kl_X11_142 : Cond.constantLong RX11 142 802326898 ∈ gx_U := gx_in 1227 (by decide +kernel) (by decide +kernel)
theorem kl_X11_144 : Cond.constantLong RX11 144 13801707 ∈ gx_U := gx_in 1228 (by decide +kernel) (by decide +kernel)
theorem kl_X11_146 : Cond.constantLong RX11 146 11705253 ∈ gx_U := gx_in 1229 (by decide +kernel) (by decide +kernel)
theorem kl_X11_148 : Cond.constantLong RX11 148 55693433907 ∈ gx_U := gx_in 1230 (by decide +kernel) (by decide +kernel)
theorem kl_X11_150 : Cond.constantLong RX11 150 866576613 ∈ gx_U := gx_in 1231 (by decide +kernel) (by decide +kernel)
theorem fg_X11_152 : gx_fl RX11 152 TX11 42 13 := ⟨by decide, gx_in 1016 (by decide +kernel) (by decide +kernel)⟩
theorem fg_X11_155 : gx_fl RX11 155 TX11 42 12 := ⟨by decide, gx_in 1015 (by decide +kernel) (by decide +kernel)⟩
theorem fp_X11_152 : gx_fp RX11 152 TX11 42 13 tyX11 .int := ⟨⟨by decide, gx_in 1016 (by decide +kernel) (by decide +kernel)⟩, rfl, rfl⟩
theorem fp_X11_158 : gx_fp RX11 158 TX11 42 14 tyX11 .int := ⟨⟨by decide, gx_in 1017 (by decide +kernel) (by decide +kernel)⟩, rfl, rfl⟩
theorem cs_X11_164_X11_isLetter : gx_cS RX11 164 yX11_isLetter cX11_isLetter 1 1 (some .boolean) := ⟨⟨gx_in 1213 (by decide +kernel) (by decide +kernel), gx_in 1214 (by decide +kernel) (by decide +kernel), gx_in 67 (by decide +kernel) (by decide +kernel), gx_in 1215 (by decide +kernel) (by decide +kernel)⟩, by decide, by decide, by decide +kernel⟩
theorem rr_X11_next_X11_isLetter : gx_rm rm_X11_next rm_X11_isLetter 1 := ⟨rfl, rfl, by decide, by decide⟩
theorem rr_X11_next_X11_in : gx_rm rm_X11_next rm_X11_in 3 := ⟨rfl, rfl, by decide, by decide⟩
theorem fp_X11_173 : gx_fp RX11 173 TX11 42 16 tyX11 .int := ⟨⟨by decide, gx_in 1019 (by decide +kernel) (by decide +kernel)⟩, rfl, rfl⟩
theorem fp_X11_161 : gx_fp RX11 161 TX11 42 15 tyX11 .int := ⟨⟨by decide, gx_in 1018 (by decide +kernel) (by decide +kernel)⟩, rfl, rfl⟩
theorem fg_X11_173 : gx_fl RX11 173 TX11 42 16 := ⟨by decide, gx_in 1019 (by decide +kernel) (by decide +kernel)⟩
theorem kc_X11_176 : Cond.constant RX11 176 99999 ∈ gx_U := gx_in 1232 (by decide +kernel) (by decide +kernel)
theorem kl_X11_167 : Cond.constantLong RX11 167 64 ∈ gx_U := gx_in 1216 (by decide +kernel) (by decide +kernel)
theorem cs_X11_169_X11_wordOf : gx_cS RX11 169 yX11_wordOf cX11_wordOf 2 1 (some .int) := ⟨⟨gx_in 1217 (by decide +kernel) (by decide +kernel), gx_in 1218 (by decide +kernel) (by decide +kernel), gx_in 67 (by decide +kernel) (by decide +kernel), gx_in 1219 (by decide +kernel) (by decide +kernel)⟩, by decide, by decide, by decide +kernel⟩
theorem rr_X11_next_X11_wordOf : gx_rm rm_X11_next rm_X11_wordOf 2 := ⟨rfl, rfl, by decide, by decide⟩
theorem fg_X11_161 : gx_fl RX11 161 TX11 42 15 := ⟨by decide, gx_in 1018 (by decide +kernel) (by decide +kernel)⟩
theorem fg_X11_177 : gx_fl RX11 177 TX11 42 17 := ⟨by decide, gx_in 1020 (by decide +kernel) (by decide +kernel)⟩
theorem fp_X11_177 : gx_fp RX11 177 TX11 42 17 tyX11 .int := ⟨⟨by decide, gx_in 1020 (by decide +kernel) (by decide +kernel)⟩, rfl, rfl⟩
theorem fg_X11_158 : gx_fl RX11 158 TX11 42 14 := ⟨by decide, gx_in 1017 (by decide +kernel) (by decide +kernel)⟩
theorem fp_X11_180 : gx_fp RX11 180 TX11 42 18 tyX11 .int := ⟨⟨by decide, gx_in 1021 (by decide +kernel) (by decide +kernel)⟩, rfl, rfl⟩
theorem fg_X11_63 : gx_fl RX11 63 TX11 42 31 := ⟨by decide, gx_in 1034 (by decide +kernel) (by decide +kernel)⟩
theorem fg_X11_183 : gx_fl RX11 183 TX11 42 30 := ⟨by decide, gx_in 1033 (by decide +kernel) (by decide +kernel)⟩
theorem fg_X11_66 : gx_fl RX11 66 TX11 42 32 := ⟨by decide, gx_in 1035 (by decide +kernel) (by decide +kernel)⟩
theorem fp_X11_183 : gx_fp RX11 183 TX11 42 30 tyX11 .int := ⟨⟨by decide, gx_in 1033 (by decide +kernel) (by decide +kernel)⟩, rfl, rfl⟩
theorem fg_X11_45 : gx_fl RX11 45 TX11 42 21 := ⟨by decide, gx_in 1024 (by decide +kernel) (by decide +kernel)⟩
theorem fg_X11_186 : gx_fl RX11 186 TX11 42 20 := ⟨by decide, gx_in 1023 (by decide +kernel) (by decide +kernel)⟩
theorem fp_X11_186 : gx_fp RX11 186 TX11 42 20 tyX11 .int := ⟨⟨by decide, gx_in 1023 (by decide +kernel) (by decide +kernel)⟩, rfl, rfl⟩
theorem fg_X11_189 : gx_fl RX11 189 TX11 42 19 := ⟨by decide, gx_in 1022 (by decide +kernel) (by decide +kernel)⟩
theorem fp_X11_189 : gx_fp RX11 189 TX11 42 19 tyX11 .int := ⟨⟨by decide, gx_in 1022 (by decide +kernel) (by decide +kernel)⟩, rfl, rfl⟩
theorem cv_X11_195_X11_opensFrame : gx_cV RX11 195 RX11 yX11_opensFrame cX11_opensFrame 2 1 none := ⟨⟨gx_in 1249 (by decide +kernel) (by decide +kernel), gx_in 1251 (by decide +kernel) (by decide +kernel), gx_in 23 (by decide +kernel) (by decide +kernel), gx_in 67 (by decide +kernel) (by decide +kernel), gx_in 1252 (by decide +kernel) (by decide +kernel)⟩, rfl, by decide, by decide, by decide +kernel⟩
theorem rr_X11_opensSign_X11_opensFrame : gx_rm rm_X11_opensSign rm_X11_opensFrame 2 := ⟨rfl, rfl, by decide, by decide⟩
theorem cv_X11_198_X11_next : gx_cV RX11 198 RX11 yX11_next cX11_next 5 0 none := ⟨⟨gx_in 1209 (by decide +kernel) (by decide +kernel), gx_in 1211 (by decide +kernel) (by decide +kernel), gx_in 18 (by decide +kernel) (by decide +kernel), gx_in 67 (by decide +kernel) (by decide +kernel), gx_in 1212 (by decide +kernel) (by decide +kernel)⟩, rfl, by decide, by decide, by decide +kernel⟩
theorem rr_X11_opensSign_X11_next : gx_rm rm_X11_opensSign rm_X11_next 5 := ⟨rfl, rfl, by decide, by decide⟩
theorem cv_X11_192_X11_errs : gx_cV RX11 192 RX11 yX11_errs cX11_errs 2 1 none := ⟨⟨gx_in 1245 (by decide +kernel) (by decide +kernel), gx_in 1247 (by decide +kernel) (by decide +kernel), gx_in 22 (by decide +kernel) (by decide +kernel), gx_in 67 (by decide +kernel) (by decide +kernel), gx_in 1248 (by decide +kernel) (by decide +kernel)⟩, rfl, by decide, by decide, by decide +kernel⟩
theorem rr_X11_opensSign_X11_errs : gx_rm rm_X11_opensSign rm_X11_errs 2 := ⟨rfl, rfl, by decide, by decide⟩
theorem fg_X11_201 : gx_fl RX11 201 TX11 42 23 := ⟨by decide, gx_in 1026 (by decide +kernel) (by decide +kernel)⟩
theorem fg_X11_54 : gx_fl RX11 54 TX11 42 25 := ⟨by decide, gx_in 1028 (by decide +kernel) (by decide +kernel)⟩
theorem fg_X11_51 : gx_fl RX11 51 TX11 42 24 := ⟨by decide, gx_in 1027 (by decide +kernel) (by decide +kernel)⟩
theorem cs_X11_204_X11_rank : gx_cS RX11 204 yX11_rank cX11_rank 1 1 (some .int) := ⟨⟨gx_in 1281 (by decide +kernel) (by decide +kernel), gx_in 1282 (by decide +kernel) (by decide +kernel), gx_in 67 (by decide +kernel) (by decide +kernel), gx_in 1283 (by decide +kernel) (by decide +kernel)⟩, by decide, by decide, by decide +kernel⟩
theorem rr_X11_works_X11_rank : gx_rm rm_X11_works rm_X11_rank 1 := ⟨rfl, rfl, by decide, by decide⟩
theorem fp_X11_201 : gx_fp RX11 201 TX11 42 23 tyX11 .int := ⟨⟨by decide, gx_in 1026 (by decide +kernel) (by decide +kernel)⟩, rfl, rfl⟩
theorem cv_X11_208_X11_emits : gx_cV RX11 208 RX11 yX11_emits cX11_emits 3 2 none := ⟨⟨gx_in 1257 (by decide +kernel) (by decide +kernel), gx_in 1259 (by decide +kernel) (by decide +kernel), gx_in 25 (by decide +kernel) (by decide +kernel), gx_in 67 (by decide +kernel) (by decide +kernel), gx_in 1260 (by decide +kernel) (by decide +kernel)⟩, rfl, by decide, by decide, by decide +kernel⟩
theorem rr_X11_works_X11_emits : gx_rm rm_X11_works rm_X11_emits 3 := ⟨rfl, rfl, by decide, by decide⟩
theorem rr_X11_waitsFor_X11_rank : gx_rm rm_X11_waitsFor rm_X11_rank 1 := ⟨rfl, rfl, by decide, by decide⟩
theorem cv_X11_212_X11_works : gx_cV RX11 212 RX11 yX11_works cX11_works 2 1 none := ⟨⟨gx_in 1284 (by decide +kernel) (by decide +kernel), gx_in 1286 (by decide +kernel) (by decide +kernel), gx_in 31 (by decide +kernel) (by decide +kernel), gx_in 67 (by decide +kernel) (by decide +kernel), gx_in 1287 (by decide +kernel) (by decide +kernel)⟩, rfl, by decide, by decide, by decide +kernel⟩
theorem rr_X11_waitsFor_X11_works : gx_rm rm_X11_waitsFor rm_X11_works 2 := ⟨rfl, rfl, by decide, by decide⟩
theorem rr_X11_waitsFor_X11_next : gx_rm rm_X11_waitsFor rm_X11_next 5 := ⟨rfl, rfl, by decide, by decide⟩
theorem cv_X11_215_X11_isWord : gx_cV RX11 215 RX11 yX11_isWord cX11_isWord 2 1 (some .boolean) := ⟨⟨gx_in 1237 (by decide +kernel) (by decide +kernel), gx_in 1239 (by decide +kernel) (by decide +kernel), gx_in 20 (by decide +kernel) (by decide +kernel), gx_in 67 (by decide +kernel) (by decide +kernel), gx_in 1240 (by decide +kernel) (by decide +kernel)⟩, rfl, by decide, by decide, by decide +kernel⟩
theorem rr_X11_asks_X11_isWord : gx_rm rm_X11_asks rm_X11_isWord 2 := ⟨rfl, rfl, by decide, by decide⟩
theorem rr_X11_asks_X11_opensFrame : gx_rm rm_X11_asks rm_X11_opensFrame 2 := ⟨rfl, rfl, by decide, by decide⟩
theorem fp_X11_221 : gx_fp RX11 221 TX11 42 26 tyX11 .int := ⟨⟨by decide, gx_in 1029 (by decide +kernel) (by decide +kernel)⟩, rfl, rfl⟩
theorem cv_X11_218_X11_opensSign : gx_cV RX11 218 RX11 yX11_opensSign cX11_opensSign 2 1 (some .boolean) := ⟨⟨gx_in 1241 (by decide +kernel) (by decide +kernel), gx_in 1243 (by decide +kernel) (by decide +kernel), gx_in 21 (by decide +kernel) (by decide +kernel), gx_in 67 (by decide +kernel) (by decide +kernel), gx_in 1244 (by decide +kernel) (by decide +kernel)⟩, rfl, by decide, by decide, by decide +kernel⟩
theorem rr_X11_asks_X11_opensSign : gx_rm rm_X11_asks rm_X11_opensSign 2 := ⟨rfl, rfl, by decide, by decide⟩
theorem cv_X11_230_X11_top : gx_cV RX11 230 RX11 yX11_top cX11_top 1 0 (some .int) := ⟨⟨gx_in 1265 (by decide +kernel) (by decide +kernel), gx_in 1267 (by decide +kernel) (by decide +kernel), gx_in 27 (by decide +kernel) (by decide +kernel), gx_in 67 (by decide +kernel) (by decide +kernel), gx_in 1268 (by decide +kernel) (by decide +kernel)⟩, rfl, by decide, by decide, by decide +kernel⟩
theorem rr_X11_oneIsOver_X11_top : gx_rm rm_X11_oneIsOver rm_X11_top 1 := ⟨rfl, rfl, by decide, by decide⟩
theorem rr_X11_oneIsOver_X11_emits : gx_rm rm_X11_oneIsOver rm_X11_emits 3 := ⟨rfl, rfl, by decide, by decide⟩
theorem cv_X11_227_X11_isSign : gx_cV RX11 227 RX11 yX11_isSign cX11_isSign 2 1 (some .boolean) := ⟨⟨gx_in 1269 (by decide +kernel) (by decide +kernel), gx_in 1271 (by decide +kernel) (by decide +kernel), gx_in 28 (by decide +kernel) (by decide +kernel), gx_in 67 (by decide +kernel) (by decide +kernel), gx_in 1272 (by decide +kernel) (by decide +kernel)⟩, rfl, by decide, by decide, by decide +kernel⟩
theorem rr_X11_begins_X11_isSign : gx_rm rm_X11_begins rm_X11_isSign 2 := ⟨rfl, rfl, by decide, by decide⟩
theorem rr_X11_begins_X11_errs : gx_rm rm_X11_begins rm_X11_errs 2 := ⟨rfl, rfl, by decide, by decide⟩
theorem rr_X11_begins_X11_opensSign : gx_rm rm_X11_begins rm_X11_opensSign 2 := ⟨rfl, rfl, by decide, by decide⟩
theorem rr_X11_begins_X11_emits : gx_rm rm_X11_begins rm_X11_emits 3 := ⟨rfl, rfl, by decide, by decide⟩
theorem rr_X11_begins_X11_next : gx_rm rm_X11_begins rm_X11_next 5 := ⟨rfl, rfl, by decide, by decide⟩
theorem cv_X11_224_X11_oneIsOver : gx_cV RX11 224 RX11 yX11_oneIsOver cX11_oneIsOver 1 0 none := ⟨⟨gx_in 1261 (by decide +kernel) (by decide +kernel), gx_in 1263 (by decide +kernel) (by decide +kernel), gx_in 26 (by decide +kernel) (by decide +kernel), gx_in 67 (by decide +kernel) (by decide +kernel), gx_in 1264 (by decide +kernel) (by decide +kernel)⟩, rfl, by decide, by decide, by decide +kernel⟩
theorem rr_X11_begins_X11_oneIsOver : gx_rm rm_X11_begins rm_X11_oneIsOver 1 := ⟨rfl, rfl, by decide, by decide⟩
theorem rr_X11_askIsOver_X11_top : gx_rm rm_X11_askIsOver rm_X11_top 1 := ⟨rfl, rfl, by decide, by decide⟩
theorem rr_X11_askIsOver_X11_emits : gx_rm rm_X11_askIsOver rm_X11_emits 3 := ⟨rfl, rfl, by decide, by decide⟩
theorem rr_X11_clauseIsOver_X11_works : gx_rm rm_X11_clauseIsOver rm_X11_works 2 := ⟨rfl, rfl, by decide, by decide⟩
theorem rr_X11_clauseIsOver_X11_emits : gx_rm rm_X11_clauseIsOver rm_X11_emits 3 := ⟨rfl, rfl, by decide, by decide⟩
theorem fg_X11_246 : gx_fl RX11 246 TX11 42 27 := ⟨by decide, gx_in 1030 (by decide +kernel) (by decide +kernel)⟩
theorem fp_X11_246 : gx_fp RX11 246 TX11 42 27 tyX11 .int := ⟨⟨by decide, gx_in 1030 (by decide +kernel) (by decide +kernel)⟩, rfl, rfl⟩
theorem rr_X11_clauseIsOver_X11_next : gx_rm rm_X11_clauseIsOver rm_X11_next 5 := ⟨rfl, rfl, by decide, by decide⟩
theorem rr_X11_goesOn_X11_top : gx_rm rm_X11_goesOn rm_X11_top 1 := ⟨rfl, rfl, by decide, by decide⟩
theorem rr_X11_goesOn_X11_errs : gx_rm rm_X11_goesOn rm_X11_errs 2 := ⟨rfl, rfl, by decide, by decide⟩
theorem rr_X11_goesOn_X11_isSign : gx_rm rm_X11_goesOn rm_X11_isSign 2 := ⟨rfl, rfl, by decide, by decide⟩
theorem cv_X11_243_X11_clauseIsOver : gx_cV RX11 243 RX11 yX11_clauseIsOver cX11_clauseIsOver 1 0 none := ⟨⟨gx_in 1295 (by decide +kernel) (by decide +kernel), gx_in 1297 (by decide +kernel) (by decide +kernel), gx_in 33 (by decide +kernel) (by decide +kernel), gx_in 67 (by decide +kernel) (by decide +kernel), gx_in 1298 (by decide +kernel) (by decide +kernel)⟩, rfl, by decide, by decide, by decide +kernel⟩
theorem rr_X11_goesOn_X11_clauseIsOver : gx_rm rm_X11_goesOn rm_X11_clauseIsOver 1 := ⟨rfl, rfl, by decide, by decide⟩
theorem rr_X11_goesOn_X11_works : gx_rm rm_X11_goesOn rm_X11_works 2 := ⟨rfl, rfl, by decide, by decide⟩
theorem fg_X11_48 : gx_fl RX11 48 TX11 42 22 := ⟨by decide, gx_in 1025 (by decide +kernel) (by decide +kernel)⟩
theorem rr_X11_goesOn_X11_emits : gx_rm rm_X11_goesOn rm_X11_emits 3 := ⟨rfl, rfl, by decide, by decide⟩
theorem cv_X11_240_X11_askIsOver : gx_cV RX11 240 RX11 yX11_askIsOver cX11_askIsOver 1 0 none := ⟨⟨gx_in 1291 (by decide +kernel) (by decide +kernel), gx_in 1293 (by decide +kernel) (by decide +kernel), gx_in 32 (by decide +kernel) (by decide +kernel), gx_in 67 (by decide +kernel) (by decide +kernel), gx_in 1294 (by decide +kernel) (by decide +kernel)⟩, rfl, by decide, by decide, by decide +kernel⟩
theorem rr_X11_goesOn_X11_askIsOver : gx_rm rm_X11_goesOn rm_X11_askIsOver 1 := ⟨rfl, rfl, by decide, by decide⟩
theorem cs_X11_237_X11_isAsking : gx_cS RX11 237 yX11_isAsking cX11_isAsking 1 1 (some .boolean) := ⟨⟨gx_in 1288 (by decide +kernel) (by decide +kernel), gx_in 1289 (by decide +kernel) (by decide +kernel), gx_in 67 (by decide +kernel) (by decide +kernel), gx_in 1290 (by decide +kernel) (by decide +kernel)⟩, by decide, by decide, by decide +kernel⟩
theorem rr_X11_goesOn_X11_isAsking : gx_rm rm_X11_goesOn rm_X11_isAsking 1 := ⟨rfl, rfl, by decide, by decide⟩
theorem rr_X11_goesOn_X11_next : gx_rm rm_X11_goesOn rm_X11_next 5 := ⟨rfl, rfl, by decide, by decide⟩
theorem rr_X11_goesOn_X11_oneIsOver : gx_rm rm_X11_goesOn rm_X11_oneIsOver 1 := ⟨rfl, rfl, by decide, by decide⟩
theorem cv_X11_234_X11_waitsFor : gx_cV RX11 234 RX11 yX11_waitsFor cX11_waitsFor 2 1 none := ⟨⟨gx_in 1277 (by decide +kernel) (by decide +kernel), gx_in 1279 (by decide +kernel) (by decide +kernel), gx_in 30 (by decide +kernel) (by decide +kernel), gx_in 67 (by decide +kernel) (by decide +kernel), gx_in 1280 (by decide +kernel) (by decide +kernel)⟩, rfl, by decide, by decide, by decide +kernel⟩
theorem rr_X11_goesOn_X11_waitsFor : gx_rm rm_X11_goesOn rm_X11_waitsFor 2 := ⟨rfl, rfl, by decide, by decide⟩
theorem rr_X11_asksOn_X11_isWord : gx_rm rm_X11_asksOn rm_X11_isWord 2 := ⟨rfl, rfl, by decide, by decide⟩
theorem rr_X11_asksOn_X11_waitsFor : gx_rm rm_X11_asksOn rm_X11_waitsFor 2 := ⟨rfl, rfl, by decide, by decide⟩
theorem rr_X11_asksOn_X11_top : gx_rm rm_X11_asksOn rm_X11_top 1 := ⟨rfl, rfl, by decide, by decide⟩
theorem rr_X11_asksOn_X11_errs : gx_rm rm_X11_asksOn rm_X11_errs 2 := ⟨rfl, rfl, by decide, by decide⟩
theorem rr_X11_asksOn_X11_isSign : gx_rm rm_X11_asksOn rm_X11_isSign 2 := ⟨rfl, rfl, by decide, by decide⟩
theorem rr_X11_asksOn_X11_clauseIsOver : gx_rm rm_X11_asksOn rm_X11_clauseIsOver 1 := ⟨rfl, rfl, by decide, by decide⟩
theorem fg_X11_57 : gx_fl RX11 57 TX11 42 28 := ⟨by decide, gx_in 1031 (by decide +kernel) (by decide +kernel)⟩
theorem rr_X11_clause_X11_errs : gx_rm rm_X11_clause rm_X11_errs 2 := ⟨rfl, rfl, by decide, by decide⟩
theorem fg_X11_60 : gx_fl RX11 60 TX11 42 29 := ⟨by decide, gx_in 1032 (by decide +kernel) (by decide +kernel)⟩
theorem rr_X11_clause_X11_next : gx_rm rm_X11_clause rm_X11_next 5 := ⟨rfl, rfl, by decide, by decide⟩
theorem rr_X11_clause_X11_opensFrame : gx_rm rm_X11_clause rm_X11_opensFrame 2 := ⟨rfl, rfl, by decide, by decide⟩
theorem cv_X11_249_X11_wasHold : gx_cV RX11 249 RX11 yX11_wasHold cX11_wasHold 3 0 (some .boolean) := ⟨⟨gx_in 1307 (by decide +kernel) (by decide +kernel), gx_in 1309 (by decide +kernel) (by decide +kernel), gx_in 36 (by decide +kernel) (by decide +kernel), gx_in 67 (by decide +kernel) (by decide +kernel), gx_in 1310 (by decide +kernel) (by decide +kernel)⟩, rfl, by decide, by decide, by decide +kernel⟩
theorem rr_X11_clause_X11_wasHold : gx_rm rm_X11_clause rm_X11_wasHold 3 := ⟨rfl, rfl, by decide, by decide⟩
theorem fg_X11_27 : gx_fl RX11 27 TX11 42 6 := ⟨by decide, gx_in 1009 (by decide +kernel) (by decide +kernel)⟩
theorem fg_X11_30 : gx_fl RX11 30 TX11 42 7 := ⟨by decide, gx_in 1010 (by decide +kernel) (by decide +kernel)⟩
theorem fg_X11_33 : gx_fl RX11 33 TX11 42 8 := ⟨by decide, gx_in 1011 (by decide +kernel) (by decide +kernel)⟩
theorem fg_X11_36 : gx_fl RX11 36 TX11 42 9 := ⟨by decide, gx_in 1012 (by decide +kernel) (by decide +kernel)⟩
theorem fg_X11_39 : gx_fl RX11 39 TX11 42 10 := ⟨by decide, gx_in 1013 (by decide +kernel) (by decide +kernel)⟩
theorem fp_X11_155 : gx_fp RX11 155 TX11 42 12 tyX11 .int := ⟨⟨by decide, gx_in 1015 (by decide +kernel) (by decide +kernel)⟩, rfl, rfl⟩
theorem rr_X11_text_X11_next : gx_rm rm_X11_text rm_X11_next 5 := ⟨rfl, rfl, by decide, by decide⟩
theorem fg_X11_221 : gx_fl RX11 221 TX11 42 26 := ⟨by decide, gx_in 1029 (by decide +kernel) (by decide +kernel)⟩
theorem cv_X11_253_X11_asks : gx_cV RX11 253 RX11 yX11_asks cX11_asks 2 0 none := ⟨⟨gx_in 1233 (by decide +kernel) (by decide +kernel), gx_in 1235 (by decide +kernel) (by decide +kernel), gx_in 19 (by decide +kernel) (by decide +kernel), gx_in 67 (by decide +kernel) (by decide +kernel), gx_in 1236 (by decide +kernel) (by decide +kernel)⟩, rfl, by decide, by decide, by decide +kernel⟩
theorem rr_X11_text_X11_asks : gx_rm rm_X11_text rm_X11_asks 2 := ⟨rfl, rfl, by decide, by decide⟩
theorem cv_X11_256_X11_begins : gx_cV RX11 256 RX11 yX11_begins cX11_begins 2 0 none := ⟨⟨gx_in 1253 (by decide +kernel) (by decide +kernel), gx_in 1255 (by decide +kernel) (by decide +kernel), gx_in 24 (by decide +kernel) (by decide +kernel), gx_in 67 (by decide +kernel) (by decide +kernel), gx_in 1256 (by decide +kernel) (by decide +kernel)⟩, rfl, by decide, by decide, by decide +kernel⟩
theorem rr_X11_text_X11_begins : gx_rm rm_X11_text rm_X11_begins 2 := ⟨rfl, rfl, by decide, by decide⟩
theorem cv_X11_259_X11_goesOn : gx_cV RX11 259 RX11 yX11_goesOn cX11_goesOn 3 0 none := ⟨⟨gx_in 1273 (by decide +kernel) (by decide +kernel), gx_in 1275 (by decide +kernel) (by decide +kernel), gx_in 29 (by decide +kernel) (by decide +kernel), gx_in 67 (by decide +kernel) (by decide +kernel), gx_in 1276 (by decide +kernel) (by decide +kernel)⟩, rfl, by decide, by decide, by decide +kernel⟩
theorem rr_X11_text_X11_goesOn : gx_rm rm_X11_text rm_X11_goesOn 3 := ⟨rfl, rfl, by decide, by decide⟩
theorem cv_X11_262_X11_asksOn : gx_cV RX11 262 RX11 yX11_asksOn cX11_asksOn 1 0 none := ⟨⟨gx_in 1299 (by decide +kernel) (by decide +kernel), gx_in 1301 (by decide +kernel) (by decide +kernel), gx_in 34 (by decide +kernel) (by decide +kernel), gx_in 67 (by decide +kernel) (by decide +kernel), gx_in 1302 (by decide +kernel) (by decide +kernel)⟩, rfl, by decide, by decide, by decide +kernel⟩
theorem rr_X11_text_X11_asksOn : gx_rm rm_X11_text rm_X11_asksOn 1 := ⟨rfl, rfl, by decide, by decide⟩
theorem cv_X11_265_X11_clause : gx_cV RX11 265 RX11 yX11_clause cX11_clause 2 0 none := ⟨⟨gx_in 1303 (by decide +kernel) (by decide +kernel), gx_in 1305 (by decide +kernel) (by decide +kernel), gx_in 35 (by decide +kernel) (by decide +kernel), gx_in 67 (by decide +kernel) (by decide +kernel), gx_in 1306 (by decide +kernel) (by decide +kernel)⟩, rfl, by decide, by decide, by decide +kernel⟩
theorem rr_X11_text_X11_clause : gx_rm rm_X11_text rm_X11_clause 2 := ⟨rfl, rfl, by decide, by decide⟩
theorem fp_X11_20 : gx_fp RX11 20 TX11 42 4 tyX11 .int := ⟨⟨by decide, gx_in 1007 (by decide +kernel) (by decide +kernel)⟩, rfl, rfl⟩
theorem fg_X11_180 : gx_fl RX11 180 TX11 42 18 := ⟨by decide, gx_in 1021 (by decide +kernel) (by decide +kernel)⟩
theorem fp_X11_24 : gx_fp RX11 24 TX11 42 5 tyX11 .int := ⟨⟨by decide, gx_in 1008 (by decide +kernel) (by decide +kernel)⟩, rfl, rfl⟩
theorem cv_X11_268_X11_keepsText : gx_cV RX11 268 RX11 yX11_keepsText cX11_keepsText 3 1 none := ⟨⟨gx_in 1311 (by decide +kernel) (by decide +kernel), gx_in 1313 (by decide +kernel) (by decide +kernel), gx_in 37 (by decide +kernel) (by decide +kernel), gx_in 67 (by decide +kernel) (by decide +kernel), gx_in 1314 (by decide +kernel) (by decide +kernel)⟩, rfl, by decide, by decide, by decide +kernel⟩
theorem rr_X11_text_X11_keepsText : gx_rm rm_X11_text rm_X11_keepsText 3 := ⟨rfl, rfl, by decide, by decide⟩
theorem fg_X11_24 : gx_fl RX11 24 TX11 42 5 := ⟨by decide, gx_in 1008 (by decide +kernel) (by decide +kernel)⟩
theorem fg_X11_20 : gx_fl RX11 20 TX11 42 4 := ⟨by decide, gx_in 1007 (by decide +kernel) (by decide +kernel)⟩
theorem kl_X11_271 : Cond.constantLong RX11 271 1000000 ∈ gx_U := gx_in 1356 (by decide +kernel) (by decide +kernel)
theorem kl_X11_273 : Cond.constantLong RX11 273 (-1000000) ∈ gx_U := gx_in 1357 (by decide +kernel) (by decide +kernel)
theorem cs_X11_275_X11_bound : gx_cS RX11 275 yX11_bound cX11_bound 2 1 (some .long) := ⟨⟨gx_in 1353 (by decide +kernel) (by decide +kernel), gx_in 1354 (by decide +kernel) (by decide +kernel), gx_in 67 (by decide +kernel) (by decide +kernel), gx_in 1355 (by decide +kernel) (by decide +kernel)⟩, by decide, by decide, by decide +kernel⟩
theorem rr_X11_worked_X11_bound : gx_rm rm_X11_worked rm_X11_bound 2 := ⟨rfl, rfl, by decide, by decide⟩
theorem fg_X11_72 : gx_fl RX11 72 TX11 42 34 := ⟨by decide, gx_in 1037 (by decide +kernel) (by decide +kernel)⟩
theorem fg_X11_69 : gx_fl RX11 69 TX11 42 33 := ⟨by decide, gx_in 1036 (by decide +kernel) (by decide +kernel)⟩
theorem cs_X11_279_X11_worked : gx_cS RX11 279 yX11_worked cX11_worked 5 3 (some .long) := ⟨⟨gx_in 1350 (by decide +kernel) (by decide +kernel), gx_in 1351 (by decide +kernel) (by decide +kernel), gx_in 67 (by decide +kernel) (by decide +kernel), gx_in 1352 (by decide +kernel) (by decide +kernel)⟩, by decide, by decide, by decide +kernel⟩
theorem rr_X11_tells_X11_worked : gx_rm rm_X11_tells rm_X11_worked 5 := ⟨rfl, rfl, by decide, by decide⟩
theorem rr_X11_by_X11_in : gx_rm rm_X11_by rm_X11_in 3 := ⟨rfl, rfl, by decide, by decide⟩
theorem fg_X11_283 : gx_fl RX11 283 TX11 42 35 := ⟨by decide, gx_in 1038 (by decide +kernel) (by decide +kernel)⟩
theorem cv_X11_286_X11_tells : gx_cV RX11 286 RX11 yX11_tells cX11_tells 5 1 (some .long) := ⟨⟨gx_in 1346 (by decide +kernel) (by decide +kernel), gx_in 1348 (by decide +kernel) (by decide +kernel), gx_in 42 (by decide +kernel) (by decide +kernel), gx_in 67 (by decide +kernel) (by decide +kernel), gx_in 1349 (by decide +kernel) (by decide +kernel)⟩, rfl, by decide, by decide, by decide +kernel⟩
theorem rr_X11_triggers_X11_tells : gx_rm rm_X11_triggers rm_X11_tells 5 := ⟨rfl, rfl, by decide, by decide⟩
theorem rr_X11_hold_X11_tells : gx_rm rm_X11_hold rm_X11_tells 5 := ⟨rfl, rfl, by decide, by decide⟩
theorem kl_X11_290 : Cond.constantLong RX11 290 9999 ∈ gx_U := gx_in 1362 (by decide +kernel) (by decide +kernel)
theorem fp_X11_283 : gx_fp RX11 283 TX11 42 35 tyX11 .int := ⟨⟨by decide, gx_in 1038 (by decide +kernel) (by decide +kernel)⟩, rfl, rfl⟩
theorem cv_X11_292_X11_words : gx_cV RX11 292 RX11 yX11_words cX11_words 3 2 none := ⟨⟨gx_in 1338 (by decide +kernel) (by decide +kernel), gx_in 1340 (by decide +kernel) (by decide +kernel), gx_in 40 (by decide +kernel) (by decide +kernel), gx_in 67 (by decide +kernel) (by decide +kernel), gx_in 1341 (by decide +kernel) (by decide +kernel)⟩, rfl, by decide, by decide, by decide +kernel⟩
theorem rr_X11_sweeps_X11_words : gx_rm rm_X11_sweeps rm_X11_words 3 := ⟨rfl, rfl, by decide, by decide⟩
theorem cv_X11_295_X11_triggers : gx_cV RX11 295 RX11 yX11_triggers cX11_triggers 5 0 (some .boolean) := ⟨⟨gx_in 1342 (by decide +kernel) (by decide +kernel), gx_in 1344 (by decide +kernel) (by decide +kernel), gx_in 41 (by decide +kernel) (by decide +kernel), gx_in 67 (by decide +kernel) (by decide +kernel), gx_in 1345 (by decide +kernel) (by decide +kernel)⟩, rfl, by decide, by decide, by decide +kernel⟩
theorem rr_X11_sweeps_X11_triggers : gx_rm rm_X11_sweeps rm_X11_triggers 5 := ⟨rfl, rfl, by decide, by decide⟩
theorem cv_X11_298_X11_hold : gx_cV RX11 298 RX11 yX11_hold cX11_hold 5 0 (some .int) := ⟨⟨gx_in 1358 (by decide +kernel) (by decide +kernel), gx_in 1360 (by decide +kernel) (by decide +kernel), gx_in 43 (by decide +kernel) (by decide +kernel), gx_in 67 (by decide +kernel) (by decide +kernel), gx_in 1361 (by decide +kernel) (by decide +kernel)⟩, rfl, by decide, by decide, by decide +kernel⟩
theorem rr_X11_sweeps_X11_hold : gx_rm rm_X11_sweeps rm_X11_hold 5 := ⟨rfl, rfl, by decide, by decide⟩
theorem fg_X11_76 : gx_fl RX11 76 TX11 42 36 := ⟨by decide, gx_in 1039 (by decide +kernel) (by decide +kernel)⟩
theorem rr_X11_isEnd_X11_in : gx_rm rm_X11_isEnd rm_X11_in 3 := ⟨rfl, rfl, by decide, by decide⟩
theorem cs_X11_301_X11_isEnd : gx_cS RX11 301 yX11_isEnd cX11_isEnd 1 1 (some .boolean) := ⟨⟨gx_in 1327 (by decide +kernel) (by decide +kernel), gx_in 1328 (by decide +kernel) (by decide +kernel), gx_in 67 (by decide +kernel) (by decide +kernel), gx_in 1329 (by decide +kernel) (by decide +kernel)⟩, by decide, by decide, by decide +kernel⟩
theorem rr_X11_swept_X11_isEnd : gx_rm rm_X11_swept rm_X11_isEnd 1 := ⟨rfl, rfl, by decide, by decide⟩
theorem cv_X11_304_X11_laysBoth : gx_cV RX11 304 RX11 yX11_laysBoth cX11_laysBoth 1 0 none := ⟨⟨gx_in 1330 (by decide +kernel) (by decide +kernel), gx_in 1332 (by decide +kernel) (by decide +kernel), gx_in 38 (by decide +kernel) (by decide +kernel), gx_in 67 (by decide +kernel) (by decide +kernel), gx_in 1333 (by decide +kernel) (by decide +kernel)⟩, rfl, by decide, by decide, by decide +kernel⟩
theorem rr_X11_swept_X11_laysBoth : gx_rm rm_X11_swept rm_X11_laysBoth 1 := ⟨rfl, rfl, by decide, by decide⟩
theorem cv_X11_307_X11_sweeps : gx_cV RX11 307 RX11 yX11_sweeps cX11_sweeps 4 1 none := ⟨⟨gx_in 1334 (by decide +kernel) (by decide +kernel), gx_in 1336 (by decide +kernel) (by decide +kernel), gx_in 39 (by decide +kernel) (by decide +kernel), gx_in 67 (by decide +kernel) (by decide +kernel), gx_in 1337 (by decide +kernel) (by decide +kernel)⟩, rfl, by decide, by decide, by decide +kernel⟩
theorem rr_X11_swept_X11_sweeps : gx_rm rm_X11_swept rm_X11_sweeps 4 := ⟨rfl, rfl, by decide, by decide⟩
theorem cs_X11_309_X11_down : gx_cS RX11 309 yX11_down cX11_down 2 2 (some .int) := ⟨⟨gx_in 1379 (by decide +kernel) (by decide +kernel), gx_in 1380 (by decide +kernel) (by decide +kernel), gx_in 67 (by decide +kernel) (by decide +kernel), gx_in 1381 (by decide +kernel) (by decide +kernel)⟩, by decide, by decide, by decide +kernel⟩
theorem rr_X11_rowOf_X11_down : gx_rm rm_X11_rowOf rm_X11_down 2 := ⟨rfl, rfl, by decide, by decide⟩
theorem rr_X11_rowOf_X11_in : gx_rm rm_X11_rowOf rm_X11_in 3 := ⟨rfl, rfl, by decide, by decide⟩
theorem cv_X11_315_X11_turnOf : gx_cV RX11 315 RX11 yX11_turnOf cX11_turnOf 3 2 (some .int) := ⟨⟨gx_in 1386 (by decide +kernel) (by decide +kernel), gx_in 1388 (by decide +kernel) (by decide +kernel), gx_in 48 (by decide +kernel) (by decide +kernel), gx_in 67 (by decide +kernel) (by decide +kernel), gx_in 1389 (by decide +kernel) (by decide +kernel)⟩, rfl, by decide, by decide, by decide +kernel⟩
theorem rr_X11_dotOf_X11_turnOf : gx_rm rm_X11_dotOf rm_X11_turnOf 3 := ⟨rfl, rfl, by decide, by decide⟩
theorem cv_X11_312_X11_rowOf : gx_cV RX11 312 RX11 yX11_rowOf cX11_rowOf 4 2 (some .int) := ⟨⟨gx_in 1382 (by decide +kernel) (by decide +kernel), gx_in 1384 (by decide +kernel) (by decide +kernel), gx_in 47 (by decide +kernel) (by decide +kernel), gx_in 67 (by decide +kernel) (by decide +kernel), gx_in 1385 (by decide +kernel) (by decide +kernel)⟩, rfl, by decide, by decide, by decide +kernel⟩
theorem rr_X11_dotOf_X11_rowOf : gx_rm rm_X11_dotOf rm_X11_rowOf 4 := ⟨rfl, rfl, by decide, by decide⟩
theorem rr_X11_dotOf_X11_down : gx_rm rm_X11_dotOf rm_X11_down 2 := ⟨rfl, rfl, by decide, by decide⟩
theorem rr_X11_dotOf_X11_in : gx_rm rm_X11_dotOf rm_X11_in 3 := ⟨rfl, rfl, by decide, by decide⟩
theorem fg_X11_79 : gx_fl RX11 79 TX11 42 37 := ⟨by decide, gx_in 1040 (by decide +kernel) (by decide +kernel)⟩
theorem cv_X11_318_X11_dotOf : gx_cV RX11 318 RX11 yX11_dotOf cX11_dotOf 6 3 (some .int) := ⟨⟨gx_in 1375 (by decide +kernel) (by decide +kernel), gx_in 1377 (by decide +kernel) (by decide +kernel), gx_in 46 (by decide +kernel) (by decide +kernel), gx_in 67 (by decide +kernel) (by decide +kernel), gx_in 1378 (by decide +kernel) (by decide +kernel)⟩, rfl, by decide, by decide, by decide +kernel⟩
theorem rr_X11_draws_X11_dotOf : gx_rm rm_X11_draws rm_X11_dotOf 6 := ⟨rfl, rfl, by decide, by decide⟩
theorem rr_X11_shows_X11_laysBoth : gx_rm rm_X11_shows rm_X11_laysBoth 1 := ⟨rfl, rfl, by decide, by decide⟩
theorem rr_X11_shows_X11_sweeps : gx_rm rm_X11_shows rm_X11_sweeps 4 := ⟨rfl, rfl, by decide, by decide⟩
theorem cv_X11_322_X11_draws : gx_cV RX11 322 RX11 yX11_draws cX11_draws 6 1 none := ⟨⟨gx_in 1371 (by decide +kernel) (by decide +kernel), gx_in 1373 (by decide +kernel) (by decide +kernel), gx_in 45 (by decide +kernel) (by decide +kernel), gx_in 67 (by decide +kernel) (by decide +kernel), gx_in 1374 (by decide +kernel) (by decide +kernel)⟩, rfl, by decide, by decide, by decide +kernel⟩
theorem rr_X11_shows_X11_draws : gx_rm rm_X11_shows rm_X11_draws 6 := ⟨rfl, rfl, by decide, by decide⟩
theorem rr_X11_glow_X11_isEnd : gx_rm rm_X11_glow rm_X11_isEnd 1 := ⟨rfl, rfl, by decide, by decide⟩
theorem rr_X11_glow_X11_in : gx_rm rm_X11_glow rm_X11_in 3 := ⟨rfl, rfl, by decide, by decide⟩
theorem cv_X11_325_X11_shows : gx_cV RX11 325 RX11 yX11_shows cX11_shows 2 1 none := ⟨⟨gx_in 1367 (by decide +kernel) (by decide +kernel), gx_in 1369 (by decide +kernel) (by decide +kernel), gx_in 44 (by decide +kernel) (by decide +kernel), gx_in 67 (by decide +kernel) (by decide +kernel), gx_in 1370 (by decide +kernel) (by decide +kernel)⟩, rfl, by decide, by decide, by decide +kernel⟩
theorem rr_X11_glow_X11_shows : gx_rm rm_X11_glow rm_X11_shows 2 := ⟨rfl, rfl, by decide, by decide⟩
theorem rr_X11_isLight_X11_in : gx_rm rm_X11_isLight rm_X11_in 3 := ⟨rfl, rfl, by decide, by decide⟩
theorem rr_X11_lit_X11_isEnd : gx_rm rm_X11_lit rm_X11_isEnd 1 := ⟨rfl, rfl, by decide, by decide⟩
theorem cs_X11_328_X11_isLight : gx_cS RX11 328 yX11_isLight cX11_isLight 1 1 (some .boolean) := ⟨⟨gx_in 1394 (by decide +kernel) (by decide +kernel), gx_in 1395 (by decide +kernel) (by decide +kernel), gx_in 67 (by decide +kernel) (by decide +kernel), gx_in 1396 (by decide +kernel) (by decide +kernel)⟩, by decide, by decide, by decide +kernel⟩
theorem rr_X11_lit_X11_isLight : gx_rm rm_X11_lit rm_X11_isLight 1 := ⟨rfl, rfl, by decide, by decide⟩
theorem rr_X11_lit_X11_in : gx_rm rm_X11_lit rm_X11_in 3 := ⟨rfl, rfl, by decide, by decide⟩
theorem rr_X11_lit_X11_shows : gx_rm rm_X11_lit rm_X11_shows 2 := ⟨rfl, rfl, by decide, by decide⟩
theorem cv_X11_334_X11_rowsOf : gx_cV RX11 334 RX11 yX11_rowsOf cX11_rowsOf 5 2 (some .int) := ⟨⟨gx_in 1401 (by decide +kernel) (by decide +kernel), gx_in 1403 (by decide +kernel) (by decide +kernel), gx_in 50 (by decide +kernel) (by decide +kernel), gx_in 67 (by decide +kernel) (by decide +kernel), gx_in 1404 (by decide +kernel) (by decide +kernel)⟩, rfl, by decide, by decide, by decide +kernel⟩
theorem rr_X11_lit_X11_rowsOf : gx_rm rm_X11_lit rm_X11_rowsOf 5 := ⟨rfl, rfl, by decide, by decide⟩
theorem cv_X11_331_X11_dots : gx_cV RX11 331 RX11 yX11_dots cX11_dots 4 1 (some .int) := ⟨⟨gx_in 1397 (by decide +kernel) (by decide +kernel), gx_in 1399 (by decide +kernel) (by decide +kernel), gx_in 49 (by decide +kernel) (by decide +kernel), gx_in 67 (by decide +kernel) (by decide +kernel), gx_in 1400 (by decide +kernel) (by decide +kernel)⟩, rfl, by decide, by decide, by decide +kernel⟩
theorem rr_X11_lit_X11_dots : gx_rm rm_X11_lit rm_X11_dots 4 := ⟨rfl, rfl, by decide, by decide⟩
theorem fg_X11_82 : gx_fl RX11 82 TX11 42 38 := ⟨by decide, gx_in 1041 (by decide +kernel) (by decide +kernel)⟩
theorem rr_X11_isAs_X11_rest : gx_rm rm_X11_isAs rm_X11_rest 3 := ⟨rfl, rfl, by decide, by decide⟩
theorem rr_X11_otherwise_X11_isChannel : gx_rm rm_X11_otherwise rm_X11_isChannel 1 := ⟨rfl, rfl, by decide, by decide⟩
theorem rr_X11_otherwise_X11_in : gx_rm rm_X11_otherwise rm_X11_in 3 := ⟨rfl, rfl, by decide, by decide⟩
theorem rr_X11_otherwise_X11_laysOut : gx_rm rm_X11_otherwise rm_X11_laysOut 5 := ⟨rfl, rfl, by decide, by decide⟩
theorem cv_X11_337_X11_isAs : gx_cV RX11 337 RX11 yX11_isAs cX11_isAs 8 5 (some .boolean) := ⟨⟨gx_in 1409 (by decide +kernel) (by decide +kernel), gx_in 1411 (by decide +kernel) (by decide +kernel), gx_in 51 (by decide +kernel) (by decide +kernel), gx_in 67 (by decide +kernel) (by decide +kernel), gx_in 1412 (by decide +kernel) (by decide +kernel)⟩, rfl, by decide, by decide, by decide +kernel⟩
theorem rr_X11_otherwise_X11_isAs : gx_rm rm_X11_otherwise rm_X11_isAs 8 := ⟨rfl, rfl, by decide, by decide⟩
theorem rr_X11_catches_X11_turnOf : gx_rm rm_X11_catches rm_X11_turnOf 3 := ⟨rfl, rfl, by decide, by decide⟩
theorem rr_X11_catches_X11_phase : gx_rm rm_X11_catches rm_X11_phase 3 := ⟨rfl, rfl, by decide, by decide⟩
theorem rr_X11_caught_X11_isSignal : gx_rm rm_X11_caught rm_X11_isSignal 1 := ⟨rfl, rfl, by decide, by decide⟩
theorem rr_X11_caught_X11_isEnd : gx_rm rm_X11_caught rm_X11_isEnd 1 := ⟨rfl, rfl, by decide, by decide⟩
theorem rr_X11_caught_X11_laysBoth : gx_rm rm_X11_caught rm_X11_laysBoth 1 := ⟨rfl, rfl, by decide, by decide⟩
theorem rr_X11_caught_X11_sweeps : gx_rm rm_X11_caught rm_X11_sweeps 4 := ⟨rfl, rfl, by decide, by decide⟩
theorem cv_X11_341_X11_catches : gx_cV RX11 341 RX11 yX11_catches cX11_catches 10 3 (some .boolean) := ⟨⟨gx_in 1417 (by decide +kernel) (by decide +kernel), gx_in 1419 (by decide +kernel) (by decide +kernel), gx_in 52 (by decide +kernel) (by decide +kernel), gx_in 67 (by decide +kernel) (by decide +kernel), gx_in 1420 (by decide +kernel) (by decide +kernel)⟩, rfl, by decide, by decide, by decide +kernel⟩
theorem rr_X11_caught_X11_catches : gx_rm rm_X11_caught rm_X11_catches 10 := ⟨rfl, rfl, by decide, by decide⟩
theorem rr_X11_photo_X11_in : gx_rm rm_X11_photo rm_X11_in 3 := ⟨rfl, rfl, by decide, by decide⟩
theorem kc_X11_344 : Cond.constant RX11 344 65535 ∈ gx_U := gx_in 1425 (by decide +kernel) (by decide +kernel)
theorem rr_X11_shoot_X11_isEnd : gx_rm rm_X11_shoot rm_X11_isEnd 1 := ⟨rfl, rfl, by decide, by decide⟩
theorem rr_X11_shoot_X11_isLight : gx_rm rm_X11_shoot rm_X11_isLight 1 := ⟨rfl, rfl, by decide, by decide⟩
theorem rr_X11_shoot_X11_shows : gx_rm rm_X11_shoot rm_X11_shows 2 := ⟨rfl, rfl, by decide, by decide⟩
theorem rr_X11_shoot_X11_rowsOf : gx_rm rm_X11_shoot rm_X11_rowsOf 5 := ⟨rfl, rfl, by decide, by decide⟩
theorem rr_X11_shoot_X11_dots : gx_rm rm_X11_shoot rm_X11_dots 4 := ⟨rfl, rfl, by decide, by decide⟩
theorem rr_X11_isPhoto_X11_rowsOf : gx_rm rm_X11_isPhoto rm_X11_rowsOf 5 := ⟨rfl, rfl, by decide, by decide⟩
theorem rr_X11_settings_X11_isEnd : gx_rm rm_X11_settings rm_X11_isEnd 1 := ⟨rfl, rfl, by decide, by decide⟩
theorem rr_X11_settings_X11_isLight : gx_rm rm_X11_settings rm_X11_isLight 1 := ⟨rfl, rfl, by decide, by decide⟩
theorem rr_X11_settings_X11_laysBoth : gx_rm rm_X11_settings rm_X11_laysBoth 1 := ⟨rfl, rfl, by decide, by decide⟩
theorem rr_X11_settings_X11_sweeps : gx_rm rm_X11_settings rm_X11_sweeps 4 := ⟨rfl, rfl, by decide, by decide⟩
theorem cs_X11_345_X11_gainOf : gx_cS RX11 345 yX11_gainOf cX11_gainOf 2 1 (some .int) := ⟨⟨gx_in 1434 (by decide +kernel) (by decide +kernel), gx_in 1435 (by decide +kernel) (by decide +kernel), gx_in 67 (by decide +kernel) (by decide +kernel), gx_in 1436 (by decide +kernel) (by decide +kernel)⟩, by decide, by decide, by decide +kernel⟩
theorem rr_X11_settings_X11_gainOf : gx_rm rm_X11_settings rm_X11_gainOf 2 := ⟨rfl, rfl, by decide, by decide⟩
theorem rr_X11_settings_X11_draws : gx_rm rm_X11_settings rm_X11_draws 6 := ⟨rfl, rfl, by decide, by decide⟩
theorem cv_X11_348_X11_isPhoto : gx_cV RX11 348 RX11 yX11_isPhoto cX11_isPhoto 4 1 (some .boolean) := ⟨⟨gx_in 1437 (by decide +kernel) (by decide +kernel), gx_in 1439 (by decide +kernel) (by decide +kernel), gx_in 53 (by decide +kernel) (by decide +kernel), gx_in 67 (by decide +kernel) (by decide +kernel), gx_in 1440 (by decide +kernel) (by decide +kernel)⟩, rfl, by decide, by decide, by decide +kernel⟩
theorem rr_X11_settings_X11_isPhoto : gx_rm rm_X11_settings rm_X11_isPhoto 4 := ⟨rfl, rfl, by decide, by decide⟩
theorem fg_X11_351 : gx_fl RX11 351 TX11 42 39 := ⟨by decide, gx_in 1042 (by decide +kernel) (by decide +kernel)⟩
theorem fg_X11_354 : gx_fl RX11 354 TX11 42 40 := ⟨by decide, gx_in 1043 (by decide +kernel) (by decide +kernel)⟩
theorem rr_X11_measure_X11_isChannel : gx_rm rm_X11_measure rm_X11_isChannel 1 := ⟨rfl, rfl, by decide, by decide⟩
theorem rr_X11_measure_X11_in : gx_rm rm_X11_measure rm_X11_in 3 := ⟨rfl, rfl, by decide, by decide⟩
theorem rr_X11_measure_X11_laysOut : gx_rm rm_X11_measure rm_X11_laysOut 5 := ⟨rfl, rfl, by decide, by decide⟩
theorem fp_X11_351 : gx_fp RX11 351 TX11 42 39 tyX11 .int := ⟨⟨by decide, gx_in 1042 (by decide +kernel) (by decide +kernel)⟩, rfl, rfl⟩
theorem fp_X11_354 : gx_fp RX11 354 TX11 42 40 tyX11 .int := ⟨⟨by decide, gx_in 1043 (by decide +kernel) (by decide +kernel)⟩, rfl, rfl⟩
theorem cv_X11_357_X11_risen : gx_cV RX11 357 RX11 yX11_risen cX11_risen 7 5 (some .int) := ⟨⟨gx_in 1445 (by decide +kernel) (by decide +kernel), gx_in 1447 (by decide +kernel) (by decide +kernel), gx_in 54 (by decide +kernel) (by decide +kernel), gx_in 67 (by decide +kernel) (by decide +kernel), gx_in 1448 (by decide +kernel) (by decide +kernel)⟩, rfl, by decide, by decide, by decide +kernel⟩
theorem rr_X11_measure_X11_risen : gx_rm rm_X11_measure rm_X11_risen 7 := ⟨rfl, rfl, by decide, by decide⟩
theorem rr_X11_parting_X11_isSignal : gx_rm rm_X11_parting rm_X11_isSignal 1 := ⟨rfl, rfl, by decide, by decide⟩
theorem rr_X11_parting_X11_isEnd : gx_rm rm_X11_parting rm_X11_isEnd 1 := ⟨rfl, rfl, by decide, by decide⟩
theorem rr_X11_parting_X11_in : gx_rm rm_X11_parting rm_X11_in 3 := ⟨rfl, rfl, by decide, by decide⟩
theorem rr_X11_parting_X11_shows : gx_rm rm_X11_parting rm_X11_shows 2 := ⟨rfl, rfl, by decide, by decide⟩
theorem fg_X11_85 : gx_fl RX11 85 TX11 42 41 := ⟨by decide, gx_in 1044 (by decide +kernel) (by decide +kernel)⟩
theorem cv_X11_89_X11_copies : gx_cV RX11 89 RX11 yX11_copies cX11_copies 3 1 none := ⟨⟨gx_in 999 (by decide +kernel) (by decide +kernel), gx_in 1001 (by decide +kernel) (by decide +kernel), gx_in 12 (by decide +kernel) (by decide +kernel), gx_in 67 (by decide +kernel) (by decide +kernel), gx_in 1002 (by decide +kernel) (by decide +kernel)⟩, rfl, by decide, by decide, by decide +kernel⟩
theorem rr_X11_image_X11_copies : gx_rm rm_X11_image rm_X11_copies 3 := ⟨rfl, rfl, by decide, by decide⟩
theorem rr_X11_back_X11_copies : gx_rm rm_X11_back rm_X11_copies 3 := ⟨rfl, rfl, by decide, by decide⟩
theorem rr_X11_about_X11_in : gx_rm rm_X11_about rm_X11_in 3 := ⟨rfl, rfl, by decide, by decide⟩
theorem kf_J0_38 : Cond.fieldLink RJ0 38 "java/lang/String" "COMPACT_STRINGS" "Z" ∈ gx_U := gx_in 615 (by decide +kernel) (by decide +kernel)
theorem kf_J0_9 : Cond.fieldLink RJ0 9 "java/lang/String" "value" "[B" ∈ gx_U := gx_in 1465 (by decide +kernel) (by decide +kernel)
theorem kf_J0_15 : Cond.fieldLink RJ0 15 "java/lang/String" "coder" "B" ∈ gx_U := gx_in 1466 (by decide +kernel) (by decide +kernel)
theorem kf_J0_1053 : Cond.fieldLink RJ0 1053 "jdk/internal/util/Preconditions" "SIOOBE_FORMATTER" "Ljava/util/function/BiFunction;" ∈ gx_U := gx_in 631 (by decide +kernel) (by decide +kernel)
theorem kw_J0_335 : gx_cV RJ0 335 RJ0 yJ0_coder_7d493 cJ0_coder_7d493 1 0 (some .byte) := ⟨⟨gx_in 611 (by decide +kernel) (by decide +kernel), gx_in 612 (by decide +kernel) (by decide +kernel), gx_in 613 (by decide +kernel) (by decide +kernel), gx_in 68 (by decide +kernel) (by decide +kernel), gx_in 614 (by decide +kernel) (by decide +kernel)⟩, rfl, by decide, by decide, by decide +kernel⟩
theorem kw_J0_492 : gx_cV RJ0 492 RJ0 yJ0_isLatin1_aae02 cJ0_isLatin1_aae02 1 0 (some .boolean) := ⟨⟨gx_in 621 (by decide +kernel) (by decide +kernel), gx_in 622 (by decide +kernel) (by decide +kernel), gx_in 623 (by decide +kernel) (by decide +kernel), gx_in 68 (by decide +kernel) (by decide +kernel), gx_in 624 (by decide +kernel) (by decide +kernel)⟩, rfl, by decide, by decide, by decide +kernel⟩
theorem kw_X6_99 : gx_cV RX6 99 RJ0 yJ0_length_8abf5 cJ0_length_8abf5 1 0 (some .int) := ⟨⟨gx_in 607 (by decide +kernel) (by decide +kernel), gx_in 608 (by decide +kernel) (by decide +kernel), gx_in 609 (by decide +kernel) (by decide +kernel), gx_in 68 (by decide +kernel) (by decide +kernel), gx_in 610 (by decide +kernel) (by decide +kernel)⟩, rfl, by decide, by decide, by decide +kernel⟩
theorem kw_X6_103 : gx_cV RX6 103 RJ0 yJ0_charAt_5068e cJ0_charAt_5068e 2 1 (some .char) := ⟨⟨gx_in 617 (by decide +kernel) (by decide +kernel), gx_in 618 (by decide +kernel) (by decide +kernel), gx_in 619 (by decide +kernel) (by decide +kernel), gx_in 68 (by decide +kernel) (by decide +kernel), gx_in 620 (by decide +kernel) (by decide +kernel)⟩, rfl, by decide, by decide, by decide +kernel⟩
theorem kw_J0_495 : gx_cS RJ0 495 yJ1_charAt_3b067 cJ1_charAt_3b067 2 2 (some .char) := ⟨⟨gx_in 625 (by decide +kernel) (by decide +kernel), gx_in 626 (by decide +kernel) (by decide +kernel), gx_in 69 (by decide +kernel) (by decide +kernel), gx_in 627 (by decide +kernel) (by decide +kernel)⟩, by decide, by decide, by decide +kernel⟩
theorem kw_J1_9 : gx_cS RJ1 9 yJ0_checkIndex_df160 cJ0_checkIndex_df160 2 2 none := ⟨⟨gx_in 628 (by decide +kernel) (by decide +kernel), gx_in 629 (by decide +kernel) (by decide +kernel), gx_in 68 (by decide +kernel) (by decide +kernel), gx_in 630 (by decide +kernel) (by decide +kernel)⟩, by decide, by decide, by decide +kernel⟩
theorem kw_J0_1059 : gx_cS RJ0 1059 yJ3_checkIndex_8e157 cJ3_checkIndex_8e157 3 3 (some .int) := ⟨⟨gx_in 633 (by decide +kernel) (by decide +kernel), gx_in 634 (by decide +kernel) (by decide +kernel), gx_in 70 (by decide +kernel) (by decide +kernel), gx_in 635 (by decide +kernel) (by decide +kernel)⟩, by decide, by decide, by decide +kernel⟩
