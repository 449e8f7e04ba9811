section CWR0
variable {z : gx_X} {ca : Nat → ClassId} {w : gx_V} {cc : ByteArray} {nL h0 mc ms : Nat} {own : String} {Qc : gx_QT} {ws : va_W} {k1 k2 pc : Nat} {lv : List (Nat × Value)} {rest st : List Value}
theorem cw_iconst (hC : CC z ca w cc nL own) {n : Int} {v : Int32} (hdg : decode cc pc = .ok (.iconst n, 1)) (hv : Int32.ofInt n = v) (k : CW z w nL h0 mc ms Qc ws k1 k2 (pc + 1) lv (.int v :: rest)) : CW z w nL h0 mc ms Qc ws k1 k2 pc lv ((rest)) := fun H locs ls hP hD hS hL => lv_iconst hC.1.1 hC.1.2.1 hdg hv (k H locs ls hP hD hS hL)
theorem cw_bipush (hC : CC z ca w cc nL own) {n : Int} {v : Int32} (hdg : decode cc pc = .ok (.bipush n, 2)) (hv : (Int8.ofInt n).toInt32 = v) (k : CW z w nL h0 mc ms Qc ws k1 k2 (pc + 2) lv (.int v :: rest)) : CW z w nL h0 mc ms Qc ws k1 k2 pc lv ((rest)) := fun H locs ls hP hD hS hL => lv_bipush hC.1.1 hC.1.2.1 hdg hv (k H locs ls hP hD hS hL)
theorem cw_sipush (hC : CC z ca w cc nL own) {n : Int} {v : Int32} (hdg : decode cc pc = .ok (.sipush n, 3)) (hv : (Int16.ofInt n).toInt32 = v) (k : CW z w nL h0 mc ms Qc ws k1 k2 (pc + 3) lv (.int v :: rest)) : CW z w nL h0 mc ms Qc ws k1 k2 pc lv ((rest)) := fun H locs ls hP hD hS hL => lv_sipush hC.1.1 hC.1.2.1 hdg hv (k H locs ls hP hD hS hL)
theorem cw_iload_n (hC : CC z ca w cc nL own) {k0 : Fin 4} {i : Nat} {x : Int32} (hdg : decode cc pc = .ok (.iload_n k0, 1)) (hi : (k0 : Nat) = i) (kx : Nat) (hl : lv[kx]? = some (i, .int x)) (k : CW z w nL h0 mc ms Qc ws k1 k2 (pc + 1) lv (.int x :: rest)) : CW z w nL h0 mc ms Qc ws k1 k2 pc lv ((rest)) := fun H locs ls hP hD hS hL => lv_iload_n hC.1.1 hC.1.2.1 hdg hi (lv_at hL kx hl) (k H locs ls hP hD hS hL)
theorem cw_iload (hC : CC z ca w cc nL own) {i : Nat} {x : Int32} (hdg : decode cc pc = .ok (.iload i, 2)) (kx : Nat) (hl : lv[kx]? = some (i, .int x)) (k : CW z w nL h0 mc ms Qc ws k1 k2 (pc + 2) lv (.int x :: rest)) : CW z w nL h0 mc ms Qc ws k1 k2 pc lv ((rest)) := fun H locs ls hP hD hS hL => lv_iload hC.1.1 hC.1.2.1 hdg (lv_at hL kx hl) (k H locs ls hP hD hS hL)
theorem cw_aload_n (hC : CC z ca w cc nL own) {k0 : Fin 4} {i : Nat} {x : Nat} (hdg : decode cc pc = .ok (.aload_n k0, 1)) (hi : (k0 : Nat) = i) (kx : Nat) (hl : lv[kx]? = some (i, .ref x)) (k : CW z w nL h0 mc ms Qc ws k1 k2 (pc + 1) lv (.ref x :: rest)) : CW z w nL h0 mc ms Qc ws k1 k2 pc lv ((rest)) := fun H locs ls hP hD hS hL => lv_aload_n hC.1.1 hC.1.2.1 hdg hi (lv_at hL kx hl) (k H locs ls hP hD hS hL)
theorem cw_aload (hC : CC z ca w cc nL own) {i : Nat} {x : Nat} (hdg : decode cc pc = .ok (.aload i, 2)) (kx : Nat) (hl : lv[kx]? = some (i, .ref x)) (k : CW z w nL h0 mc ms Qc ws k1 k2 (pc + 2) lv (.ref x :: rest)) : CW z w nL h0 mc ms Qc ws k1 k2 pc lv ((rest)) := fun H locs ls hP hD hS hL => lv_aload hC.1.1 hC.1.2.1 hdg (lv_at hL kx hl) (k H locs ls hP hD hS hL)
theorem cw_istore_n (hC : CC z ca w cc nL own) {k0 : Fin 4} {i  : Nat} {x : Int32} {lv' : List (Nat × Value)} (hdg : decode cc pc = .ok (.istore_n k0, 1)) (hi : (k0 : Nat) = i) (hn : i < nL) (hl : (i, Value.int x) :: lv.filter (fun q => !(q.1 == i) && !(q.1 + 1 == i && q.2.category == 2)) = lv') (k : CW z w nL h0 mc ms Qc ws k1 k2 (pc + 1) lv' (rest)) : CW z w nL h0 mc ms Qc ws k1 k2 pc lv ((.int x :: rest)) := fun H locs ls hP hD hS hL => lv_istore_n hC.1.1 hC.1.2.1 hdg hi hL hn hl (fun ls' hl' => k H locs ls' hP hD hS hl')
theorem cw_iinc (hC : CC z ca w cc nL own) {i  k : Nat} {n : Int} {x v : Int32} {lv' : List (Nat × Value)} (hdg : decode cc pc = .ok (.iinc i n, 3)) (hk : lv[k]? = some (i, .int x)) (hv : x + Int32.ofInt n = v) (hn : i < nL) (hl : (i, Value.int v) :: lv.filter (fun q => !(q.1 == i) && !(q.1 + 1 == i && q.2.category == 2)) = lv') (k : CW z w nL h0 mc ms Qc ws k1 k2 (pc + 3) lv' (rest)) : CW z w nL h0 mc ms Qc ws k1 k2 pc lv (rest) := fun H locs ls hP hD hS hL => lv_iinc hC.1.1 hC.1.2.1 hdg hL hk hv hn hl (fun ls' hl' => k H locs ls' hP hD hS hl')
theorem cw_iadd (hC : CC z ca w cc nL own) {x y : Int32} (hdg : decode cc pc = .ok (.iadd, 1)) (k : CW z w nL h0 mc ms Qc ws k1 k2 (pc + 1) lv (.int (x + y) :: rest)) : CW z w nL h0 mc ms Qc ws k1 k2 pc lv ((.int y :: .int x :: rest)) := fun H locs ls hP hD hS hL => lv_iadd hC.1.1 hC.1.2.1 hdg (k H locs ls hP hD hS hL)
theorem cw_dup (hC : CC z ca w cc nL own) {va : Value} (hdg : decode cc pc = .ok (.dup, 1)) (hva : va.category = 1) (k : CW z w nL h0 mc ms Qc ws k1 k2 (pc + 1) lv (va :: va :: rest)) : CW z w nL h0 mc ms Qc ws k1 k2 pc lv ((va :: rest)) := fun H locs ls hP hD hS hL => lv_dup hC.1.1 hC.1.2.1 hdg hva (k H locs ls hP hD hS hL)
theorem cw_icmp_ge (hC : CC z ca w cc nL own) {x y : Int32} {off : Int} {tgt : Nat} (hdg : decode cc pc = .ok (.if_icmp .ge off, 3)) (ht : (pc : Int) + off = (tgt : Int)) (kt : y ≤ x → CW z w nL h0 mc ms Qc ws k1 k2 tgt lv (rest)) (kf : ¬ y ≤ x → CW z w nL h0 mc ms Qc ws k1 k2 (pc + 3) lv (rest)) : CW z w nL h0 mc ms Qc ws k1 k2 pc lv ((.int y :: .int x :: rest)) := fun H locs ls hP hD hS hL => lv_icmp_ge hC.1.1 hC.1.2.1 hdg ht (fun hc => kt hc H locs ls hP hD hS hL) (fun hc => kf hc H locs ls hP hD hS hL)
theorem cw_goto (hC : CC z ca w cc nL own) {off : Int} {tgt : Nat} (hdg : decode cc pc = .ok (.goto off, 3)) (ht : (pc : Int) + off = (tgt : Int)) (k : CW z w nL h0 mc ms Qc ws k1 k2 tgt lv (rest)) : CW z w nL h0 mc ms Qc ws k1 k2 pc lv (rest) := fun H locs ls hP hD hS hL => lv_goto hC.1.1 hC.1.2.1 hdg ht (k H locs ls hP hD hS hL)
end CWR0
theorem cx_c {x : Nat × va_E} {T : va_W} {i : Nat} : (x :: T)[i + 1]? = T[i]? := rfl
theorem cx_l {X S : va_W} {i n : Nat} (h : X.length = n) (hi : i < n) : (X ++ S)[i]? = X[i]? := List.getElem?_append_left (by omega)
theorem cx_r {X S : va_W} {i n : Nat} (h : X.length = n) : (X ++ S)[n + i]? = S[i]? := by
  rw [List.getElem?_append_right (by omega)]
  congr 1
  omega
theorem cx_sl {X S : va_W} {v : Nat × va_E} {i n : Nat} (h : X.length = n) (hi : i < n) : (X ++ S).set i v = X.set i v ++ S := by
  rw [List.set_append_left _ _ (by omega)]
theorem cx_sr {X S : va_W} {v : Nat × va_E} {i n : Nat} (h : X.length = n) : (X ++ S).set (n + i) v = X ++ S.set i v := by
  rw [List.set_append_right _ _ (by omega)]
  congr 2
  omega
theorem ko_i : Cond.instanceMethod objectInit ∈ gx_U := gx_in 80 (by decide +kernel) (by decide +kernel)
theorem ko_c : Cond.code objectInit ⟨#[0xb1]⟩ 1 none ∈ gx_U := gx_in 81 (by decide +kernel) (by decide +kernel)
theorem ko_X3_3 : Cond.methodLink RX3 3 objectInit ∈ gx_U := gx_in 109 (by decide +kernel) (by decide +kernel)
theorem fq_X3_9 : gx_fp RX3 9 TX3 5 0 tyX3 .int := ⟨⟨by decide, gx_in 110 (by decide +kernel) (by decide +kernel)⟩, rfl, rfl⟩
theorem fq_X3_15 : gx_fp RX3 15 TX3 5 1 tyX3 .int := ⟨⟨by decide, gx_in 113 (by decide +kernel) (by decide +kernel)⟩, rfl, rfl⟩
theorem fq_X3_18 : gx_fp RX3 18 TX3 5 2 tyX3 .int := ⟨⟨by decide, gx_in 115 (by decide +kernel) (by decide +kernel)⟩, rfl, rfl⟩
theorem fq_X3_21 : gx_fp RX3 21 TX3 5 3 tyX3 .int := ⟨⟨by decide, gx_in 118 (by decide +kernel) (by decide +kernel)⟩, rfl, rfl⟩
theorem fq_X3_24 : gx_fp RX3 24 TX3 5 4 tyX3 .int := ⟨⟨by decide, gx_in 120 (by decide +kernel) (by decide +kernel)⟩, rfl, rfl⟩
theorem ko_X2_3 : Cond.methodLink RX2 3 objectInit ∈ gx_U := gx_in 148 (by decide +kernel) (by decide +kernel)
theorem fq_X2_9 : gx_fp RX2 9 TX2 6 0 tyX2 .int := ⟨⟨by decide, gx_in 149 (by decide +kernel) (by decide +kernel)⟩, rfl, rfl⟩
theorem fq_X2_15 : gx_fp RX2 15 TX2 6 1 tyX2 .int := ⟨⟨by decide, gx_in 152 (by decide +kernel) (by decide +kernel)⟩, rfl, rfl⟩
theorem fq_X2_18 : gx_fp RX2 18 TX2 6 2 tyX2 .int := ⟨⟨by decide, gx_in 153 (by decide +kernel) (by decide +kernel)⟩, rfl, rfl⟩
theorem fq_X2_21 : gx_fp RX2 21 TX2 6 3 tyX2 .int := ⟨⟨by decide, gx_in 154 (by decide +kernel) (by decide +kernel)⟩, rfl, rfl⟩
theorem fq_X2_24 : gx_fp RX2 24 TX2 6 4 tyX2 .int := ⟨⟨by decide, gx_in 155 (by decide +kernel) (by decide +kernel)⟩, rfl, rfl⟩
theorem fq_X2_27 : gx_fp RX2 27 TX2 6 5 tyX2 .int := ⟨⟨by decide, gx_in 157 (by decide +kernel) (by decide +kernel)⟩, rfl, rfl⟩
theorem ko_X4_3 : Cond.methodLink RX4 3 objectInit ∈ gx_U := gx_in 227 (by decide +kernel) (by decide +kernel)
theorem ka_int : Cond.arrayClass (newarray.typeOf .int) ∈ gx_U := gx_in 134 (by decide +kernel) (by decide +kernel)
theorem ff_X4_9 : gx_fF RX4 9 TX4 4 0 tyX4 (.array .int) := ⟨⟨by decide, gx_in 228 (by decide +kernel) (by decide +kernel)⟩, rfl, rfl, rfl⟩
theorem ff_X4_15 : gx_fF RX4 15 TX4 4 1 tyX4 (.array .int) := ⟨⟨by decide, gx_in 231 (by decide +kernel) (by decide +kernel)⟩, rfl, rfl, rfl⟩
theorem fq_X4_18 : gx_fp RX4 18 TX4 4 2 tyX4 .int := ⟨⟨by decide, gx_in 234 (by decide +kernel) (by decide +kernel)⟩, rfl, rfl⟩
theorem fq_X4_22 : gx_fp RX4 22 TX4 4 3 tyX4 .int := ⟨⟨by decide, gx_in 237 (by decide +kernel) (by decide +kernel)⟩, rfl, rfl⟩
theorem ko_X0_3 : Cond.methodLink RX0 3 objectInit ∈ gx_U := gx_in 254 (by decide +kernel) (by decide +kernel)
theorem ff_X0_9 : gx_fF RX0 9 TX0 7 0 tyX0 (.array .int) := ⟨⟨by decide, gx_in 255 (by decide +kernel) (by decide +kernel)⟩, rfl, rfl, rfl⟩
theorem fq_X0_15 : gx_fp RX0 15 TX0 7 1 tyX0 .int := ⟨⟨by decide, gx_in 256 (by decide +kernel) (by decide +kernel)⟩, rfl, rfl⟩
theorem fq_X0_19 : gx_fp RX0 19 TX0 7 2 tyX0 .int := ⟨⟨by decide, gx_in 258 (by decide +kernel) (by decide +kernel)⟩, rfl, rfl⟩
theorem fq_X0_22 : gx_fp RX0 22 TX0 7 3 tyX0 .int := ⟨⟨by decide, gx_in 260 (by decide +kernel) (by decide +kernel)⟩, rfl, rfl⟩
theorem fq_X0_25 : gx_fp RX0 25 TX0 7 4 tyX0 .int := ⟨⟨by decide, gx_in 262 (by decide +kernel) (by decide +kernel)⟩, rfl, rfl⟩
theorem fq_X0_28 : gx_fp RX0 28 TX0 7 5 tyX0 .int := ⟨⟨by decide, gx_in 264 (by decide +kernel) (by decide +kernel)⟩, rfl, rfl⟩
theorem fq_X0_31 : gx_fp RX0 31 TX0 7 6 tyX0 .int := ⟨⟨by decide, gx_in 266 (by decide +kernel) (by decide +kernel)⟩, rfl, rfl⟩
theorem ko_X7_3 : Cond.methodLink RX7 3 objectInit ∈ gx_U := gx_in 416 (by decide +kernel) (by decide +kernel)
theorem ff_X7_9 : gx_fF RX7 9 TX7 1 0 tyX7 (.array .int) := ⟨⟨by decide, gx_in 417 (by decide +kernel) (by decide +kernel)⟩, rfl, rfl, rfl⟩
theorem ko_X6_3 : Cond.methodLink RX6 3 objectInit ∈ gx_U := gx_in 330 (by decide +kernel) (by decide +kernel)
theorem ff_X6_9 : gx_fF RX6 9 TX6 6 0 tyX6 (.array .int) := ⟨⟨by decide, gx_in 331 (by decide +kernel) (by decide +kernel)⟩, rfl, rfl, rfl⟩
theorem fq_X6_15 : gx_fp RX6 15 TX6 6 1 tyX6 .int := ⟨⟨by decide, gx_in 333 (by decide +kernel) (by decide +kernel)⟩, rfl, rfl⟩
theorem fq_X6_19 : gx_fp RX6 19 TX6 6 2 tyX6 .int := ⟨⟨by decide, gx_in 334 (by decide +kernel) (by decide +kernel)⟩, rfl, rfl⟩
theorem fq_X6_22 : gx_fp RX6 22 TX6 6 3 tyX6 .int := ⟨⟨by decide, gx_in 335 (by decide +kernel) (by decide +kernel)⟩, rfl, rfl⟩
theorem fq_X6_25 : gx_fp RX6 25 TX6 6 4 tyX6 .int := ⟨⟨by decide, gx_in 337 (by decide +kernel) (by decide +kernel)⟩, rfl, rfl⟩
theorem fq_X6_28 : gx_fp RX6 28 TX6 6 5 tyX6 .int := ⟨⟨by decide, gx_in 339 (by decide +kernel) (by decide +kernel)⟩, rfl, rfl⟩
theorem ko_X9_3 : Cond.methodLink RX9 3 objectInit ∈ gx_U := gx_in 102 (by decide +kernel) (by decide +kernel)
theorem kl_X9_9 : Cond.classLink RX9 9 "GreenLine$Part" ∈ gx_U := gx_in 103 (by decide +kernel) (by decide +kernel)
theorem ff_X9_11 : gx_fF RX9 11 TX9 2 0 tyX9 (.array (.object "GreenLine$Part")) := ⟨⟨by decide, gx_in 135 (by decide +kernel) (by decide +kernel)⟩, rfl, rfl, rfl⟩
theorem fq_X9_17 : gx_fp RX9 17 TX9 2 1 tyX9 .int := ⟨⟨by decide, gx_in 137 (by decide +kernel) (by decide +kernel)⟩, rfl, rfl⟩
theorem fh_X9_11 : gx_fl RX9 11 TX9 2 0 := ⟨by decide, gx_in 135 (by decide +kernel) (by decide +kernel)⟩
theorem ki_X3 : Cond.instantiable RX3 5 ∈ gx_U := gx_in 105 (by decide +kernel) (by decide +kernel)
theorem kn_X3 : Cond.initialized RX3 ∈ gx_U := gx_in 60 (by decide +kernel) (by decide +kernel)
theorem kd_X3 : ∀ j, j < 5 → defaultValue (tyX3 j) = vp_V [.int 0, .int 0, .int 0, .int 0, .int 0] j := fun j hj => match j, hj with | 0, _ => rfl | 1, _ => rfl | 2, _ => rfl | 3, _ => rfl | 4, _ => rfl | n + 5, h => absurd h (by omega)
theorem kx_X9_21 : gx_cIN RX9 21 "GreenLine" yX3_init cX3_init 1 0 := ⟨⟨by unfold gx_nestI; simp [RX9], gx_in 107 (by decide +kernel) (by decide +kernel), gx_in 60 (by decide +kernel) (by decide +kernel), gx_in 108 (by decide +kernel) (by decide +kernel)⟩, rfl, by decide, by decide, by decide +kernel⟩
theorem ko_X8_3 : Cond.methodLink RX8 3 objectInit ∈ gx_U := gx_in 93 (by decide +kernel) (by decide +kernel)
theorem kl_X8_9 : Cond.classLink RX8 9 "GreenLine$Signal" ∈ gx_U := gx_in 94 (by decide +kernel) (by decide +kernel)
theorem ff_X8_11 : gx_fF RX8 11 TX8 10 0 tyX8 (.array (.object "GreenLine$Signal")) := ⟨⟨by decide, gx_in 172 (by decide +kernel) (by decide +kernel)⟩, rfl, rfl, rfl⟩
theorem kl_X8_17 : Cond.classLink RX8 17 "GreenLine$Channel" ∈ gx_U := gx_in 96 (by decide +kernel) (by decide +kernel)
theorem ff_X8_19 : gx_fF RX8 19 TX8 10 1 tyX8 (.array (.object "GreenLine$Channel")) := ⟨⟨by decide, gx_in 175 (by decide +kernel) (by decide +kernel)⟩, rfl, rfl, rfl⟩
theorem ff_X8_23 : gx_fF RX8 23 TX8 10 2 tyX8 (.array .int) := ⟨⟨by decide, gx_in 178 (by decide +kernel) (by decide +kernel)⟩, rfl, rfl, rfl⟩
theorem fq_X8_27 : gx_fp RX8 27 TX8 10 3 tyX8 .int := ⟨⟨by decide, gx_in 180 (by decide +kernel) (by decide +kernel)⟩, rfl, rfl⟩
theorem fq_X8_31 : gx_fp RX8 31 TX8 10 4 tyX8 .int := ⟨⟨by decide, gx_in 183 (by decide +kernel) (by decide +kernel)⟩, rfl, rfl⟩
theorem fq_X8_34 : gx_fp RX8 34 TX8 10 5 tyX8 .int := ⟨⟨by decide, gx_in 186 (by decide +kernel) (by decide +kernel)⟩, rfl, rfl⟩
theorem fq_X8_37 : gx_fp RX8 37 TX8 10 6 tyX8 .int := ⟨⟨by decide, gx_in 189 (by decide +kernel) (by decide +kernel)⟩, rfl, rfl⟩
theorem fq_X8_40 : gx_fp RX8 40 TX8 10 7 tyX8 .int := ⟨⟨by decide, gx_in 192 (by decide +kernel) (by decide +kernel)⟩, rfl, rfl⟩
theorem fq_X8_43 : gx_fp RX8 43 TX8 10 8 tyX8 .int := ⟨⟨by decide, gx_in 195 (by decide +kernel) (by decide +kernel)⟩, rfl, rfl⟩
theorem fq_X8_46 : gx_fp RX8 46 TX8 10 9 tyX8 .int := ⟨⟨by decide, gx_in 197 (by decide +kernel) (by decide +kernel)⟩, rfl, rfl⟩
theorem fh_X8_11 : gx_fl RX8 11 TX8 10 0 := ⟨by decide, gx_in 172 (by decide +kernel) (by decide +kernel)⟩
theorem ki_X9 : Cond.instantiable RX9 2 ∈ gx_U := gx_in 98 (by decide +kernel) (by decide +kernel)
theorem kn_X9 : Cond.initialized RX9 ∈ gx_U := gx_in 59 (by decide +kernel) (by decide +kernel)
theorem kd_X9 : ∀ j, j < 2 → defaultValue (tyX9 j) = vp_V [.null, .int 0] j := fun j hj => match j, hj with | 0, _ => rfl | 1, _ => rfl | n + 2, h => absurd h (by omega)
theorem kx_X8_49 : gx_cI RX8 49 yX9_init cX9_init 2 0 := ⟨⟨gx_in 99 (by decide +kernel) (by decide +kernel), gx_in 100 (by decide +kernel) (by decide +kernel), gx_in 59 (by decide +kernel) (by decide +kernel), gx_in 101 (by decide +kernel) (by decide +kernel)⟩, rfl, by decide, by decide, by decide +kernel⟩
theorem fh_X8_19 : gx_fl RX8 19 TX8 10 1 := ⟨by decide, gx_in 175 (by decide +kernel) (by decide +kernel)⟩
theorem ki_X2 : Cond.instantiable RX2 6 ∈ gx_U := gx_in 144 (by decide +kernel) (by decide +kernel)
theorem kn_X2 : Cond.initialized RX2 ∈ gx_U := gx_in 61 (by decide +kernel) (by decide +kernel)
theorem kd_X2 : ∀ j, j < 6 → defaultValue (tyX2 j) = vp_V [.int 0, .int 0, .int 0, .int 0, .int 0, .int 0] j := fun j hj => match j, hj with | 0, _ => rfl | 1, _ => rfl | 2, _ => rfl | 3, _ => rfl | 4, _ => rfl | 5, _ => rfl | n + 6, h => absurd h (by omega)
theorem kx_X8_50 : gx_cI RX8 50 yX2_init cX2_init 2 1 := ⟨⟨gx_in 145 (by decide +kernel) (by decide +kernel), gx_in 146 (by decide +kernel) (by decide +kernel), gx_in 61 (by decide +kernel) (by decide +kernel), gx_in 147 (by decide +kernel) (by decide +kernel)⟩, rfl, by decide, by decide, by decide +kernel⟩
theorem ko_X5_3 : Cond.methodLink RX5 3 objectInit ∈ gx_U := gx_in 324 (by decide +kernel) (by decide +kernel)
theorem kl_X5_9 : Cond.classLink RX5 9 RX6 ∈ gx_U := gx_in 325 (by decide +kernel) (by decide +kernel)
theorem ki_X6 : Cond.instantiable RX6 6 ∈ gx_U := gx_in 326 (by decide +kernel) (by decide +kernel)
theorem kn_X6 : Cond.initialized RX6 ∈ gx_U := gx_in 65 (by decide +kernel) (by decide +kernel)
theorem kd_X6 : ∀ j, j < 6 → defaultValue (tyX6 j) = vp_V [.null, .int 0, .int 0, .int 0, .int 0, .int 0] j := fun j hj => match j, hj with | 0, _ => rfl | 1, _ => rfl | 2, _ => rfl | 3, _ => rfl | 4, _ => rfl | 5, _ => rfl | n + 6, h => absurd h (by omega)
theorem kx_X5_11 : gx_cIN RX5 11 "GreenLine" yX6_init cX6_init 1 0 := ⟨⟨by unfold gx_nestI; simp [RX5], gx_in 328 (by decide +kernel) (by decide +kernel), gx_in 65 (by decide +kernel) (by decide +kernel), gx_in 329 (by decide +kernel) (by decide +kernel)⟩, rfl, by decide, by decide, by decide +kernel⟩
theorem ff_X5_12 : gx_fF RX5 12 TX5 17 0 tyX5 (.object "GreenLine$Scanner") := ⟨⟨by decide, gx_in 356 (by decide +kernel) (by decide +kernel)⟩, rfl, rfl, rfl⟩
theorem ff_X5_18 : gx_fF RX5 18 TX5 17 1 tyX5 (.array .int) := ⟨⟨by decide, gx_in 358 (by decide +kernel) (by decide +kernel)⟩, rfl, rfl, rfl⟩
theorem fq_X5_22 : gx_fp RX5 22 TX5 17 2 tyX5 .int := ⟨⟨by decide, gx_in 359 (by decide +kernel) (by decide +kernel)⟩, rfl, rfl⟩
theorem fq_X5_26 : gx_fp RX5 26 TX5 17 3 tyX5 .int := ⟨⟨by decide, gx_in 360 (by decide +kernel) (by decide +kernel)⟩, rfl, rfl⟩
theorem fq_X5_29 : gx_fp RX5 29 TX5 17 4 tyX5 .int := ⟨⟨by decide, gx_in 361 (by decide +kernel) (by decide +kernel)⟩, rfl, rfl⟩
theorem fq_X5_32 : gx_fp RX5 32 TX5 17 5 tyX5 .int := ⟨⟨by decide, gx_in 362 (by decide +kernel) (by decide +kernel)⟩, rfl, rfl⟩
theorem fq_X5_35 : gx_fp RX5 35 TX5 17 6 tyX5 .boolean := ⟨⟨by decide, gx_in 363 (by decide +kernel) (by decide +kernel)⟩, rfl, rfl⟩
theorem fq_X5_39 : gx_fp RX5 39 TX5 17 7 tyX5 .boolean := ⟨⟨by decide, gx_in 364 (by decide +kernel) (by decide +kernel)⟩, rfl, rfl⟩
theorem fq_X5_42 : gx_fp RX5 42 TX5 17 8 tyX5 .boolean := ⟨⟨by decide, gx_in 365 (by decide +kernel) (by decide +kernel)⟩, rfl, rfl⟩
theorem fq_X5_45 : gx_fp RX5 45 TX5 17 9 tyX5 .boolean := ⟨⟨by decide, gx_in 366 (by decide +kernel) (by decide +kernel)⟩, rfl, rfl⟩
theorem fq_X5_48 : gx_fp RX5 48 TX5 17 10 tyX5 .boolean := ⟨⟨by decide, gx_in 367 (by decide +kernel) (by decide +kernel)⟩, rfl, rfl⟩
theorem fq_X5_51 : gx_fp RX5 51 TX5 17 11 tyX5 .boolean := ⟨⟨by decide, gx_in 368 (by decide +kernel) (by decide +kernel)⟩, rfl, rfl⟩
theorem fq_X5_54 : gx_fp RX5 54 TX5 17 12 tyX5 .boolean := ⟨⟨by decide, gx_in 369 (by decide +kernel) (by decide +kernel)⟩, rfl, rfl⟩
theorem fq_X5_57 : gx_fp RX5 57 TX5 17 13 tyX5 .boolean := ⟨⟨by decide, gx_in 370 (by decide +kernel) (by decide +kernel)⟩, rfl, rfl⟩
theorem fq_X5_60 : gx_fp RX5 60 TX5 17 14 tyX5 .int := ⟨⟨by decide, gx_in 371 (by decide +kernel) (by decide +kernel)⟩, rfl, rfl⟩
theorem fq_X5_63 : gx_fp RX5 63 TX5 17 15 tyX5 .int := ⟨⟨by decide, gx_in 373 (by decide +kernel) (by decide +kernel)⟩, rfl, rfl⟩
theorem kl_X5_66 : Cond.classLink RX5 66 RX4 ∈ gx_U := gx_in 354 (by decide +kernel) (by decide +kernel)
theorem ki_X4 : Cond.instantiable RX4 4 ∈ gx_U := gx_in 223 (by decide +kernel) (by decide +kernel)
theorem kn_X4 : Cond.initialized RX4 ∈ gx_U := gx_in 62 (by decide +kernel) (by decide +kernel)
theorem kd_X4 : ∀ j, j < 4 → defaultValue (tyX4 j) = vp_V [.null, .null, .int 0, .int 0] j := fun j hj => match j, hj with | 0, _ => rfl | 1, _ => rfl | 2, _ => rfl | 3, _ => rfl | n + 4, h => absurd h (by omega)
theorem kx_X5_68 : gx_cIN RX5 68 "GreenLine" yX4_init cX4_init 1 0 := ⟨⟨by unfold gx_nestI; simp [RX5], gx_in 225 (by decide +kernel) (by decide +kernel), gx_in 62 (by decide +kernel) (by decide +kernel), gx_in 226 (by decide +kernel) (by decide +kernel)⟩, rfl, by decide, by decide, by decide +kernel⟩
theorem fq_X5_69 : gx_fp RX5 69 TX5 17 16 tyX5 (.object "GreenLine$Program") := ⟨⟨by decide, gx_in 375 (by decide +kernel) (by decide +kernel)⟩, rfl, rfl⟩
theorem ko_X1_3 : Cond.methodLink RX1 3 objectInit ∈ gx_U := gx_in 87 (by decide +kernel) (by decide +kernel)
theorem kl_X1_9 : Cond.classLink RX1 9 RX8 ∈ gx_U := gx_in 88 (by decide +kernel) (by decide +kernel)
theorem ki_X8 : Cond.instantiable RX8 10 ∈ gx_U := gx_in 89 (by decide +kernel) (by decide +kernel)
theorem kn_X8 : Cond.initialized RX8 ∈ gx_U := gx_in 58 (by decide +kernel) (by decide +kernel)
theorem kd_X8 : ∀ j, j < 10 → defaultValue (tyX8 j) = vp_V [.null, .null, .null, .int 0, .int 0, .int 0, .int 0, .int 0, .int 0, .int 0] j := fun j hj => match j, hj with | 0, _ => rfl | 1, _ => rfl | 2, _ => rfl | 3, _ => rfl | 4, _ => rfl | 5, _ => rfl | 6, _ => rfl | 7, _ => rfl | 8, _ => rfl | 9, _ => rfl | n + 10, h => absurd h (by omega)
theorem kx_X1_11 : gx_cI RX1 11 yX8_init cX8_init 2 0 := ⟨⟨gx_in 90 (by decide +kernel) (by decide +kernel), gx_in 91 (by decide +kernel) (by decide +kernel), gx_in 58 (by decide +kernel) (by decide +kernel), gx_in 92 (by decide +kernel) (by decide +kernel)⟩, rfl, by decide, by decide, by decide +kernel⟩
theorem ff_X1_12 : gx_fF RX1 12 TX1 9 0 tyX1 (.object "GreenLine$Setup") := ⟨⟨by decide, gx_in 285 (by decide +kernel) (by decide +kernel)⟩, rfl, rfl, rfl⟩
theorem kl_X1_18 : Cond.classLink RX1 18 "GreenLine$Program" ∈ gx_U := gx_in 221 (by decide +kernel) (by decide +kernel)
theorem ff_X1_20 : gx_fF RX1 20 TX1 9 1 tyX1 (.array (.object "GreenLine$Program")) := ⟨⟨by decide, gx_in 287 (by decide +kernel) (by decide +kernel)⟩, rfl, rfl, rfl⟩
theorem kx_X1_24 : gx_cIN RX1 24 "GreenLine" yX4_init cX4_init 1 0 := ⟨⟨by unfold gx_nestI; simp [RX1], gx_in 225 (by decide +kernel) (by decide +kernel), gx_in 62 (by decide +kernel) (by decide +kernel), gx_in 226 (by decide +kernel) (by decide +kernel)⟩, rfl, by decide, by decide, by decide +kernel⟩
theorem ff_X1_25 : gx_fF RX1 25 TX1 9 2 tyX1 (.object "GreenLine$Program") := ⟨⟨by decide, gx_in 289 (by decide +kernel) (by decide +kernel)⟩, rfl, rfl, rfl⟩
theorem kl_X1_29 : Cond.classLink RX1 29 RX0 ∈ gx_U := gx_in 249 (by decide +kernel) (by decide +kernel)
theorem ki_X0 : Cond.instantiable RX0 7 ∈ gx_U := gx_in 250 (by decide +kernel) (by decide +kernel)
theorem kn_X0 : Cond.initialized RX0 ∈ gx_U := gx_in 63 (by decide +kernel) (by decide +kernel)
theorem kd_X0 : ∀ j, j < 7 → defaultValue (tyX0 j) = vp_V [.null, .int 0, .int 0, .int 0, .int 0, .int 0, .int 0] j := fun j hj => match j, hj with | 0, _ => rfl | 1, _ => rfl | 2, _ => rfl | 3, _ => rfl | 4, _ => rfl | 5, _ => rfl | 6, _ => rfl | n + 7, h => absurd h (by omega)
theorem kx_X1_31 : gx_cIN RX1 31 "GreenLine" yX0_init cX0_init 1 0 := ⟨⟨by unfold gx_nestI; simp [RX1], gx_in 252 (by decide +kernel) (by decide +kernel), gx_in 63 (by decide +kernel) (by decide +kernel), gx_in 253 (by decide +kernel) (by decide +kernel)⟩, rfl, by decide, by decide, by decide +kernel⟩
theorem ff_X1_32 : gx_fF RX1 32 TX1 9 3 tyX1 (.object "GreenLine$Asker") := ⟨⟨by decide, gx_in 290 (by decide +kernel) (by decide +kernel)⟩, rfl, rfl, rfl⟩
theorem km_X1_36 : Cond.classLink RX1 36 "[[I" ∈ gx_U := gx_in 283 (by decide +kernel) (by decide +kernel)
theorem ff_X1_38 : gx_fF RX1 38 TX1 9 4 tyX1 (.array (.array .int)) := ⟨⟨by decide, gx_in 291 (by decide +kernel) (by decide +kernel)⟩, rfl, rfl, rfl⟩
theorem fq_X1_41 : gx_fp RX1 41 TX1 9 5 tyX1 .int := ⟨⟨by decide, gx_in 292 (by decide +kernel) (by decide +kernel)⟩, rfl, rfl⟩
theorem fq_X1_45 : gx_fp RX1 45 TX1 9 6 tyX1 .int := ⟨⟨by decide, gx_in 293 (by decide +kernel) (by decide +kernel)⟩, rfl, rfl⟩
theorem fq_X1_48 : gx_fp RX1 48 TX1 9 7 tyX1 .int := ⟨⟨by decide, gx_in 294 (by decide +kernel) (by decide +kernel)⟩, rfl, rfl⟩
theorem fq_X1_51 : gx_fp RX1 51 TX1 9 8 tyX1 .int := ⟨⟨by decide, gx_in 296 (by decide +kernel) (by decide +kernel)⟩, rfl, rfl⟩
theorem fh_X1_20 : gx_fl RX1 20 TX1 9 1 := ⟨by decide, gx_in 287 (by decide +kernel) (by decide +kernel)⟩
theorem ko_X10_1 : Cond.methodLink RX10 1 objectInit ∈ gx_U := gx_in 79 (by decide +kernel) (by decide +kernel)
theorem kl_X10_7 : Cond.classLink RX10 7 RX1 ∈ gx_U := gx_in 82 (by decide +kernel) (by decide +kernel)
theorem ki_X1 : Cond.instantiable RX1 9 ∈ gx_U := gx_in 83 (by decide +kernel) (by decide +kernel)
theorem kn_X1 : Cond.initialized RX1 ∈ gx_U := gx_in 57 (by decide +kernel) (by decide +kernel)
theorem kd_X1 : ∀ j, j < 9 → defaultValue (tyX1 j) = vp_V [.null, .null, .null, .null, .null, .int 0, .int 0, .int 0, .int 0] j := fun j hj => match j, hj with | 0, _ => rfl | 1, _ => rfl | 2, _ => rfl | 3, _ => rfl | 4, _ => rfl | 5, _ => rfl | 6, _ => rfl | 7, _ => rfl | 8, _ => rfl | n + 9, h => absurd h (by omega)
theorem kx_X10_9 : gx_cI RX10 9 yX1_init cX1_init 2 0 := ⟨⟨gx_in 84 (by decide +kernel) (by decide +kernel), gx_in 85 (by decide +kernel) (by decide +kernel), gx_in 57 (by decide +kernel) (by decide +kernel), gx_in 86 (by decide +kernel) (by decide +kernel)⟩, rfl, by decide, by decide, by decide +kernel⟩
theorem ff_X10_10 : gx_fF RX10 10 TX10 12 0 tyX10 (.object "GreenLine$Beam") := ⟨⟨by decide, gx_in 423 (by decide +kernel) (by decide +kernel)⟩, rfl, rfl, rfl⟩
theorem fh_X10_10 : gx_fl RX10 10 TX10 12 0 := ⟨by decide, gx_in 423 (by decide +kernel) (by decide +kernel)⟩
theorem fh_X10_16 : gx_fl RX10 16 TX1 9 0 := ⟨by decide, gx_in 286 (by decide +kernel) (by decide +kernel)⟩
theorem ff_X10_20 : gx_fF RX10 20 TX10 12 1 tyX10 (.object "GreenLine$Setup") := ⟨⟨by decide, gx_in 424 (by decide +kernel) (by decide +kernel)⟩, rfl, rfl, rfl⟩
theorem kl_X10_21 : Cond.classLink RX10 21 RX8 ∈ gx_U := gx_in 317 (by decide +kernel) (by decide +kernel)
theorem kx_X10_23 : gx_cI RX10 23 yX8_init cX8_init 2 0 := ⟨⟨gx_in 318 (by decide +kernel) (by decide +kernel), gx_in 91 (by decide +kernel) (by decide +kernel), gx_in 58 (by decide +kernel) (by decide +kernel), gx_in 92 (by decide +kernel) (by decide +kernel)⟩, rfl, by decide, by decide, by decide +kernel⟩
theorem ff_X10_24 : gx_fF RX10 24 TX10 12 2 tyX10 (.object "GreenLine$Setup") := ⟨⟨by decide, gx_in 425 (by decide +kernel) (by decide +kernel)⟩, rfl, rfl, rfl⟩
theorem kl_X10_27 : Cond.classLink RX10 27 RX5 ∈ gx_U := gx_in 319 (by decide +kernel) (by decide +kernel)
theorem ki_X5 : Cond.instantiable RX5 17 ∈ gx_U := gx_in 320 (by decide +kernel) (by decide +kernel)
theorem kn_X5 : Cond.initialized RX5 ∈ gx_U := gx_in 64 (by decide +kernel) (by decide +kernel)
theorem kd_X5 : ∀ j, j < 17 → defaultValue (tyX5 j) = vp_V [.null, .null, .int 0, .int 0, .int 0, .int 0, .int 0, .int 0, .int 0, .int 0, .int 0, .int 0, .int 0, .int 0, .int 0, .int 0, .null] j := fun j hj => match j, hj with | 0, _ => rfl | 1, _ => rfl | 2, _ => rfl | 3, _ => rfl | 4, _ => rfl | 5, _ => rfl | 6, _ => rfl | 7, _ => rfl | 8, _ => rfl | 9, _ => rfl | 10, _ => rfl | 11, _ => rfl | 12, _ => rfl | 13, _ => rfl | 14, _ => rfl | 15, _ => rfl | 16, _ => rfl | n + 17, h => absurd h (by omega)
theorem kx_X10_29 : gx_cIN RX10 29 "GreenLine" yX5_init cX5_init 1 0 := ⟨⟨by unfold gx_nestI; simp [RX10], gx_in 322 (by decide +kernel) (by decide +kernel), gx_in 64 (by decide +kernel) (by decide +kernel), gx_in 323 (by decide +kernel) (by decide +kernel)⟩, rfl, by decide, by decide, by decide +kernel⟩
theorem ff_X10_30 : gx_fF RX10 30 TX10 12 3 tyX10 (.object "GreenLine$Reader") := ⟨⟨by decide, gx_in 426 (by decide +kernel) (by decide +kernel)⟩, rfl, rfl, rfl⟩
theorem fh_X10_30 : gx_fl RX10 30 TX10 12 3 := ⟨by decide, gx_in 426 (by decide +kernel) (by decide +kernel)⟩
theorem fh_X10_34 : gx_fl RX10 34 TX5 17 0 := ⟨by decide, gx_in 357 (by decide +kernel) (by decide +kernel)⟩
theorem fh_X10_38 : gx_fl RX10 38 TX6 6 0 := ⟨by decide, gx_in 332 (by decide +kernel) (by decide +kernel)⟩
theorem ff_X10_44 : gx_fF RX10 44 TX10 12 4 tyX10 (.array .int) := ⟨⟨by decide, gx_in 427 (by decide +kernel) (by decide +kernel)⟩, rfl, rfl, rfl⟩
theorem kl_X10_47 : Cond.classLink RX10 47 RX7 ∈ gx_U := gx_in 411 (by decide +kernel) (by decide +kernel)
theorem ki_X7 : Cond.instantiable RX7 1 ∈ gx_U := gx_in 412 (by decide +kernel) (by decide +kernel)
theorem kn_X7 : Cond.initialized RX7 ∈ gx_U := gx_in 66 (by decide +kernel) (by decide +kernel)
theorem kd_X7 : ∀ j, j < 1 → defaultValue (tyX7 j) = vp_V [.null] j := fun j hj => match j, hj with | 0, _ => rfl | n + 1, h => absurd h (by omega)
theorem kx_X10_49 : gx_cIN RX10 49 "GreenLine" yX7_init cX7_init 1 0 := ⟨⟨by unfold gx_nestI; simp [RX10], gx_in 414 (by decide +kernel) (by decide +kernel), gx_in 66 (by decide +kernel) (by decide +kernel), gx_in 415 (by decide +kernel) (by decide +kernel)⟩, rfl, by decide, by decide, by decide +kernel⟩
theorem ff_X10_50 : gx_fF RX10 50 TX10 12 5 tyX10 (.object "GreenLine$Screen") := ⟨⟨by decide, gx_in 428 (by decide +kernel) (by decide +kernel)⟩, rfl, rfl, rfl⟩
theorem kl_X10_54 : Cond.classLink RX10 54 RX3 ∈ gx_U := gx_in 421 (by decide +kernel) (by decide +kernel)
theorem kx_X10_56 : gx_cIN RX10 56 "GreenLine" yX3_init cX3_init 1 0 := ⟨⟨by unfold gx_nestI; simp [RX10], gx_in 107 (by decide +kernel) (by decide +kernel), gx_in 60 (by decide +kernel) (by decide +kernel), gx_in 108 (by decide +kernel) (by decide +kernel)⟩, rfl, by decide, by decide, by decide +kernel⟩
theorem ff_X10_57 : gx_fF RX10 57 TX10 12 6 tyX10 (.object "GreenLine$Part") := ⟨⟨by decide, gx_in 429 (by decide +kernel) (by decide +kernel)⟩, rfl, rfl, rfl⟩
theorem ff_X10_61 : gx_fF RX10 61 TX10 12 7 tyX10 (.array .int) := ⟨⟨by decide, gx_in 430 (by decide +kernel) (by decide +kernel)⟩, rfl, rfl, rfl⟩
theorem ff_X10_64 : gx_fF RX10 64 TX10 12 8 tyX10 (.array .int) := ⟨⟨by decide, gx_in 431 (by decide +kernel) (by decide +kernel)⟩, rfl, rfl, rfl⟩
theorem fq_X10_67 : gx_fp RX10 67 TX10 12 9 tyX10 .int := ⟨⟨by decide, gx_in 432 (by decide +kernel) (by decide +kernel)⟩, rfl, rfl⟩
theorem fq_X10_71 : gx_fp RX10 71 TX10 12 10 tyX10 .int := ⟨⟨by decide, gx_in 433 (by decide +kernel) (by decide +kernel)⟩, rfl, rfl⟩
theorem fq_X10_74 : gx_fp RX10 74 TX10 12 11 tyX10 .int := ⟨⟨by decide, gx_in 434 (by decide +kernel) (by decide +kernel)⟩, rfl, rfl⟩
