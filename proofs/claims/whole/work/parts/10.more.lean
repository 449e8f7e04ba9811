section GWM
variable {z : gx_X} {d : gx_D} {w : gx_V} {cc : ByteArray} {nL : Nat} {own : String} {Qc : gx_QT} {M : gx_M} {pc : Nat} {lv : List (Nat × Value)} {rest st : List Value}
theorem gw_rr {o o' : Nat} (h : o' = o) (k : GW z w nL Qc M pc lv (.ref (gx_ad w o') :: rest)) : GW z w nL Qc M pc lv (.ref (gx_ad w o) :: rest) := h ▸ k
theorem gx_nz {x : Int32} (h : x = 0 ∨ x = 1) : narrow .boolean (.int x) = .int x := by rcases h with rfl | rfl <;> rfl
theorem gx_nzf {x : Int32} (h : x = 0 ∨ x = 1) : fits .boolean (.int x) = true := by rcases h with rfl | rfl <;> rfl
theorem gk_be {o : Nat} (h : pk_Pr o) : pk_a3 (o + 6) := Or.inr (Or.inr (Or.inr ⟨by omega, by omega⟩))
theorem gk_ho {o : Nat} (h : pk_Pr o) : pk_a3 (o + 12) := Or.inr (Or.inr (Or.inr ⟨by omega, by omega⟩))
theorem gk_ph {o : Nat} (h : pk_Se o) : pk_a2 (o + 6) := by
  have ⟨h1, h2⟩ := h
  rcases (show o = 34 ∨ o = 35 by omega) with rfl | rfl
  · exact Or.inr (Or.inr (Or.inl rfl))
  · exact Or.inr (Or.inr (Or.inr rfl))
theorem gk_ou {i : Nat} (h : i < 2) : pk_a20 (13 + i) := by
  rcases (show i = 0 ∨ i = 1 by omega) with rfl | rfl
  · exact Or.inl rfl
  · exact Or.inr rfl
def gx_slen (i : Nat) : Int32 := nI (gx_sl.getD i 0)
def gx_sch (i : Nat) (k : Int32) : Int32 := (gx_sb.getD i []).getD k.toNatClampNeg 0
theorem gw_ldcs (hC : gx_C z d w cc nL RX6) {i : Nat} (hi : i < 12) (hdg : decode cc pc = .ok (.ldc (gx_sx.getD i (0, "")).1, 2)) (k : GW z w nL Qc M (pc + 2) lv (.ref (d.1 i) :: rest)) : GW z w nL Qc M pc lv rest := fun H locs ls hP hS hL =>
  va_ldcS hC.1.1 hC.1.2.1 hC.1.2.2.2.1 (hC.2.2.2.1.2.2.2.2.2.1 i hi) hdg (k H locs ls hP hS hL)
theorem gw_gains (hC : gx_C z d w cc nL own) {index : Nat} (hlink : Cond.fieldLink own index "GreenLine" "GAINS" "[I" ∈ gx_U) (hdg : decode cc pc = .ok (.getstatic index, 3)) (k : GW z w nL Qc M (pc + 3) lv (.ref d.2.2 :: rest)) : GW z w nL Qc M pc lv rest := fun H locs ls hP hS hL =>
  va_gets (C := "GreenLine") (n := "GAINS") (d := "[I") (ref := "GreenLine") hC.1.1 hC.1.2.1 hC.2.2.2.1.2.2.2.1 hS hC.1.2.2.2.1 (hC.1.2.2.2.2 _ hlink) (fun _ h => h) hdg (k H locs ls hP hS hL)
theorem gw_gld (hC : gx_C z d w cc nL own) {i : Int32} (hin : vp_in i 8) (hdg : decode cc pc = .ok (.iaload, 1)) (k : GW z w nL Qc M (pc + 1) lv (.int (gx_gains i.toNatClampNeg) :: rest)) : GW z w nL Qc M pc lv (.int i :: .ref d.2.2 :: rest) := fun H locs ls hP hS hL =>
  va_ti hC.1.1 hC.1.2.1 hC.2.2.2.1.2.2.2.2.1 hS hin rfl hdg (k H locs ls hP hS hL)
theorem gw_glen (hC : gx_C z d w cc nL own) (hdg : decode cc pc = .ok (.arraylength, 1)) (k : GW z w nL Qc M (pc + 1) lv (.int 8 :: rest)) : GW z w nL Qc M pc lv (.ref d.2.2 :: rest) := fun H locs ls hP hS hL =>
  va_tlen hC.1.1 hC.1.2.1 hC.2.2.2.1.2.2.2.2.1 hS (by decide) hdg (k H locs ls hP hS hL)
theorem gw_tabIn {tgt : Nat} {v : Int32} (hC : gx_C z d w cc nL own) {dflt lo hi : Int} {offs : Array Int} {len : Nat} {x : Int32} {off : Int} (hdg : decode cc pc = .ok (.tableswitch dflt lo hi offs, len)) (hx : x = v) (h1 : ¬ v.toInt < lo) (h2 : ¬ hi < v.toInt) (ho : offs[(v.toInt - lo).toNat]? = some off) (ht : (pc : Int) + off = (tgt : Int)) (k : GW z w nL Qc M tgt lv rest) : GW z w nL Qc M pc lv (.int x :: rest) := by
  subst hx
  exact gw_tableIn hC hdg h1 h2 ho ht k
theorem gx_out {x : Int32} {lo hi : Int} (n : Nat) (hn : hi < lo + n) (h1 : -2147483648 ≤ lo) (h2 : hi < 2147483648) (h : ∀ j : Nat, j < n → x ≠ Int32.ofInt (lo + j)) : x.toInt < lo ∨ hi < x.toInt := by
  rcases Int.lt_or_le x.toInt lo with a | a
  · exact Or.inl a
  rcases Int.lt_or_le hi x.toInt with b | b
  · exact Or.inr b
  refine absurd ?_ (h (x.toInt - lo).toNat (by omega))
  rw [show lo + ((x.toInt - lo).toNat : Int) = x.toInt by omega, Int32.ofInt_toInt]
theorem gw_tabOut {tgt : Nat} (n : Nat) (hC : gx_C z d w cc nL own) {dflt lo hi : Int} {offs : Array Int} {len : Nat} {x : Int32} (hdg : decode cc pc = .ok (.tableswitch dflt lo hi offs, len)) (hn : hi < lo + n ∧ -2147483648 ≤ lo ∧ hi < 2147483648) (hx : ∀ j : Nat, j < n → x ≠ Int32.ofInt (lo + j)) (ht : (pc : Int) + dflt = (tgt : Int)) (k : GW z w nL Qc M tgt lv rest) : GW z w nL Qc M pc lv (.int x :: rest) :=
  gw_tableOut hC hdg (gx_out n hn.1 hn.2.1 hn.2.2 hx) ht k
theorem gw_lookIn {tgt : Nat} {v : Int32} (hC : gx_C z d w cc nL own) {dflt : Int} {ps : Array (Int × Int)} {len : Nat} {x : Int32} {off : Int} (hdg : decode cc pc = .ok (.lookupswitch dflt ps, len)) (hx : x = v) (hp : (ps.toList.zip (ps.toList.drop 1)).all (fun (a, next) => a.1 < next.1) = true) (ho : Op.lookupswitch.offset ps.toList dflt v.toInt = off) (ht : (pc : Int) + off = (tgt : Int)) (k : GW z w nL Qc M tgt lv rest) : GW z w nL Qc M pc lv (.int x :: rest) := by
  subst hx
  exact gw_lookup hC hdg hp ho ht k
theorem gw_lookOut {tgt : Nat} (hC : gx_C z d w cc nL own) {dflt : Int} {ps : Array (Int × Int)} {len : Nat} {x : Int32} (hdg : decode cc pc = .ok (.lookupswitch dflt ps, len)) (hp : (ps.toList.zip (ps.toList.drop 1)).all (fun (a, next) => a.1 < next.1) = true) (hx : ∀ q ∈ ps.toList, x ≠ Int32.ofInt q.1) (ht : (pc : Int) + dflt = (tgt : Int)) (k : GW z w nL Qc M tgt lv rest) : GW z w nL Qc M pc lv (.int x :: rest) := by
  refine gw_lookup hC hdg hp (Op.lookupswitch.offset_none ?_) ht k
  rw [List.find?_eq_none]
  intro q hq e
  refine hx q hq ?_
  rw [beq_iff_eq] at e
  rw [e, Int32.ofInt_toInt]
end GWM
/-- the same for a method of a class that the machine knows -/
theorem gx_ofF {l : Launch} {d : gx_D} {w : gx_V} {y : MethodName} {b : ByteArray} {nL : Nat} {ret : Option FieldType} {rm : Room} {av : List Value} {M : gx_M} {own : String} {Qc : gx_QT} {sz : Nat} (hy : plainFor y = true) (ho : own = y.cls) (hlen : (lg_sl av).length ≤ nL)
    (body : ∀ x : gx_X, gx_C x d w b nL own → gx_l x = l → gx_R x = rm → (gx_s x).heap.size = sz → (gx_me x).sig.returnType = ret → GW x w nL Qc M 0 (lv_args 0 av) []) (hcells : rm = { rm with cells := 0, slots := 0 }) : Met l y (.code y b nL ret :: gx_U) rm (gx_Pc d w av M sz) Qc 0 0 (gx_A w sz) := by
  refine va_MetF (cc := b) (maxL := nL) (ret := ret) hy rfl ?_
  intro p e s m args below meth c s₁ B hml hv
  obtain ⟨rfl, hsz, hP, hK, hF, hI⟩ := hv
  have hts := atoms_spec (ws := .code y b nL ret :: gx_U) B.pre
  have hown : s.vm.findClass own = some m.cls := by rw [ho]; exact findClass_of_methodNamed B.named
  subst hsz
  rw [lg_entry_eq]
  exact body (p, l, e, rm, s, m, av.toArray, below, meth, c) ⟨⟨B.exec, B.bytes, hml, hown, fun w h => hts w (List.mem_cons_of_mem _ h)⟩, B.notSynchronized, hK, hF, hI⟩ rfl rfl rfl B.returns s.heap [] _ hP va_S.rf (lv_entry av hlen)
section GWSTR
variable {z : gx_X} {d : gx_D} {w : gx_V} {cc : ByteArray} {nL : Nat} {own : String} {Qc : gx_QT} {M : gx_M} {pc : Nat} {lv : List (Nat × Value)} {rest st : List Value}
theorem gw_i2c (hC : gx_C z d w cc nL own) {x v : Int32} (hdg : decode cc pc = .ok (.i2c, 1)) (hv : (x.toUInt32 % 65536).toInt32 = v) (k : GW z w nL Qc M (pc + 1) lv (.int v :: rest)) : GW z w nL Qc M pc lv (.int x :: rest) := fun H locs ls hP hS hL => lv_i2c hC.1.1 hC.1.2.1 hdg hv (k H locs ls hP hS hL)
theorem gw_sget (hC : gx_C z d w cc nL RJ0) {n ds : String} {i index : Nat} {v : Value} (hE : va_OF "java/lang/String" n ds v (d.1 i) (gx_A w (gx_s z).heap.size) (gx_s z) (gx_s z).heap) (hlink : Cond.fieldLink RJ0 index "java/lang/String" n ds ∈ gx_U) (hdg : decode cc pc = .ok (.getfield index, 3)) (k : GW z w nL Qc M (pc + 3) lv (v :: rest)) : GW z w nL Qc M pc lv (.ref (d.1 i) :: rest) := fun H locs ls hP hS hL =>
  vk_getf (ref := "java/lang/String") hC.1.1 hC.1.2.1 hE hS hC.1.2.2.2.1 (hC.1.2.2.2.2 _ hlink) (fun _ h => h) hdg (k H locs ls hP hS hL)
theorem gw_scompact (hC : gx_C z d w cc nL RJ0) (hdg : decode cc pc = .ok (.getstatic 38, 3)) (k : GW z w nL Qc M (pc + 3) lv (.int 1 :: rest)) : GW z w nL Qc M pc lv rest := fun H locs ls hP hS hL =>
  va_gets (C := "java/lang/String") (n := "COMPACT_STRINGS") (d := "Z") (ref := "java/lang/String") hC.1.1 hC.1.2.1 hC.2.2.2.1.2.1 hS hC.1.2.2.2.1 (hC.1.2.2.2.2 _ kf_J0_38) (fun _ h => h) hdg (k H locs ls hP hS hL)
theorem gw_sfmt (hC : gx_C z d w cc nL RJ0) (hdg : decode cc pc = .ok (.getstatic 1053, 3)) (k : ∀ v : Value, (v = .null ∨ ∃ t, v = .ref t) → GW z w nL Qc M (pc + 3) lv (v :: rest)) : GW z w nL Qc M pc lv rest := fun H locs ls hP hS hL => by
  rcases hC.2.2.2.1.2.2.1 with h | ⟨t, h⟩
  · exact va_gets (C := "jdk/internal/util/Preconditions") (n := "SIOOBE_FORMATTER") (d := "Ljava/util/function/BiFunction;") (ref := "jdk/internal/util/Preconditions") hC.1.1 hC.1.2.1 h hS hC.1.2.2.2.1 (hC.1.2.2.2.2 _ kf_J0_1053) (fun _ h => h) hdg (k _ (Or.inl rfl) H locs ls hP hS hL)
  · exact va_gets (C := "jdk/internal/util/Preconditions") (n := "SIOOBE_FORMATTER") (d := "Ljava/util/function/BiFunction;") (ref := "jdk/internal/util/Preconditions") hC.1.1 hC.1.2.1 h hS hC.1.2.2.2.1 (hC.1.2.2.2.2 _ kf_J0_1053) (fun _ h => h) hdg (k _ (Or.inr ⟨t, rfl⟩) H locs ls hP hS hL)
theorem gx_S (hC : gx_C z d w cc nL own) {i : Nat} (hi : i < 12) : va_O "java/lang/String" (d.1 i) (gx_A w (gx_s z).heap.size) (gx_s z) (gx_s z).heap ∧ va_OF "java/lang/String" "coder" "B" (.int 0) (d.1 i) (gx_A w (gx_s z).heap.size) (gx_s z) (gx_s z).heap ∧ va_OF "java/lang/String" "value" "[B" (.ref (d.2.1 i)) (d.1 i) (gx_A w (gx_s z).heap.size) (gx_s z) (gx_s z).heap ∧ va_T .byte (d.2.1 i) (gx_sl.getD i 0) (fun j => .int ((gx_sb.getD i []).getD j 0)) (gx_A w (gx_s z).heap.size) (gx_s z) (gx_s z).heap := hC.2.2.2.1.2.2.2.2.2.2.1 i hi
theorem gw_vlen (hC : gx_C z d w cc nL own) {i : Nat} (hi : i < 12) (hdg : decode cc pc = .ok (.arraylength, 1)) (k : GW z w nL Qc M (pc + 1) lv (.int (nI (gx_sl.getD i 0)) :: rest)) : GW z w nL Qc M pc lv (.ref (d.2.1 i) :: rest) := fun H locs ls hP hS hL =>
  va_tlen hC.1.1 hC.1.2.1 (gx_S hC hi).2.2.2 hS rfl hdg (k H locs ls hP hS hL)
theorem gw_vld (hC : gx_C z d w cc nL own) {i : Nat} {x : Int32} (hi : i < 12) (hin : vp_in x (gx_sl.getD i 0)) (hdg : decode cc pc = .ok (.baload, 1)) (k : GW z w nL Qc M (pc + 1) lv (.int (gx_sch i x) :: rest)) : GW z w nL Qc M pc lv (.int x :: .ref (d.2.1 i) :: rest) := fun H locs ls hP hS hL =>
  va_tb hC.1.1 hC.1.2.1 (gx_S hC hi).2.2.2 hS hin rfl hdg (k H locs ls hP hS hL)
theorem gx_rVs (hC : gx_C z d w cc nL own) {idx n mL i : Nat} {y : MethodName} {b : ByteArray} {ret : Option FieldType} {rm : Room} {As : List Value} {Qq : Nat → gx_QT} (hi : i < 12) (hM : ∀ sz, Met (gx_l z) y (.code y b mL ret :: gx_U) rm (gx_Pc d w (.ref (d.1 i) :: As) M sz) (Qq sz) 0 0 (gx_A w sz)) (hcv : gx_cV own idx RJ0 y b mL n ret) (hrm : gx_rm (gx_R z) rm mL) (hn : As.length = n) (hst : st = As.reverse ++ .ref (d.1 i) :: rest) (hcat : (rest.map fun v => v.category).sum ≤ 8) (hdg : decode cc pc = .ok (.invokevirtual idx, 3)) : gx_Rn z w nL M pc lv st rest Qq :=
  fun H locs ls hP hS hL => ⟨_, va_runV (own := own) (C := RJ0) (bytes := b) (maxL := mL) (ret := ret) hC.1 (hM H.size) (cwV n hC.1.2.2.2.2 (gx_gV hcv) rfl hrm.1 hrm.2.1 ⟨hcv.2.1, hcv.2.2.1, hcv.2.2.2.1, hcv.2.2.2.2⟩ hrm.2.2) ⟨gx_blind, vk_recv hC.2.2.2.1.2.2.2.2.2.2 hi hS, gx_pre hC hP hS⟩ rfl hn hL.1 hst (lv_room hcat) hdg ⟨Nat.zero_le _, Nat.zero_le _⟩⟩
end GWSTR
def rm_s0 : Room := { frames := 0, cells := 0, slots := 0, locals := 0 }
def rm_s1 : Room := { frames := 1, cells := 0, slots := 0, locals := 22 }
def rm_s2 : Room := { frames := 2, cells := 0, slots := 0, locals := 43 }
def rm_s3 : Room := { frames := 3, cells := 0, slots := 0, locals := 64 }
section CSTR
variable {l : Launch} {d : gx_D} {w : gx_V} {M : gx_M} {i : Nat} {v : Int32}
theorem c_s_coder (hi : i < 12) : gx_Mi l d w yJ0_coder_7d493 cJ0_coder_7d493 1 .byte rm_s0 [.ref (d.1 i)] M (fun r M1 => M1 = M ∧ r = 0) := fun sz =>
  gx_ofF (own := RJ0) (by decide +kernel) rfl (Nat.le_of_ble_eq_true rfl) (fun z hC hl hR hsz hr => by
    subst hsz
    refine gw_scompact hC dJ0_coder_7d493_0 ?_
    refine gw_if_eq (tgt := 13) hC dJ0_coder_7d493_3 (by decide) (fun hc => absurd hc (by decide)) (fun hc => ?_)
    refine gw_aload_n hC dJ0_coder_7d493_6 rfl 0 rfl ?_
    refine gw_sget hC (gx_S hC hi).2.1 kf_J0_15 dJ0_coder_7d493_7 ?_
    refine gw_goto (tgt := 14) hC dJ0_coder_7d493_10 (by decide) ?_
    exact gw_zret hC hr rfl dJ0_coder_7d493_14 ⟨rfl, rfl⟩) rfl
theorem c_s_latin (hi : i < 12) : gx_Mi l d w yJ0_isLatin1_aae02 cJ0_isLatin1_aae02 1 .boolean rm_s0 [.ref (d.1 i)] M (fun r M1 => M1 = M ∧ r = 1) := fun sz =>
  gx_ofF (own := RJ0) (by decide +kernel) rfl (Nat.le_of_ble_eq_true rfl) (fun z hC hl hR hsz hr => by
    subst hsz
    refine gw_scompact hC dJ0_isLatin1_aae02_0 ?_
    refine gw_if_eq (tgt := 17) hC dJ0_isLatin1_aae02_3 (by decide) (fun hc => absurd hc (by decide)) (fun hc => ?_)
    refine gw_aload_n hC dJ0_isLatin1_aae02_6 rfl 0 rfl ?_
    refine gw_sget hC (gx_S hC hi).2.1 kf_J0_15 dJ0_isLatin1_aae02_7 ?_
    refine gw_if_ne (tgt := 17) hC dJ0_isLatin1_aae02_10 (by decide) (fun hc => absurd rfl hc) (fun hc => ?_)
    refine gw_iconst (v := 1) hC dJ0_isLatin1_aae02_13 (by decide) ?_
    refine gw_goto (tgt := 18) hC dJ0_isLatin1_aae02_14 (by decide) ?_
    exact gw_zret hC hr rfl dJ0_isLatin1_aae02_18 ⟨rfl, rfl⟩) rfl
theorem c_s_length (hi : i < 12) : gx_Mi l d w yJ0_length_8abf5 cJ0_length_8abf5 1 .int rm_s1 [.ref (d.1 i)] M (fun r M1 => M1 = M ∧ r = gx_slen i) := fun sz =>
  gx_ofF (own := RJ0) (by decide +kernel) rfl (Nat.le_of_ble_eq_true rfl) (fun z hC hl hR hsz hr => by
    subst hsz
    refine gw_aload_n hC dJ0_length_8abf5_0 rfl 0 rfl ?_
    refine gw_sget hC (gx_S hC hi).2.2.1 kf_J0_9 dJ0_length_8abf5_1 ?_
    refine gw_vlen hC hi dJ0_length_8abf5_4 ?_
    refine gw_aload_n hC dJ0_length_8abf5_5 rfl 0 rfl ?_
    refine gw_calli (gx_rVs hC (n := 0) (As := []) (rest := [.int (nI (gx_sl.getD i 0))]) hi (fun sz => c_s_coder hi sz) kw_J0_335 (by rw [hR]; exact ⟨rfl, rfl, by decide, by decide⟩) rfl rfl (Nat.le_of_ble_eq_true rfl) dJ0_length_8abf5_6) ?_
    intro r1 m1 ⟨hm1, h⟩
    rw [hm1, h]
    refine gw_ishr hC dJ0_length_8abf5_9 ?_
    have e : nI (gx_sl.getD i 0) >>> ((0 : Int32) &&& 31) = gx_slen i := sc_shr0 (co_dec (N := 12) (P := fun i => gx_sl.getD i 0 < 2 ^ 31) (by decide +kernel) hi)
    rw [e]
    exact gw_iret hC hr dJ0_length_8abf5_10 ⟨rfl, rfl⟩) rfl
theorem c_s_pre {n : Int32} {f : Value} (h0 : ¬ v < 0) (h1 : v < n) (hf : f = .null ∨ ∃ t, f = .ref t) : gx_Mi l d w yJ3_checkIndex_8e157 cJ3_checkIndex_8e157 3 .int rm_s0 [.int v, .int n, f] M (fun r M1 => M1 = M ∧ True) := fun sz =>
  gx_ofF (own := RJ3) (by decide +kernel) rfl (by rcases hf with rfl | ⟨t, rfl⟩ <;> exact Nat.le_of_ble_eq_true rfl) (fun z hC hl hR hsz hr => by
    subst hsz
    have e : lv_args 0 [.int v, .int n, f] = [(0, .int v), (1, .int n), (2, f)] := by rcases hf with rfl | ⟨t, rfl⟩ <;> rfl
    rw [e]
    refine gw_iload_n hC dJ3_checkIndex_8e157_0 rfl 0 rfl ?_
    refine gw_if_lt (tgt := 9) hC dJ3_checkIndex_8e157_1 (by decide) (fun hc => absurd hc h0) (fun hc => ?_)
    refine gw_iload_n hC dJ3_checkIndex_8e157_4 rfl 0 rfl ?_
    refine gw_iload_n hC dJ3_checkIndex_8e157_5 rfl 1 rfl ?_
    refine gw_icmp_lt (tgt := 16) hC dJ3_checkIndex_8e157_6 (by decide) (fun hc => ?_) (fun hc => absurd h1 hc)
    refine gw_iload_n hC dJ3_checkIndex_8e157_16 rfl 0 rfl ?_
    exact gw_iret hC hr dJ3_checkIndex_8e157_17 ⟨rfl, trivial⟩) rfl
theorem c_s_check {n : Int32} (h0 : ¬ v < 0) (h1 : v < n) : gx_Mv l d w yJ0_checkIndex_df160 cJ0_checkIndex_df160 2 rm_s1 [.int v, .int n] M (fun M1 => M1 = M) := fun sz =>
  gx_ofF (own := RJ0) (by decide +kernel) rfl (Nat.le_of_ble_eq_true rfl) (fun z hC hl hR hsz hr => by
    subst hsz
    refine gw_iload_n hC dJ0_checkIndex_df160_0 rfl 0 rfl ?_
    refine gw_iload_n hC dJ0_checkIndex_df160_1 rfl 1 rfl ?_
    refine gw_sfmt hC dJ0_checkIndex_df160_2 (fun f hf => ?_)
    refine gw_calli (gx_rS hC (n := 3) (As := [.int v, .int n, f]) (rest := []) (fun sz => c_s_pre h0 h1 hf sz) kw_J0_1059 (by rw [hR]; exact ⟨rfl, rfl, by decide, by decide⟩) rfl rfl (Nat.le_of_ble_eq_true rfl) dJ0_checkIndex_df160_5) ?_
    intro r1 m1 ⟨hm1, h⟩
    rw [hm1]
    refine gw_pop hC dJ0_checkIndex_df160_8 rfl ?_
    exact gw_vret hC hr dJ0_checkIndex_df160_9 rfl) rfl
theorem gx_sch_ok : ∀ i, i < 12 → ∀ k, k < gx_sl.getD i 0 → (((gx_sb.getD i []).getD k 0 &&& 255).toUInt32 % 65536).toInt32 = (gx_sb.getD i []).getD k 0 ∧ narrow .char (.int ((gx_sb.getD i []).getD k 0)) = .int ((gx_sb.getD i []).getD k 0) := by decide +kernel
theorem c_s_lchar (hi : i < 12) (hin : vp_in v (gx_sl.getD i 0)) : gx_Mi l d w yJ1_charAt_3b067 cJ1_charAt_3b067 2 .char rm_s2 [.ref (d.2.1 i), .int v] M (fun r M1 => M1 = M ∧ r = gx_sch i v) := fun sz =>
  gx_ofF (own := RJ1) (by decide +kernel) rfl (Nat.le_of_ble_eq_true rfl) (fun z hC hl hR hsz hr => by
    subst hsz
    have hlt := vp_lt hin
    obtain ⟨k, hk, rfl⟩ := vp_in_of hin (co_dec (N := 12) (P := fun i => gx_sl.getD i 0 < 2 ^ 31) (by decide +kernel) hi)
    have h31 : gx_sl.getD i 0 < 2 ^ 31 := co_dec (N := 12) (P := fun i => gx_sl.getD i 0 < 2 ^ 31) (by decide +kernel) hi
    refine gw_iload_n hC dJ1_charAt_3b067_0 rfl 1 rfl ?_
    refine gw_aload_n hC dJ1_charAt_3b067_1 rfl 0 rfl ?_
    refine gw_vlen hC hi dJ1_charAt_3b067_2 ?_
    refine gw_callv (gx_rS hC (n := 2) (As := [.int (nI k), .int (nI (gx_sl.getD i 0))]) (rest := []) (fun sz => c_s_check (nI_pos (by omega)) (nI_lt hk h31) sz) kw_J1_9 (by rw [hR]; exact ⟨rfl, rfl, by decide, by decide⟩) rfl rfl (Nat.le_of_ble_eq_true rfl) dJ1_charAt_3b067_3) ?_
    intro m1 hm1
    rw [hm1]
    refine gw_aload_n hC dJ1_charAt_3b067_6 rfl 0 rfl ?_
    refine gw_iload_n hC dJ1_charAt_3b067_7 rfl 1 rfl ?_
    refine gw_vld hC hi hin dJ1_charAt_3b067_8 ?_
    refine gw_sipush (v := 255) hC dJ1_charAt_3b067_9 (by decide) ?_
    refine gw_iand hC dJ1_charAt_3b067_12 ?_
    have e := gx_sch_ok i hi (nI k).toNatClampNeg hlt
    refine gw_i2c (v := gx_sch i (nI k)) hC dJ1_charAt_3b067_13 e.1 ?_
    exact gw_zret hC hr e.2 dJ1_charAt_3b067_14 ⟨rfl, rfl⟩) rfl
theorem c_s_charAt (hi : i < 12) (hin : vp_in v (gx_sl.getD i 0)) : gx_Mi l d w yJ0_charAt_5068e cJ0_charAt_5068e 2 .char rm_s3 [.ref (d.1 i), .int v] M (fun r M1 => M1 = M ∧ r = gx_sch i v) := fun sz =>
  gx_ofF (own := RJ0) (by decide +kernel) rfl (Nat.le_of_ble_eq_true rfl) (fun z hC hl hR hsz hr => by
    subst hsz
    refine gw_aload_n hC dJ0_charAt_5068e_0 rfl 0 rfl ?_
    refine gw_calli (gx_rVs hC (n := 0) (As := []) (rest := []) hi (fun sz => c_s_latin hi sz) kw_J0_492 (by rw [hR]; exact ⟨rfl, rfl, by decide, by decide⟩) rfl rfl (Nat.le_of_ble_eq_true rfl) dJ0_charAt_5068e_1) ?_
    intro r1 m1 ⟨hm1, h⟩
    rw [hm1, h]
    refine gw_if_eq (tgt := 16) hC dJ0_charAt_5068e_4 (by decide) (fun hc => absurd hc (by decide)) (fun hc => ?_)
    refine gw_aload_n hC dJ0_charAt_5068e_7 rfl 0 rfl ?_
    refine gw_sget hC (gx_S hC hi).2.2.1 kf_J0_9 dJ0_charAt_5068e_8 ?_
    refine gw_iload_n hC dJ0_charAt_5068e_11 rfl 1 rfl ?_
    refine gw_calli (gx_rS hC (n := 2) (As := [.ref (d.2.1 i), .int v]) (rest := []) (fun sz => c_s_lchar hi hin sz) kw_J0_495 (by rw [hR]; exact ⟨rfl, rfl, by decide, by decide⟩) rfl rfl (Nat.le_of_ble_eq_true rfl) dJ0_charAt_5068e_12) ?_
    intro r2 m2 ⟨hm2, h2⟩
    rw [hm2, h2]
    exact gw_zret hC hr (gx_sch_ok i hi v.toNatClampNeg (vp_lt hin)).2 dJ0_charAt_5068e_15 ⟨rfl, rfl⟩) rfl
end CSTR
section GWSTR2
variable {z : gx_X} {d : gx_D} {w : gx_V} {cc : ByteArray} {nL : Nat} {Qc : gx_QT} {M : gx_M} {pc : Nat} {lv : List (Nat × Value)} {rest : List Value}
theorem gw_slen (hC : gx_C z d w cc nL RX6) {i : Nat} (hi : i < 12) (hcat : (rest.map fun v => v.category).sum ≤ 8) (hR : 2 ≤ (gx_R z).frames ∧ 60 ≤ (gx_R z).locals) (hdg : decode cc pc = .ok (.invokevirtual 99, 3)) (k : GW z w nL Qc M (pc + 3) lv (.int (gx_slen i) :: rest)) : GW z w nL Qc M pc lv (.ref (d.1 i) :: rest) := by
  refine gw_calli (gx_rVs hC (n := 0) (As := []) (rest := rest) hi (fun sz => c_s_length hi sz) kw_X6_99 ⟨rfl, rfl, hR.1, Nat.le_trans (by decide) hR.2⟩ rfl rfl hcat hdg) ?_
  intro r1 m1 ⟨hm1, h⟩
  rw [hm1, h]
  exact k
theorem gw_sch (hC : gx_C z d w cc nL RX6) {i : Nat} {v : Int32} (hi : i < 12) (hin : vp_in v (gx_sl.getD i 0)) (hcat : (rest.map fun v => v.category).sum ≤ 8) (hR : 5 ≤ (gx_R z).frames ∧ 140 ≤ (gx_R z).locals) (hdg : decode cc pc = .ok (.invokevirtual 103, 3)) (k : GW z w nL Qc M (pc + 3) lv (.int (gx_sch i v) :: rest)) : GW z w nL Qc M pc lv (.int v :: .ref (d.1 i) :: rest) := by
  refine gw_calli (gx_rVs hC (n := 1) (As := [.int v]) (rest := rest) hi (fun sz => c_s_charAt hi hin sz) kw_X6_103 ⟨rfl, rfl, Nat.le_trans (by decide) hR.1, Nat.le_trans (by decide) hR.2⟩ rfl rfl hcat hdg) ?_
  intro r1 m1 ⟨hm1, h⟩
  rw [hm1, h]
  exact k
end GWSTR2
