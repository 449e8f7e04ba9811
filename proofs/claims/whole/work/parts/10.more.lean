section GWM
variable {z : gx_X} {d : gx_D} {w : gx_V} {cc : ByteArray} {nL : Nat} {own : String} {Qc : gx_QT} {M : gx_M} {pc : Nat} {lv : List (Nat × Value)} {rest st : List Value}
theorem gw_rr {o o' : Nat} (h : o' = o) (k : GW z w nL Qc M pc lv (.ref (gx_ad w o') :: rest)) : GW z w nL Qc M pc lv (.ref (gx_ad w o) :: rest) := h ▸ k
theorem gx_nz {x : Int32} (h : x = 0 ∨ x = 1) : narrow .boolean (.int x) = .int x := by rcases h with rfl | rfl <;> rfl
theorem gx_nzf {x : Int32} (h : x = 0 ∨ x = 1) : fits .boolean (.int x) = true := by rcases h with rfl | rfl <;> rfl
theorem gk_be {o : Nat} (h : pk_Pr o) : pk_a3 (o + 6) := Or.inr (Or.inr (Or.inr ⟨by omega, by omega⟩))
theorem gk_ho {o : Nat} (h : pk_Pr o) : pk_a3 (o + 12) := Or.inr (Or.inr (Or.inr ⟨by omega, by omega⟩))
theorem gk_ph {o : Nat} (h : pk_Se o) : pk_a2 (o + 6) := by
  have ⟨h1, h2⟩ := h
  rcases (show o = 34 ∨ o = 35 by omega) with rfl | rfl
  · exact Or.inr (Or.inr (Or.inl rfl))
  · exact Or.inr (Or.inr (Or.inr rfl))
theorem gk_ou {i : Nat} (h : i < 2) : pk_a20 (13 + i) := by
  rcases (show i = 0 ∨ i = 1 by omega) with rfl | rfl
  · exact Or.inl rfl
  · exact Or.inr rfl
def gx_slen (i : Nat) : Int32 := nI (gx_sl.getD i 0)
def gx_sch (i : Nat) (k : Int32) : Int32 := (gx_sb.getD i []).getD k.toNatClampNeg 0
theorem gw_ldcs (hC : gx_C z d w cc nL RX6) {i : Nat} (hi : i < 12) (hdg : decode cc pc = .ok (.ldc (gx_sx.getD i (0, "")).1, 2)) (k : GW z w nL Qc M (pc + 2) lv (.ref (d.1 i) :: rest)) : GW z w nL Qc M pc lv rest := fun H locs ls hP hS hL =>
  va_ldcS hC.1.1 hC.1.2.1 hC.1.2.2.2.1 (hC.2.2.2.1.2.2.2.2.2.1 i hi) hdg (k H locs ls hP hS hL)
theorem gw_gains (hC : gx_C z d w cc nL own) {index : Nat} (hlink : Cond.fieldLink own index "GreenLine" "GAINS" "[I" ∈ gx_U) (hdg : decode cc pc = .ok (.getstatic index, 3)) (k : GW z w nL Qc M (pc + 3) lv (.ref d.2.2 :: rest)) : GW z w nL Qc M pc lv rest := fun H locs ls hP hS hL =>
  va_gets (C := "GreenLine") (n := "GAINS") (d := "[I") (ref := "GreenLine") hC.1.1 hC.1.2.1 hC.2.2.2.1.2.2.2.1 hS hC.1.2.2.2.1 (hC.1.2.2.2.2 _ hlink) (fun _ h => h) hdg (k H locs ls hP hS hL)
theorem gw_gld (hC : gx_C z d w cc nL own) {i : Int32} (hin : vp_in i 8) (hdg : decode cc pc = .ok (.iaload, 1)) (k : GW z w nL Qc M (pc + 1) lv (.int (gx_gains i.toNatClampNeg) :: rest)) : GW z w nL Qc M pc lv (.int i :: .ref d.2.2 :: rest) := fun H locs ls hP hS hL =>
  va_ti hC.1.1 hC.1.2.1 hC.2.2.2.1.2.2.2.2.1 hS hin rfl hdg (k H locs ls hP hS hL)
theorem gw_glen (hC : gx_C z d w cc nL own) (hdg : decode cc pc = .ok (.arraylength, 1)) (k : GW z w nL Qc M (pc + 1) lv (.int 8 :: rest)) : GW z w nL Qc M pc lv (.ref d.2.2 :: rest) := fun H locs ls hP hS hL =>
  va_tlen hC.1.1 hC.1.2.1 hC.2.2.2.1.2.2.2.2.1 hS (by decide) hdg (k H locs ls hP hS hL)
theorem gw_tabIn {tgt : Nat} {v : Int32} (hC : gx_C z d w cc nL own) {dflt lo hi : Int} {offs : Array Int} {len : Nat} {x : Int32} {off : Int} (hdg : decode cc pc = .ok (.tableswitch dflt lo hi offs, len)) (hx : x = v) (h1 : ¬ v.toInt < lo) (h2 : ¬ hi < v.toInt) (ho : offs[(v.toInt - lo).toNat]? = some off) (ht : (pc : Int) + off = (tgt : Int)) (k : GW z w nL Qc M tgt lv rest) : GW z w nL Qc M pc lv (.int x :: rest) := by
  subst hx
  exact gw_tableIn hC hdg h1 h2 ho ht k
theorem gx_out {x : Int32} {lo hi : Int} (n : Nat) (hn : hi < lo + n) (h1 : -2147483648 ≤ lo) (h2 : hi < 2147483648) (h : ∀ j : Nat, j < n → x ≠ Int32.ofInt (lo + j)) : x.toInt < lo ∨ hi < x.toInt := by
  rcases Int.lt_or_le x.toInt lo with a | a
  · exact Or.inl a
  rcases Int.lt_or_le hi x.toInt with b | b
  · exact Or.inr b
  refine absurd ?_ (h (x.toInt - lo).toNat (by omega))
  rw [show lo + ((x.toInt - lo).toNat : Int) = x.toInt by omega, Int32.ofInt_toInt]
theorem gw_tabOut {tgt : Nat} (n : Nat) (hC : gx_C z d w cc nL own) {dflt lo hi : Int} {offs : Array Int} {len : Nat} {x : Int32} (hdg : decode cc pc = .ok (.tableswitch dflt lo hi offs, len)) (hn : hi < lo + n ∧ -2147483648 ≤ lo ∧ hi < 2147483648) (hx : ∀ j : Nat, j < n → x ≠ Int32.ofInt (lo + j)) (ht : (pc : Int) + dflt = (tgt : Int)) (k : GW z w nL Qc M tgt lv rest) : GW z w nL Qc M pc lv (.int x :: rest) :=
  gw_tableOut hC hdg (gx_out n hn.1 hn.2.1 hn.2.2 hx) ht k
theorem gw_lookIn {tgt : Nat} {v : Int32} (hC : gx_C z d w cc nL own) {dflt : Int} {ps : Array (Int × Int)} {len : Nat} {x : Int32} {off : Int} (hdg : decode cc pc = .ok (.lookupswitch dflt ps, len)) (hx : x = v) (hp : (ps.toList.zip (ps.toList.drop 1)).all (fun (a, next) => a.1 < next.1) = true) (ho : Op.lookupswitch.offset ps.toList dflt v.toInt = off) (ht : (pc : Int) + off = (tgt : Int)) (k : GW z w nL Qc M tgt lv rest) : GW z w nL Qc M pc lv (.int x :: rest) := by
  subst hx
  exact gw_lookup hC hdg hp ho ht k
theorem gw_lookOut {tgt : Nat} (hC : gx_C z d w cc nL own) {dflt : Int} {ps : Array (Int × Int)} {len : Nat} {x : Int32} (hdg : decode cc pc = .ok (.lookupswitch dflt ps, len)) (hp : (ps.toList.zip (ps.toList.drop 1)).all (fun (a, next) => a.1 < next.1) = true) (hx : ∀ q ∈ ps.toList, x ≠ Int32.ofInt q.1) (ht : (pc : Int) + dflt = (tgt : Int)) (k : GW z w nL Qc M tgt lv rest) : GW z w nL Qc M pc lv (.int x :: rest) := by
  refine gw_lookup hC hdg hp (Op.lookupswitch.offset_none ?_) ht k
  rw [List.find?_eq_none]
  intro q hq e
  refine hx q hq ?_
  rw [beq_iff_eq] at e
  rw [e, Int32.ofInt_toInt]
theorem gw_slen (hC : gx_C z d w cc nL RX6) {i : Nat} (hi : i < 12) (hR : 2 ≤ (gx_R z).frames ∧ 60 ≤ (gx_R z).locals) (hdg : decode cc pc = .ok (.invokevirtual 99, 3)) (k : GW z w nL Qc M (pc + 3) lv (.int (gx_slen i) :: rest)) : GW z w nL Qc M pc lv (.ref (d.1 i) :: rest) := sorry
theorem gw_sch (hC : gx_C z d w cc nL RX6) {i : Nat} {v : Int32} (hi : i < 12) (hin : vp_in v (gx_sl.getD i 0)) (hR : 5 ≤ (gx_R z).frames ∧ 140 ≤ (gx_R z).locals) (hdg : decode cc pc = .ok (.invokevirtual 103, 3)) (k : GW z w nL Qc M (pc + 3) lv (.int (gx_sch i v) :: rest)) : GW z w nL Qc M pc lv (.int v :: .ref (d.1 i) :: rest) := sorry
end GWM
/-- the same for a method of a class that the machine knows -/
theorem gx_ofF {l : Launch} {d : gx_D} {w : gx_V} {y : MethodName} {b : ByteArray} {nL : Nat} {ret : Option FieldType} {rm : Room} {av : List Value} {M : gx_M} {own : String} {Qc : gx_QT} {sz : Nat} (hy : plainFor y = true) (ho : own = y.cls) (hlen : (lg_sl av).length ≤ nL)
    (body : ∀ x : gx_X, gx_C x d w b nL own → gx_l x = l → gx_R x = rm → (gx_s x).heap.size = sz → (gx_me x).sig.returnType = ret → GW x w nL Qc M 0 (lv_args 0 av) []) (hcells : rm = { rm with cells := 0, slots := 0 }) : Met l y (.code y b nL ret :: gx_U) rm (gx_Pc d w av M sz) Qc 0 0 (gx_A w sz) := by
  refine va_MetF (cc := b) (maxL := nL) (ret := ret) hy rfl ?_
  intro p e s m args below meth c s₁ B hml hv
  obtain ⟨rfl, hsz, hP, hK, hF, hI⟩ := hv
  have hts := atoms_spec (ws := .code y b nL ret :: gx_U) B.pre
  have hown : s.vm.findClass own = some m.cls := by rw [ho]; exact findClass_of_methodNamed B.named
  subst hsz
  rw [lg_entry_eq]
  exact body (p, l, e, rm, s, m, av.toArray, below, meth, c) ⟨⟨B.exec, B.bytes, hml, hown, fun w h => hts w (List.mem_cons_of_mem _ h)⟩, B.notSynchronized, hK, hF, hI⟩ rfl rfl rfl B.returns s.heap [] _ hP va_S.rf (lv_entry av hlen)
