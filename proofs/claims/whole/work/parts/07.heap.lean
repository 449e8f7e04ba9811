section GWH
variable {z : gx_X} {d : gx_D} {w : gx_V} {cc : ByteArray} {nL : Nat} {own : String} {Qc : gx_QT} {M : gx_M} {pc : Nat} {lv : List (Nat × Value)} {rest st : List Value}
theorem gw_lcmp (hC : gx_C z d w cc nL own) {x y : Int64} (hdg : decode cc pc = .ok (.lcmp, 1)) (k : GW z w nL Qc M (pc + 1) lv (.int (lg_cmp x y) :: rest)) : GW z w nL Qc M pc lv (.long y :: .long x :: rest) := fun H locs ls hP hS hL => W.lcmp hC.1.1 hC.1.2.1 hdg (k H locs ls hP hS hL)
theorem gw_nm {x : Int32} (k : ∀ y : Int32, y = x → GW z w nL Qc M pc lv (.int y :: rest)) : GW z w nL Qc M pc lv (.int x :: rest) := k x rfl
theorem gw_nml {x : Int64} (k : ∀ y : Int64, y = x → GW z w nL Qc M pc lv (.long y :: rest)) : GW z w nL Qc M pc lv (.long x :: rest) := k x rfl
theorem gw_nmM (k : ∀ M' : gx_M, M' = M → GW z w nL Qc M' pc lv st) : GW z w nL Qc M pc lv st := k M rfl
theorem gw_sub {lv' : List (Nat × Value)} (ks : List Nat) (hl : lv_pick lv ks = lv') (k : GW z w nL Qc M pc lv' st) : GW z w nL Qc M pc lv st := fun H locs ls hP hS hL => k H locs ls hP hS (lv_sub hL ks hl)
-- a class as the tables have it; a field of it as a class's code names it
def gx_cl (ci : Nat) (C : String) (T : u_T) (N : Nat) (ty : Nat → FieldType) : Prop := vwCl[ci]? = some (C, T, N) ∧ (∀ c ∈ u_ws C T N, c ∈ gx_U) ∧ (∀ k, k < N → parseFieldDescriptor (T k).2.2.1 = some (ty k)) ∧ ∀ a, a < N → ∀ b, b < N → a ≠ b → (T a).2.1 ≠ (T b).2.1
def gx_fl (own : String) (index : Nat) (T : u_T) (N k : Nat) : Prop := k < N ∧ Cond.fieldLink own index (T k).1 (T k).2.1 (T k).2.2.1 ∈ gx_U
def gx_fp (own : String) (index : Nat) (T : u_T) (N k : Nat) (ty : Nat → FieldType) (t : FieldType) : Prop := gx_fl own index T N k ∧ ty k = t ∧ (T k).2.2.2 = false
theorem gw_get (hC : gx_C z d w cc nL own) {ci N k index o : Nat} {C : String} {T : u_T} {ty : Nat → FieldType} {fs : List Value} {v : Value} (hcl : gx_cl ci C T N ty) (hf : gx_fl own index T N k) (ho : o < gx_N w) (he : gx_cf w o (M o) = .inr (ci, fs)) (hv : fs[k]? = some v) (hdg : decode cc pc = .ok (.getfield index, 3))
    (kk : GW z w nL Qc M (pc + 3) lv (v :: rest)) : GW z w nL Qc M pc lv (.ref (gx_ad w o) :: rest) := fun H locs ls hP hS hL =>
  va_get (cl := vwCl) (ref := (T k).1) hC.1.1 hC.1.2.1 hC.1.2.2.2.2 hcl.2.1 hC.1.2.2.2.1 hC.2.2.1 hP o (by rw [gx_at ho, he]) hcl.1 k hf.1 (hC.1.2.2.2.2 _ hf.2) (fun _ h => h) hv hdg (kk H locs ls hP hS hL)
theorem gw_put (hC : gx_C z d w cc nL own) {ci N k index o : Nat} {C : String} {T : u_T} {ty : Nat → FieldType} {t : FieldType} {fs : List Value} {v : Value} {x : Int32} (hcl : gx_cl ci C T N ty) (hf : gx_fp own index T N k ty t) (ho : o < gx_N w) (he : gx_cf w o (M o) = .inr (ci, fs)) (hs : gx_cf w o (upd (M o) k x) = .inr (ci, fs.set k v)) (hn : narrow t v = v) (hfit : fits t v = true) (hl : k < fs.length) (hdg : decode cc pc = .ok (.putfield index, 3))
    (kk : GW z w nL Qc (gx_up M o k x) (pc + 3) lv rest) : GW z w nL Qc M pc lv (v :: .ref (gx_ad w o) :: rest) := fun H locs ls hP hS hL =>
  va_put (cl := vwCl) (ref := (T k).1) hC.1.1 hC.1.2.1 hC.1.2.2.2.2 hcl.2.1 ty hcl.2.2.1 hcl.2.2.2 hC.1.2.2.2.1 hC.2.2.1 hP (gx_Dw hC.2.2.2.2 _) hS o (by rw [gx_at ho, he]) hcl.1 k hf.1.1 (hC.1.2.2.2.2 _ hf.1.2) (fun _ h => h) hf.2.2 (by rw [hcl.2.2.1 k hf.1.1, hf.2.1]) hn hfit hl hdg
    (fun H1 locs1 hP1 _ hS1 => kk H1 locs1 ls (by rw [← gx_set ho, hs]; exact hP1) hS1 hL)
theorem gw_iald (hC : gx_C z d w cc nL own) {o n t0 : Nat} {cA : ClassId} {f : Nat → Int32} (ho : o < gx_N w) (he : gx_cf w o (M o) = .inl (cA, n, .inl f)) (ht : (gx_tys w)[t0]? = some (cA, .int)) {i : Int32} (hin : vp_in i n) (hdg : decode cc pc = .ok (.iaload, 1))
    (kk : GW z w nL Qc M (pc + 1) lv (.int (f i.toNatClampNeg) :: rest)) : GW z w nL Qc M pc lv (.int i :: .ref (gx_ad w o) :: rest) := fun H locs ls hP hS hL =>
  va_iald (cl := vwCl) hC.1.1 hC.1.2.1 hC.2.2.1 hP o t0 (by rw [gx_at ho, he]) ht hin hdg (kk H locs ls hP hS hL)
theorem gw_bald (hC : gx_C z d w cc nL own) {o n t0 : Nat} {cA : ClassId} {f : Nat → Int32} (ho : o < gx_N w) (he : gx_cf w o (M o) = .inl (cA, n, .inl f)) (ht : (gx_tys w)[t0]? = some (cA, .byte)) {i : Int32} (hin : vp_in i n) (hdg : decode cc pc = .ok (.baload, 1))
    (kk : GW z w nL Qc M (pc + 1) lv (.int (f i.toNatClampNeg) :: rest)) : GW z w nL Qc M pc lv (.int i :: .ref (gx_ad w o) :: rest) := fun H locs ls hP hS hL =>
  va_bald (cl := vwCl) hC.1.1 hC.1.2.1 hC.2.2.1 hP o t0 (by rw [gx_at ho, he]) ht hin hdg (kk H locs ls hP hS hL)
theorem gw_zald (hC : gx_C z d w cc nL own) {o n t0 : Nat} {cA : ClassId} {f : Nat → Int32} (ho : o < gx_N w) (he : gx_cf w o (M o) = .inl (cA, n, .inl f)) (ht : (gx_tys w)[t0]? = some (cA, .boolean)) {i : Int32} (hin : vp_in i n) (hdg : decode cc pc = .ok (.baload, 1))
    (kk : GW z w nL Qc M (pc + 1) lv (.int (f i.toNatClampNeg) :: rest)) : GW z w nL Qc M pc lv (.int i :: .ref (gx_ad w o) :: rest) := fun H locs ls hP hS hL =>
  va_zald (cl := vwCl) hC.1.1 hC.1.2.1 hC.2.2.1 hP o t0 (by rw [gx_at ho, he]) ht hin hdg (kk H locs ls hP hS hL)
theorem gw_lald (hC : gx_C z d w cc nL own) {o n t0 : Nat} {cA : ClassId} {f : Nat → Int64} (ho : o < gx_N w) (he : gx_cf w o (M o) = .inl (cA, n, .inr (.inl f))) (ht : (gx_tys w)[t0]? = some (cA, .long)) {i : Int32} (hin : vp_in i n) (hdg : decode cc pc = .ok (.laload, 1))
    (kk : GW z w nL Qc M (pc + 1) lv (.long (f i.toNatClampNeg) :: rest)) : GW z w nL Qc M pc lv (.int i :: .ref (gx_ad w o) :: rest) := fun H locs ls hP hS hL =>
  va_lald (cl := vwCl) hC.1.1 hC.1.2.1 hC.2.2.1 hP o t0 (by rw [gx_at ho, he]) ht hin hdg (kk H locs ls hP hS hL)
theorem gw_iast (hC : gx_C z d w cc nL own) {o n t0 : Nat} {cA : ClassId} (ho : o < gx_N w) (he : ∀ r : Nat → Int32, gx_cf w o r = .inl (cA, n, .inl r)) (ht : (gx_tys w)[t0]? = some (cA, .int)) {i x : Int32} (hin : vp_in i n) (hdg : decode cc pc = .ok (.iastore, 1))
    (kk : GW z w nL Qc (gx_up M o i.toNatClampNeg x) (pc + 1) lv rest) : GW z w nL Qc M pc lv (.int x :: .int i :: .ref (gx_ad w o) :: rest) := fun H locs ls hP hS hL =>
  va_iast (cl := vwCl) hC.1.1 hC.1.2.1 hC.2.2.1 hP (gx_Dw hC.2.2.2.2 _) hS o t0 (by rw [gx_at ho, he]) ht hin hdg (fun H1 locs1 hP1 _ hS1 => kk H1 locs1 ls (by rw [← gx_set ho, he]; exact hP1) hS1 hL)
theorem gw_bast (hC : gx_C z d w cc nL own) {o n t0 : Nat} {cA : ClassId} (ho : o < gx_N w) (he : ∀ r : Nat → Int32, gx_cf w o r = .inl (cA, n, .inl r)) (ht : (gx_tys w)[t0]? = some (cA, .byte)) {i x : Int32} (hin : vp_in i n) (hdg : decode cc pc = .ok (.bastore, 1))
    (kk : GW z w nL Qc (gx_up M o i.toNatClampNeg (vp_nar .byte x)) (pc + 1) lv rest) : GW z w nL Qc M pc lv (.int x :: .int i :: .ref (gx_ad w o) :: rest) := fun H locs ls hP hS hL =>
  va_bast (cl := vwCl) hC.1.1 hC.1.2.1 hC.2.2.1 hP (gx_Dw hC.2.2.2.2 _) hS o t0 (by rw [gx_at ho, he]) ht hin hdg (fun H1 locs1 hP1 _ hS1 => kk H1 locs1 ls (by rw [← gx_set ho, he]; exact hP1) hS1 hL)
theorem gw_zast (hC : gx_C z d w cc nL own) {o n t0 : Nat} {cA : ClassId} (ho : o < gx_N w) (he : ∀ r : Nat → Int32, gx_cf w o r = .inl (cA, n, .inl r)) (ht : (gx_tys w)[t0]? = some (cA, .boolean)) {i x : Int32} (hin : vp_in i n) (hdg : decode cc pc = .ok (.bastore, 1))
    (kk : GW z w nL Qc (gx_up M o i.toNatClampNeg (vp_nar .boolean x)) (pc + 1) lv rest) : GW z w nL Qc M pc lv (.int x :: .int i :: .ref (gx_ad w o) :: rest) := fun H locs ls hP hS hL =>
  va_zast (cl := vwCl) hC.1.1 hC.1.2.1 hC.2.2.1 hP (gx_Dw hC.2.2.2.2 _) hS o t0 (by rw [gx_at ho, he]) ht hin hdg (fun H1 locs1 hP1 _ hS1 => kk H1 locs1 ls (by rw [← gx_set ho, he]; exact hP1) hS1 hL)
def gx_lg (lo hi : Int32) : Int64 := Int64.ofBitVec (hi.toBitVec ++ lo.toBitVec)
def gx_lo (v : Int64) : Int32 := Int32.ofBitVec (v.toBitVec.extractLsb' 0 32)
def gx_hi (v : Int64) : Int32 := Int32.ofBitVec (v.toBitVec.extractLsb' 32 32)
theorem gx_lg_eq (v : Int64) : gx_lg (gx_lo v) (gx_hi v) = v := by
  apply Int64.toBitVec_inj.mp
  show (v.toBitVec.extractLsb' 32 32 ++ v.toBitVec.extractLsb' 0 32) = v.toBitVec
  apply BitVec.eq_of_getLsbD_eq
  intro i hi
  rw [BitVec.getLsbD_append]
  by_cases h : i < 32
  · simp [h]
  · simp [h, show 32 + (i - 32) = i by omega, show i - 32 < 32 by omega]
def gx_rl (r : Nat → Int32) : Nat → Int64 := fun j => gx_lg (r (2 * j)) (r (2 * j + 1))
def gx_ul (M : gx_M) (o j : Nat) (v : Int64) : gx_M := gx_up (gx_up M o (2 * j) (gx_lo v)) o (2 * j + 1) (gx_hi v)
theorem gx_rl_up (r : Nat → Int32) (j : Nat) (v : Int64) : gx_rl (upd (upd r (2 * j) (gx_lo v)) (2 * j + 1) (gx_hi v)) = vp_updL (gx_rl r) j v := by
  funext k
  unfold gx_rl vp_updL upd
  by_cases h : k = j
  · subst h
    rw [if_neg (by omega), if_pos rfl, if_pos rfl, if_pos rfl, gx_lg_eq]
  · rw [if_neg (by omega), if_neg (by omega), if_neg (by omega), if_neg (by omega), if_neg h]
theorem gx_upup (M : gx_M) (o j k : Nat) (x y : Int32) : gx_up (gx_up M o j x) o k y = (fun q => if q = o then upd (upd (M o) j x) k y else M q) := by
  funext q
  unfold gx_up
  by_cases h : q = o
  · subst h
    simp
  · simp [h]
theorem gw_last (hC : gx_C z d w cc nL own) {o n t0 : Nat} {cA : ClassId} (ho : o < gx_N w) (he : ∀ r : Nat → Int32, gx_cf w o r = .inl (cA, n, .inr (.inl (gx_rl r)))) (ht : (gx_tys w)[t0]? = some (cA, .long)) {i : Int32} {x : Int64} (hin : vp_in i n) (hdg : decode cc pc = .ok (.lastore, 1))
    (kk : GW z w nL Qc (gx_ul M o i.toNatClampNeg x) (pc + 1) lv rest) : GW z w nL Qc M pc lv (.long x :: .int i :: .ref (gx_ad w o) :: rest) := fun H locs ls hP hS hL =>
  va_last (cl := vwCl) hC.1.1 hC.1.2.1 hC.2.2.1 hP (gx_Dw hC.2.2.2.2 _) hS o t0 (by rw [gx_at ho, he]) ht hin hdg (fun H1 locs1 hP1 _ hS1 => kk H1 locs1 ls (by unfold gx_ul; rw [gx_upup, ← gx_setr ho, he, gx_rl_up]; exact hP1) hS1 hL)
theorem gw_alen (hC : gx_C z d w cc nL own) {o t0 : Nat} {cA : ClassId} {x : vp_A} {ty : FieldType} {v : Int32} (ho : o < gx_N w) (he : gx_cf w o (M o) = .inl (cA, x)) (ht : (gx_tys w)[t0]? = some (cA, ty)) (hv : Int32.ofNat x.1 = v) (hdg : decode cc pc = .ok (.arraylength, 1))
    (kk : GW z w nL Qc M (pc + 1) lv (.int v :: rest)) : GW z w nL Qc M pc lv (.ref (gx_ad w o) :: rest) := fun H locs ls hP hS hL =>
  va_alen (cl := vwCl) hC.1.1 hC.1.2.1 hC.2.2.1 hP o t0 (by rw [gx_at ho, he]) ht hv hdg (kk H locs ls hP hS hL)
theorem gw_aald (hC : gx_C z d w cc nL own) {o n t0 : Nat} {cA : ClassId} {ty : FieldType} {f : Nat → Nat} (ho : o < gx_N w) (he : gx_cf w o (M o) = .inl (cA, n, .inr (.inr (.inr (.inr (fun j => some (gx_ad w (f j)))))))) (ht : (gx_tys w)[t0]? = some (cA, ty)) (hty : ty.isReference = true) {i : Int32} (hin : vp_in i n) (hdg : decode cc pc = .ok (.aaload, 1))
    (kk : GW z w nL Qc M (pc + 1) lv (.ref (gx_ad w (f i.toNatClampNeg)) :: rest)) : GW z w nL Qc M pc lv (.int i :: .ref (gx_ad w o) :: rest) := fun H locs ls hP hS hL => by
  have hlt : i.toNatClampNeg < n := Nat.not_le.mp fun q => hin (Or.inr q)
  have ha : (gx_w w M)[o]? = some (gx_ad w o, .inl (cA, n, .inr (.inr (.inr (.inr (fun j => some (gx_ad w (f j)))))))) := by rw [gx_at ho, he]
  exact W.aald (v := va_rf (some (gx_ad w (f i.toNatClampNeg)))) (ty := ty) hC.1.1 hC.1.2.1 (hP o _ ha) ((hC.2.2.1.2 t0 _ ht).1 n (fun j => va_rf (some (gx_ad w (f j))))) hty (fun q => by cases q) (by show ¬ (i < 0 ∨ (arrV _ _ _).slots.size ≤ _); rw [arrV_size]; exact hin) (by show (arrV _ _ _).slots[_]? = _; rw [arrV_read _ _ hlt]) rfl rfl hdg (kk H locs ls hP hS hL)
theorem gw_mmax (hC : gx_C z d w cc nL own) {index : Nat} (hlink : Cond.methodLink own index Lib.Math.max.name ∈ gx_U) (hstat : Cond.static Lib.Math.max.name ∈ gx_U) (hini : Cond.initialized "java/lang/Math" ∈ gx_U) (hcode : Cond.code Lib.Math.max.name Lib.Math.max.code 2 (some .int) ∈ gx_U) (hR : 1 ≤ (gx_R z).frames) (hlo : (rest.map fun v => v.category).sum + 13 ≤ (gx_R z).locals) {x y : Int32} (hdg : decode cc pc = .ok (.invokestatic index, 3))
    (kk : GW z w nL Qc M (pc + 3) lv (.int (if x < y then y else x) :: rest)) : GW z w nL Qc M pc lv (.int y :: .int x :: rest) := fun H locs ls hP hS hL =>
  va_mmax hC.1.1 hC.1.2.1 (hC.1.2.2.1.trans hL.1.symm) hC.1.2.2.2.1 (hC.1.2.2.2.2 _ hlink) (hC.1.2.2.2.2 _ hstat) (hC.1.2.2.2.2 _ hini) (hC.1.2.2.2.2 _ hcode) hR hlo (Nat.zero_le _) (Nat.zero_le _) hdg (kk H locs ls hP hS hL)
theorem gw_mmin (hC : gx_C z d w cc nL own) {index : Nat} (hlink : Cond.methodLink own index Lib.Math.min.name ∈ gx_U) (hstat : Cond.static Lib.Math.min.name ∈ gx_U) (hini : Cond.initialized "java/lang/Math" ∈ gx_U) (hcode : Cond.code Lib.Math.min.name Lib.Math.min.code 2 (some .int) ∈ gx_U) (hR : 1 ≤ (gx_R z).frames) (hlo : (rest.map fun v => v.category).sum + 13 ≤ (gx_R z).locals) {x y : Int32} (hdg : decode cc pc = .ok (.invokestatic index, 3))
    (kk : GW z w nL Qc M (pc + 3) lv (.int (if y < x then y else x) :: rest)) : GW z w nL Qc M pc lv (.int y :: .int x :: rest) := fun H locs ls hP hS hL =>
  va_mmin hC.1.1 hC.1.2.1 (hC.1.2.2.1.trans hL.1.symm) hC.1.2.2.2.1 (hC.1.2.2.2.2 _ hlink) (hC.1.2.2.2.2 _ hstat) (hC.1.2.2.2.2 _ hini) (hC.1.2.2.2.2 _ hcode) hR hlo (Nat.zero_le _) (Nat.zero_le _) hdg (kk H locs ls hP hS hL)
-- returns
theorem gx_Aeq {H : Heap} {locs : List Loc} (hS : va_S (gx_A w (gx_s z).heap.size) (gx_s z).heap H locs) : ∀ q ∈ locs, gx_A w (gx_s z).heap.size q.base := hS.2.2
theorem gw_iret (hC : gx_C z d w cc nL own) {Q : Int32 → gx_M → Prop} {v : Int32} (hr : (gx_me z).sig.returnType = some .int) (hdg : decode cc pc = .ok (.ireturn, 1)) (h : Q v M) : GW z w nL (gx_Qi w Q (gx_s z).heap.size) M pc lv [.int v] := fun H locs ls hP hS hL =>
  W.iret hC.1.1 hC.1.2.1 hr (fun t ht _ => ⟨⟨v, M, rfl, h, by show va_P _ _ _ t.heap; rw [ht]; exact hP⟩, hS.F ht⟩) hS.2.2 hdg hC.2.1
theorem gw_zret (hC : gx_C z d w cc nL own) {Q : Int32 → gx_M → Prop} {v : Int32} {ty : FieldType} (hr : (gx_me z).sig.returnType = some ty) (hn : narrow ty (.int v) = .int v) (hdg : decode cc pc = .ok (.ireturn, 1)) (h : Q v M) : GW z w nL (gx_Qi w Q (gx_s z).heap.size) M pc lv [.int v] := fun H locs ls hP hS hL =>
  W.zret hC.1.1 hC.1.2.1 hr hn (fun t ht _ => ⟨⟨v, M, rfl, h, by show va_P _ _ _ t.heap; rw [ht]; exact hP⟩, hS.F ht⟩) hS.2.2 hdg hC.2.1
theorem gw_lret (hC : gx_C z d w cc nL own) {Q : Int64 → gx_M → Prop} {v : Int64} (hr : (gx_me z).sig.returnType = some .long) (hdg : decode cc pc = .ok (.lreturn, 1)) (h : Q v M) : GW z w nL (gx_Ql w Q (gx_s z).heap.size) M pc lv [.long v] := fun H locs ls hP hS hL =>
  W.lret hC.1.1 hC.1.2.1 hr (fun t ht _ => ⟨⟨v, M, rfl, h, by show va_P _ _ _ t.heap; rw [ht]; exact hP⟩, hS.F ht⟩) hS.2.2 hdg hC.2.1
theorem gw_vret (hC : gx_C z d w cc nL own) {Q : gx_M → Prop} (hr : (gx_me z).sig.returnType = none) (hdg : decode cc pc = .ok (.return_, 1)) (h : Q M) : GW z w nL (gx_Qv w Q (gx_s z).heap.size) M pc lv [] := fun H locs ls hP hS hL =>
  W.vret hC.1.1 hC.1.2.1 hr (fun t ht _ => ⟨⟨M, rfl, h, by show va_P _ _ _ t.heap; rw [ht]; exact hP⟩, hS.F ht⟩) hS.2.2 hdg hC.2.1
theorem gw_aret (hC : gx_C z d w cc nL own) {Q : Nat → gx_M → Prop} {o : Nat} {n : String} (hr : (gx_me z).sig.returnType = some (.object n)) (hdg : decode cc pc = .ok (.areturn, 1)) (h : Q o M) : GW z w nL (gx_Qr w Q (gx_s z).heap.size) M pc lv [.ref (gx_ad w o)] := fun H locs ls hP hS hL =>
  W.aret hC.1.1 hC.1.2.1 hr (Or.inl ⟨n, rfl⟩) (Or.inr ⟨_, rfl⟩) (fun t ht _ => ⟨⟨(o, M), _, rfl, h, rfl, by show va_P _ _ _ t.heap; rw [ht]; exact hP⟩, hS.F ht⟩) hS.2.2 hdg hC.2.1
-- calls
theorem gx_pre (hC : gx_C z d w cc nL own) {av : List Value} {H : Heap} {locs : List Loc} (hP : va_P w.1 vwCl (gx_w w M) H) (hS : va_S (gx_A w (gx_s z).heap.size) (gx_s z).heap H locs) : ∀ U : State, U.heap = H → (gx_s z).WarmedH U.vm → gx_Pc d w av M H.size av.toArray U := fun U hU hW =>
  ⟨rfl, by rw [hU], by rw [hU]; exact hP, va_K.moved hW.alike hC.2.2.1, by rw [hU]; exact ((hC.2.2.2.1.warm hW).kept (fun a h1 h2 => hS.2.1 a h1 h2)).narrow (fun q hq => gx_Asub hS.1 hq), hC.2.2.2.2⟩
theorem gx_blind {av : List Value} {sz : Nat} : FrameBlind (gx_Pc d w av M sz) := fun a U g mk q => by
  obtain ⟨q1, q2, q3, q4, q5, q6⟩ := q
  exact ⟨q1, q2, q3, va_K.moved (u := U) (U := U.calling g mk a) (Vm.Alike.refl U.vm) q4, gx_F.same (u := U) (U := U.calling g mk a) rfl q5, q6⟩
def gx_rm (R rm : Room) (mL : Nat) : Prop := rm.cells = 0 ∧ rm.slots = 0 ∧ rm.frames + 1 ≤ R.frames ∧ 8 + (mL + 11) + rm.locals ≤ R.locals
/-- a call's words: by invokevirtual -/
def gx_cV (own : String) (idx : Nat) (C : String) (y : MethodName) (b : ByteArray) (mL n : Nat) (ret : Option FieldType) : Prop :=
  (Cond.methodLink own idx y ∈ gx_U ∧ Cond.instanceMethod y ∈ gx_U ∧ Cond.selects C y y ∈ gx_U ∧ Cond.initialized C ∈ gx_U ∧ Cond.code y b mL ret ∈ gx_U) ∧ y.cls = C ∧ y.cls ≠ "java/lang/invoke/MethodHandle" ∧ y.cls ≠ "java/lang/invoke/VarHandle" ∧ (parseMethodDescriptor y.desc).map (fun d => d.parameters.length) = some n
/-- by invokestatic -/
def gx_cS (own : String) (idx : Nat) (y : MethodName) (b : ByteArray) (mL n : Nat) (ret : Option FieldType) : Prop :=
  (Cond.methodLink own idx y ∈ gx_U ∧ Cond.static y ∈ gx_U ∧ Cond.initialized y.cls ∈ gx_U ∧ Cond.code y b mL ret ∈ gx_U) ∧ y.cls ≠ "java/lang/invoke/MethodHandle" ∧ y.cls ≠ "java/lang/invoke/VarHandle" ∧ (parseMethodDescriptor y.desc).map (fun d => d.parameters.length) = some n
/-- by invokestatic, of a nest mate's private method -/
def gx_cN (own : String) (idx : Nat) (host : String) (y : MethodName) (b : ByteArray) (mL n : Nat) (ret : Option FieldType) : Prop :=
  ((own, idx, y, host) ∈ gx_nest ∧ Cond.static y ∈ gx_U ∧ Cond.initialized y.cls ∈ gx_U ∧ Cond.code y b mL ret ∈ gx_U) ∧ y.cls ≠ "java/lang/invoke/MethodHandle" ∧ y.cls ≠ "java/lang/invoke/VarHandle" ∧ (parseMethodDescriptor y.desc).map (fun d => d.parameters.length) = some n
theorem gx_gd {c : Cond} (h : c ∈ gx_U) : c ∈ gx_U ∧ ((c.onTables && c.keeps) = true ∨ ∃ ty, c = .arrayClass ty) := ⟨h, gx_good h⟩
theorem gx_gV {idx n mL : Nat} {C : String} {y : MethodName} {b : ByteArray} {ret : Option FieldType} (h : gx_cV own idx C y b mL n ret) : GoodIn gx_U (wsV own idx C y (.code y b mL ret :: gx_U)) := by
  obtain ⟨⟨h1, h2, h3, h4, h5⟩, -⟩ := h
  intro c hc
  unfold wsV at hc
  simp only [List.cons_append, List.nil_append, List.mem_cons] at hc
  rcases hc with rfl | rfl | rfl | rfl | rfl | hc
  · exact gx_gd h1
  · exact gx_gd h2
  · exact gx_gd h3
  · exact gx_gd h4
  · exact gx_gd h5
  · exact gx_gd hc
theorem gx_gS {idx n mL : Nat} {y : MethodName} {b : ByteArray} {ret : Option FieldType} (h : gx_cS own idx y b mL n ret) : GoodIn gx_U (va_wsS own idx y (.code y b mL ret :: gx_U)) := by
  obtain ⟨⟨h1, h2, h3, h5⟩, -⟩ := h
  intro c hc
  unfold va_wsS at hc
  simp only [List.cons_append, List.nil_append, List.mem_cons] at hc
  rcases hc with rfl | rfl | rfl | rfl | hc
  · exact gx_gd h1
  · exact gx_gd h2
  · exact gx_gd h3
  · exact gx_gd h5
  · exact gx_gd hc
theorem gx_gN {idx n mL : Nat} {host : String} {y : MethodName} {b : ByteArray} {ret : Option FieldType} (h : gx_cN own idx host y b mL n ret) : GoodIn gx_U (.code y b mL ret :: gx_U) := by
  intro c hc
  simp only [List.mem_cons] at hc
  rcases hc with rfl | hc
  · exact gx_gd h.1.2.2.2
  · exact gx_gd hc
/-- a receiver: an object of class C -/
def gx_rc (w : gx_V) (M : gx_M) (o : Nat) (C : String) : Prop := o < gx_N w ∧ ∃ (ci : Nat) (fs : List Value) (T : u_T) (N : Nat), gx_cf w o (M o) = .inr (ci, fs) ∧ vwCl[ci]? = some (C, T, N)
theorem gx_recv (hC : gx_C z d w cc nL own) {o : Nat} {C : String} {H : Heap} (h : gx_rc w M o C) (hP : va_P w.1 vwCl (gx_w w M) H) : ∃ cell : Cell, H[gx_ad w o]? = some cell ∧ cell.vm.isStatics = false ∧ (gx_s z).vm.findClass C = some cell.cls := by
  obtain ⟨ho, ci, fs, T, N, h1, h2⟩ := h
  exact va_recv (cl := vwCl) hC.2.2.1 hP h2 (q0 := o) (by rw [gx_at ho, h1])
theorem gx_runV (hC : gx_C z d w cc nL own) {idx n mL o : Nat} {C : String} {y : MethodName} {b : ByteArray} {ret : Option FieldType} {rm : Room} {As : List Value} {Qq : gx_QT} {H : Heap} {locs : List Loc} {ls : Array Slot} (hP : va_P w.1 vwCl (gx_w w M) H) (hS : va_S (gx_A w (gx_s z).heap.size) (gx_s z).heap H locs) (hL : lv_has ls nL lv)
    (hM : Met (gx_l z) y (.code y b mL ret :: gx_U) rm (gx_Pc d w (.ref (gx_ad w o) :: As) M H.size) Qq 0 0 (gx_A w H.size)) (hcv : gx_cV own idx C y b mL n ret) (hrm : gx_rm (gx_R z) rm mL) (hrc : gx_rc w M o C) (hn : As.length = n) (hst : st = As.reverse ++ .ref (gx_ad w o) :: rest) (hcat : (rest.map fun v => v.category).sum ≤ 8) (hdg : decode cc pc = .ok (.invokevirtual idx, 3)) :
    va_Run z.1 (gx_l z) z.2.2.1 (gx_R z) (gx_s z) (gx_m z) (gx_a z) z.2.2.2.2.2.2.2.1 (gx_me z) (gx_c z) H locs 0 0 0 0 (F0 (gx_m z) pc ls st) rest (Qq (Value.ref (gx_ad w o) :: As).toArray) (gx_A w H.size) :=
  va_runV (own := own) (C := C) (bytes := b) (maxL := mL) (ret := ret) hC.1 hM (cwV n hC.1.2.2.2.2 (gx_gV hcv) rfl hrm.1 hrm.2.1 ⟨hcv.2.1, hcv.2.2.1, hcv.2.2.2.1, hcv.2.2.2.2⟩ hrm.2.2) ⟨gx_blind, gx_recv hC hrc hP, gx_pre hC hP hS⟩ rfl hn hL.1 hst (lv_room hcat) hdg ⟨Nat.zero_le _, Nat.zero_le _⟩
theorem gx_runS (hC : gx_C z d w cc nL own) {idx n mL : Nat} {y : MethodName} {b : ByteArray} {ret : Option FieldType} {rm : Room} {As : List Value} {Qq : gx_QT} {H : Heap} {locs : List Loc} {ls : Array Slot} (hP : va_P w.1 vwCl (gx_w w M) H) (hS : va_S (gx_A w (gx_s z).heap.size) (gx_s z).heap H locs) (hL : lv_has ls nL lv)
    (hM : Met (gx_l z) y (.code y b mL ret :: gx_U) rm (gx_Pc d w As M H.size) Qq 0 0 (gx_A w H.size)) (hcv : gx_cS own idx y b mL n ret) (hrm : gx_rm (gx_R z) rm mL) (hn : As.length = n) (hst : st = As.reverse ++ rest) (hcat : (rest.map fun v => v.category).sum ≤ 8) (hdg : decode cc pc = .ok (.invokestatic idx, 3)) :
    va_Run z.1 (gx_l z) z.2.2.1 (gx_R z) (gx_s z) (gx_m z) (gx_a z) z.2.2.2.2.2.2.2.1 (gx_me z) (gx_c z) H locs 0 0 0 0 (F0 (gx_m z) pc ls st) rest (Qq As.toArray) (gx_A w H.size) :=
  va_runS (own := own) (bytes := b) (maxL := mL) (ret := ret) hC.1 hM (va_cwS n hC.1.2.2.2.2 (gx_gS hcv) rfl hrm.1 hrm.2.1 hcv.2 hrm.2.2) ⟨gx_blind, gx_pre hC hP hS⟩ rfl hn hL.1 hst (lv_room hcat) hdg ⟨Nat.zero_le _, Nat.zero_le _⟩
theorem gx_runN (hC : gx_C z d w cc nL own) {idx n mL : Nat} {host : String} {y : MethodName} {b : ByteArray} {ret : Option FieldType} {rm : Room} {As : List Value} {Qq : gx_QT} {H : Heap} {locs : List Loc} {ls : Array Slot} (hP : va_P w.1 vwCl (gx_w w M) H) (hS : va_S (gx_A w (gx_s z).heap.size) (gx_s z).heap H locs) (hL : lv_has ls nL lv)
    (hM : Met (gx_l z) y (.code y b mL ret :: gx_U) rm (gx_Pc d w As M H.size) Qq 0 0 (gx_A w H.size)) (hcv : gx_cN own idx host y b mL n ret) (hrm : gx_rm (gx_R z) rm mL) (hn : As.length = n) (hst : st = As.reverse ++ rest) (hcat : (rest.map fun v => v.category).sum ≤ 8) (hdg : decode cc pc = .ok (.invokestatic idx, 3)) :
    va_Run z.1 (gx_l z) z.2.2.1 (gx_R z) (gx_s z) (gx_m z) (gx_a z) z.2.2.2.2.2.2.2.1 (gx_me z) (gx_c z) H locs 0 0 0 0 (F0 (gx_m z) pc ls st) rest (Qq As.toArray) (gx_A w H.size) :=
  va_runSN (own := own) (host := host) (bytes := b) (maxL := mL) (ret := ret) hC.1 hM ⟨va_cnB n hC.1.2.2.2.2 (gx_gN hcv) rfl hrm.1 hrm.2.1 (hC.2.2.2.1.1 (own, idx, y, host) hcv.1.1) (hC.1.2.2.2.2 _ hcv.1.2.2.1) hcv.2 hrm.2.2, hC.1.2.2.2.2 _ hcv.1.2.1, trivial⟩ ⟨gx_blind, gx_pre hC hP hS⟩ rfl hn hL.1 hst (lv_room hcat) hdg ⟨Nat.zero_le _, Nat.zero_le _⟩
/-- a run of a call is at hand over any heap and locals of the world -/
def gx_Rn (z : gx_X) (w : gx_V) (nL : Nat) (M : gx_M) (pc : Nat) (lv : List (Nat × Value)) (st rest : List Value) (Qq : Nat → gx_QT) : Prop := ∀ (H : Heap) (locs : List Loc) (ls : Array Slot), va_P w.1 vwCl (gx_w w M) H → va_S (gx_A w (gx_s z).heap.size) (gx_s z).heap H locs → lv_has ls nL lv → ∃ a, va_Run z.1 (gx_l z) z.2.2.1 (gx_R z) (gx_s z) (gx_m z) (gx_a z) z.2.2.2.2.2.2.2.1 (gx_me z) (gx_c z) H locs 0 0 0 0 (F0 (gx_m z) pc ls st) rest (Qq H.size a) (gx_A w H.size)
theorem gx_Asz {H : Heap} {locs : List Loc} (hS : va_S (gx_A w (gx_s z).heap.size) (gx_s z).heap H locs) : ∀ q, gx_A w H.size q → gx_A w (gx_s z).heap.size q := fun q hq => gx_Asub hS.1 hq
theorem gw_calli {Q : Int32 → gx_M → Prop} (hr : gx_Rn z w nL M pc lv st rest (fun n => gx_Qi w Q n)) (k : ∀ r M', Q r M' → GW z w nL Qc M' (pc + 3) lv (.int r :: rest)) : GW z w nL Qc M pc lv st := fun H locs ls hP hS hL => by
  obtain ⟨a, ha⟩ := hr H locs ls hP hS hL
  exact va_calli ha hS (fun q _ hq => gx_Asz hS q hq) (gx_Asz hS) (fun r u t H1 locs1 ht _ hw hB _ _ hS1 => k r u hw H1 locs1 ls (by rw [← ht]; exact hB) hS1 hL)
theorem gw_calll {Q : Int64 → gx_M → Prop} (hr : gx_Rn z w nL M pc lv st rest (fun n => gx_Ql w Q n)) (k : ∀ r M', Q r M' → GW z w nL Qc M' (pc + 3) lv (.long r :: rest)) : GW z w nL Qc M pc lv st := fun H locs ls hP hS hL => by
  obtain ⟨a, ha⟩ := hr H locs ls hP hS hL
  exact va_calll ha hS (fun q _ hq => gx_Asz hS q hq) (gx_Asz hS) (fun r u t H1 locs1 ht _ hw hB _ _ hS1 => k r u hw H1 locs1 ls (by rw [← ht]; exact hB) hS1 hL)
theorem gw_callv {Q : gx_M → Prop} (hr : gx_Rn z w nL M pc lv st rest (fun n => gx_Qv w Q n)) (k : ∀ M', Q M' → GW z w nL Qc M' (pc + 3) lv rest) : GW z w nL Qc M pc lv st := fun H locs ls hP hS hL => by
  obtain ⟨a, ha⟩ := hr H locs ls hP hS hL
  exact va_callv ha hS (fun q _ hq => gx_Asz hS q hq) (gx_Asz hS) (fun u t H1 locs1 ht _ hw hB _ _ hS1 => k u hw H1 locs1 ls (by rw [← ht]; exact hB) hS1 hL)
theorem gw_callr {Q : Nat → gx_M → Prop} (hr : gx_Rn z w nL M pc lv st rest (fun n => gx_Qr w Q n)) (k : ∀ o M', Q o M' → GW z w nL Qc M' (pc + 3) lv (.ref (gx_ad w o) :: rest)) : GW z w nL Qc M pc lv st := fun H locs ls hP hS hL => by
  obtain ⟨a, ha⟩ := hr H locs ls hP hS hL
  exact va_callr ha hS (fun q _ hq => gx_Asz hS q hq) (gx_Asz hS) (fun u ra t H1 locs1 ht _ hw hB _ _ hS1 => by rw [hB.1]; exact k u.1 u.2 hw H1 locs1 ls (by rw [← ht]; exact hB.2) hS1 hL)
theorem gx_rV (hC : gx_C z d w cc nL own) {idx n mL o : Nat} {C : String} {y : MethodName} {b : ByteArray} {ret : Option FieldType} {rm : Room} {As : List Value} {Qq : Nat → gx_QT} (hM : ∀ sz, Met (gx_l z) y (.code y b mL ret :: gx_U) rm (gx_Pc d w (.ref (gx_ad w o) :: As) M sz) (Qq sz) 0 0 (gx_A w sz)) (hcv : gx_cV own idx C y b mL n ret) (hrm : gx_rm (gx_R z) rm mL) (hrc : gx_rc w M o C) (hn : As.length = n) (hst : st = As.reverse ++ .ref (gx_ad w o) :: rest) (hcat : (rest.map fun v => v.category).sum ≤ 8) (hdg : decode cc pc = .ok (.invokevirtual idx, 3)) : gx_Rn z w nL M pc lv st rest Qq :=
  fun H locs ls hP hS hL => ⟨_, gx_runV hC hP hS hL (hM H.size) hcv hrm hrc hn hst hcat hdg⟩
theorem gx_rS (hC : gx_C z d w cc nL own) {idx n mL : Nat} {y : MethodName} {b : ByteArray} {ret : Option FieldType} {rm : Room} {As : List Value} {Qq : Nat → gx_QT} (hM : ∀ sz, Met (gx_l z) y (.code y b mL ret :: gx_U) rm (gx_Pc d w As M sz) (Qq sz) 0 0 (gx_A w sz)) (hcv : gx_cS own idx y b mL n ret) (hrm : gx_rm (gx_R z) rm mL) (hn : As.length = n) (hst : st = As.reverse ++ rest) (hcat : (rest.map fun v => v.category).sum ≤ 8) (hdg : decode cc pc = .ok (.invokestatic idx, 3)) : gx_Rn z w nL M pc lv st rest Qq :=
  fun H locs ls hP hS hL => ⟨_, gx_runS hC hP hS hL (hM H.size) hcv hrm hn hst hcat hdg⟩
theorem gx_rN (hC : gx_C z d w cc nL own) {idx n mL : Nat} {host : String} {y : MethodName} {b : ByteArray} {ret : Option FieldType} {rm : Room} {As : List Value} {Qq : Nat → gx_QT} (hM : ∀ sz, Met (gx_l z) y (.code y b mL ret :: gx_U) rm (gx_Pc d w As M sz) (Qq sz) 0 0 (gx_A w sz)) (hcv : gx_cN own idx host y b mL n ret) (hrm : gx_rm (gx_R z) rm mL) (hn : As.length = n) (hst : st = As.reverse ++ rest) (hcat : (rest.map fun v => v.category).sum ≤ 8) (hdg : decode cc pc = .ok (.invokestatic idx, 3)) : gx_Rn z w nL M pc lv st rest Qq :=
  fun H locs ls hP hS hL => ⟨_, gx_runN hC hP hS hL (hM H.size) hcv hrm hn hst hcat hdg⟩
end GWH
theorem gx_t {c A B : Prop} {hd : Decidable c} (h : if c then A else B) (hc : c) : A := by rwa [if_pos hc] at h
theorem gx_f {c A B : Prop} {hd : Decidable c} (h : if c then A else B) (hc : ¬ c) : B := by rwa [if_neg hc] at h
