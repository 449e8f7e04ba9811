/-- an array class over arrays: what the word says -/
theorem cx_spec {A : Array Value} {s : State} {ty : FieldType} (h : (Cond.arrayOver (.array ty)).before A s = true) : ∃ (comp c : ClassId) (k : Class), s.vm.findClass (FieldType.array ty).toString = some comp ∧ (s.vm.classes.findIdx? fun x => match x.kind with | .array component _ => component == comp | _ => false) = some c ∧ s.vm.classes[c]? = some k ∧ k.kind = .array comp (.array ty) ∧ s.vm.findClass ("[" ++ (FieldType.array ty).toString) = some c := by
  unfold Cond.before at h
  simp only [Cond.holds, Cond.value, beq_iff_eq] at h
  cases h0 : s.vm.findClass (FieldType.array ty).toString with
  | none => simp [h0] at h
  | some comp =>
    simp only [h0, Option.bind_some, Option.bind_eq_some_iff, Option.map_eq_some_iff] at h
    obtain ⟨c, hi, k, hk, hb⟩ := h
    obtain ⟨hlt, hp, -⟩ := Array.findIdx?_eq_some_iff_getElem.mp hi
    rw [(Array.getElem?_eq_some_iff.mp hk).2] at hp
    refine ⟨comp, c, k, rfl, hi, hk, ?_, ?_⟩
    · cases hkind : k.kind <;> simp_all
    · cases hkind : k.kind <;> simp_all
theorem cx_aoa {ty : FieldType} {A : Array Value} {u U : State} (hvm : u.vm.Alike U.vm) (h : (Cond.arrayOver (.array ty)).before A u = true) : (Cond.arrayOver (.array ty)).before A U = true := by
  obtain ⟨comp, c, k, h1, h2, h3, h4, h5⟩ := cx_spec h
  obtain ⟨k', hk', he⟩ := hvm.2.2 _ _ h3
  have hi : (U.vm.classes.findIdx? fun (x : Class) => match x.kind with | .array component _ => component == comp | _ => false) = some c := by
    have e1 := va_idx_bare U.vm comp
    have e2 := va_idx_bare u.vm comp
    have e3 : u.vm.bare = U.vm.bare := by first | exact hvm.bare_eq | exact hvm.bare_eq.symm
    rw [← e3] at e1
    exact e1.symm.trans (e2.trans h2)
  have hkind : k'.kind = .array comp (.array ty) := by rw [he]; exact h4
  have f1 : U.vm.findClass (FieldType.array ty).toString = some comp := by rw [hvm.findClass]; exact h1
  have f2 : U.vm.findClass ("[" ++ (FieldType.array ty).toString) = some c := by rw [hvm.findClass]; exact h5
  unfold Cond.before Cond.holds
  simp only [Cond.value]
  rw [f1, Option.bind_some]
  refine (congrArg (fun o : Option Nat => (o.bind (fun c => (U.vm.classes[c]?).map fun (k : Class) => match k.kind with | .array _ t => decide (t = FieldType.array ty) && decide (U.vm.findClass ("[" ++ (FieldType.array ty).toString) = some c) | _ => false) == some true)) hi).trans ?_
  simp [hk', hkind, f2]
/-! CONSTRUCTORS: worlds that grow. CW: any heap that holds the cells ws (one's own first), cells k1 and slots k2 made so far, of mc and ms in all. -/
def gx_nestI : List (String × Nat × MethodName × String) := [("GreenLine$Signal", 21, yX3_init, "GreenLine"), ("GreenLine$Beam", 24, yX4_init, "GreenLine"), ("GreenLine$Beam", 31, yX0_init, "GreenLine"), ("GreenLine", 29, yX5_init, "GreenLine"), ("GreenLine$Reader", 11, yX6_init, "GreenLine"), ("GreenLine$Reader", 68, yX4_init, "GreenLine"), ("GreenLine", 49, yX7_init, "GreenLine"), ("GreenLine", 56, yX3_init, "GreenLine")]
def gx_ao : List FieldType := [.object "GreenLine$Signal", .object "GreenLine$Channel", .object "GreenLine$Part", .object "GreenLine$Program", .array .int]
/-- what a constructor takes of the machine: classes, array classes, nest mates' links -/
def gx_I (ca : Nat → ClassId) (w : gx_V) (U : State) : Prop := va_K w.1 vwCl (gx_ty ca) U ∧ (∀ q ∈ gx_nestI, va_Nw (.methodLinkNest q.1 q.2.1 q.2.2.1 q.2.2.2) U) ∧ ∀ ty ∈ gx_ao, (Cond.arrayOver ty).before #[] U = true
def CC (z : gx_X) (ca : Nat → ClassId) (w : gx_V) (cc : ByteArray) (nL : Nat) (own : String) : Prop :=
  CallFix z.1 (gx_m z) (gx_c z) cc nL (gx_s z) (gx_a z) gx_U own ∧ (gx_me z).locks = false ∧ gx_I ca w (gx_s z) ∧ (gx_me z).name = "<init>"
abbrev cw_A (z : gx_X) (h0 : Nat) : Nat → Prop := fun q => q = h0 ∨ (gx_s z).heap.size ≤ q
def CW (z : gx_X) (w : gx_V) (nL h0 mc ms : Nat) (Qc : gx_QT) (ws : va_W) (k1 k2 pc : Nat) (lv : List (Nat × Value)) (st : List Value) : Prop :=
  ∀ (H : Heap) (locs : List Loc) (ls : Array Slot), va_P w.1 vwCl ws H → va_D (cw_A z h0) ws → va_S (cw_A z h0) (gx_s z).heap H locs → lv_has ls nL lv →
    W z.1 (gx_l z) z.2.2.1 (gx_R z) (gx_s z) (gx_m z) (gx_a z) z.2.2.2.2.2.2.2.1 (gx_me z) (gx_c z) H locs k1 k2 (MQ z.2.2.2.2.2.2.2.1 Qc (gx_a z) (gx_s z) mc ms (cw_A z h0)) (F0 (gx_m z) pc ls st)
def ci_Pc (ca : Nat → ClassId) (w : gx_V) (h0 : Nat) (ex : List Value) (e0 : va_E) (sz : Nat) : Array Value → State → Prop := va_Pc (.ref h0 :: ex) (fun U => U.heap.size = sz ∧ va_P w.1 vwCl [(h0, e0)] U.heap ∧ gx_I ca w U)
def ci_Q (w : gx_V) (h0 : Nat) (PW : (Nat → Nat) → va_W) (sz : Nat) : gx_QT := va_Qv (S := Nat → Nat) (fun ad => ad 0 = h0) (fun ad t => va_P w.1 vwCl (PW ad) t.heap ∧ va_D (fun q => q = h0 ∨ sz ≤ q) (PW ad)) (fun q => q = h0 ∨ sz ≤ q)
/-- a constructor's contract: from an object with its first values e0 at h0 to the world PW, mc cells of ms slots the more -/
def ct (l : Launch) (ca : Nat → ClassId) (w : gx_V) (y : MethodName) (b : ByteArray) (nL : Nat) (rm : Room) (ex : List Value) (e0 : va_E) (mc ms : Nat) (PW : (Nat → Nat) → va_W) : Prop :=
  ∀ h0 sz : Nat, Met l y (.code y b nL none :: gx_U) rm (ci_Pc ca w h0 ex e0 sz) (ci_Q w h0 PW sz) mc ms (fun q => q = h0 ∨ sz ≤ q)
theorem gx_I.warm {ca : Nat → ClassId} {w : gx_V} {s U : State} (hW : s.WarmedH U.vm) (h : gx_I ca w s) : gx_I ca w U :=
  ⟨va_K.moved hW.alike h.1, fun q hq => va_Nw.warmM hW (h.2.1 q hq), fun ty hty => by
    have h1 := h.2.2 ty hty
    unfold gx_ao at hty
    simp only [List.mem_cons, List.not_mem_nil, or_false] at hty
    rcases hty with rfl | rfl | rfl | rfl | rfl
    · exact va_AO.moved hW.alike h1
    · exact va_AO.moved hW.alike h1
    · exact va_AO.moved hW.alike h1
    · exact va_AO.moved hW.alike h1
    · exact cx_aoa hW.alike h1⟩
theorem gx_I.same {ca : Nat → ClassId} {w : gx_V} {u U : State} (hv : U.vm = u.vm) (h : gx_I ca w u) : gx_I ca w U :=
  ⟨va_K.moved (by rw [hv]; exact Vm.Alike.refl u.vm) h.1, fun q hq => va_Nw.same rfl hv.symm (h.2.1 q hq), fun ty hty => by
    have h1 := h.2.2 ty hty
    have ha : u.vm.Alike U.vm := by rw [hv]; exact Vm.Alike.refl u.vm
    unfold gx_ao at hty
    simp only [List.mem_cons, List.not_mem_nil, or_false] at hty
    rcases hty with rfl | rfl | rfl | rfl | rfl
    · exact va_AO.moved ha h1
    · exact va_AO.moved ha h1
    · exact va_AO.moved ha h1
    · exact va_AO.moved ha h1
    · exact cx_aoa ha h1⟩
theorem ct_of {l : Launch} {ca : Nat → ClassId} {w : gx_V} {y : MethodName} {b : ByteArray} {nL : Nat} {rm : Room} {ex : List Value} {e0 : va_E} {mc ms : Nat} {PW : (Nat → Nat) → va_W} {own : String} (hy : plainName y.cls = true) (ho : own = y.cls) (hn : y.name = "<init>") (hlen : (lg_sl (.ref 0 :: ex)).length ≤ nL) (hlen2 : ∀ h0, (lg_sl (.ref h0 :: ex)).length = (lg_sl (.ref 0 :: ex)).length)
    (body : ∀ (z : gx_X) (h0 : Nat), CC z ca w b nL own → gx_l z = l → gx_R z = rm → (gx_me z).sig.returnType = none → CW z w nL h0 mc ms (ci_Q w h0 PW (gx_s z).heap.size) [(h0, e0)] 0 0 0 (lv_args 0 (.ref h0 :: ex)) []) : ct l ca w y b nL rm ex e0 mc ms PW := by
  intro h0 sz
  refine Met.ofW (cc := b) (maxL := nL) (ret := none) hy rfl ?_
  intro p e s m args below meth c s₁ B hml hv
  obtain ⟨rfl, hsz, hP, hI⟩ := hv
  have hts := atoms_spec (ws := .code y b nL none :: gx_U) B.pre
  have hown : s.vm.findClass own = some m.cls := by rw [ho]; exact findClass_of_methodNamed B.named
  subst hsz
  rw [lg_entry_eq]
  have hD : va_D (fun q => q = h0 ∨ s.heap.size ≤ q) [(h0, e0)] := by
    refine ⟨fun i j p q hp hq _ => ?_, fun k q hk => ?_⟩
    · have h1 := (List.getElem?_eq_some_iff.mp hp).1
      have h2 := (List.getElem?_eq_some_iff.mp hq).1
      simp at h1 h2
      omega
    · have h1 := (List.getElem?_eq_some_iff.mp hk).1
      simp at h1
      subst h1
      cases hk
      exact Or.inl rfl
  exact body (p, l, e, rm, s, m, (.ref h0 :: ex).toArray, below, meth, c) h0 ⟨⟨B.exec, B.bytes, hml, hown, fun w h => hts w (List.mem_cons_of_mem _ h)⟩, B.notSynchronized, hI, (name_of_methodNamed B.named B.method).1.trans hn⟩ rfl rfl B.returns s.heap [] _ hP hD va_S.rf (lv_entry (.ref h0 :: ex) (by rw [hlen2]; exact hlen))
/-- behind a call on the world's last cell: the others, and the callee's world -/
theorem cx_join {A0 : Nat → Prop} {D : va_G} {wr w1 : va_W} {q : Nat} {e0 : va_E} {H H1 : Heap} (hP : va_P D vwCl (wr ++ [(q, e0)]) H) (hD : va_D A0 (wr ++ [(q, e0)])) (hk : ∀ p : Nat, p < H.size → ¬ (p = q ∨ H.size ≤ p) → H1[p]? = H[p]?) (hF : ∀ p, (p = q ∨ H.size ≤ p) → A0 p) (hP1 : va_P D vwCl w1 H1) (hD1 : va_D (fun p => p = q ∨ H.size ≤ p) w1) : va_P D vwCl (wr ++ w1) H1 ∧ va_D A0 (wr ++ w1) := by
  have hin : ∀ (k : Nat) (x : Nat × va_E), wr[k]? = some x → (wr ++ [(q, e0)])[k]? = some x := fun k x h => by
    rw [List.getElem?_append_left (List.getElem?_eq_some_iff.mp h).1]
    exact h
  have hq : (wr ++ [(q, e0)])[wr.length]? = some (q, e0) := by rw [List.getElem?_append_right (Nat.le_refl _), Nat.sub_self]; rfl
  have apart : ∀ (k : Nat) (x : Nat × va_E), wr[k]? = some x → x.1 < H.size ∧ ¬ (x.1 = q ∨ H.size ≤ x.1) := fun k x h => by
    have hl := (hP k x (hin k x h)).lt
    refine ⟨hl, fun h9 => ?_⟩
    rcases h9 with h9 | h9
    · have := hD.1 k wr.length x (q, e0) (hin k x h) hq h9
      have := (List.getElem?_eq_some_iff.mp h).1
      omega
    · omega
  refine ⟨va_P.app (fun k x h => ((hP k x (hin k x h)).kept (hk x.1 (apart k x h).1 (apart k x h).2))) hP1, va_D.app ⟨fun i j x y hx hy hxy => hD.1 i j x y (hin i x hx) (hin j y hy) hxy, fun k x h => hD.2 k x (hin k x h)⟩ (hD1.weaken (fun k x _ h => hF x.1 h)) (fun i j x y hx hy hxy => ?_)⟩
  exact (apart i x hx).2 (by rw [hxy]; exact hD1.2 j y hy)
section CWR
variable {z : gx_X} {ca : Nat → ClassId} {w : gx_V} {cc : ByteArray} {nL h0 mc ms : Nat} {own : String} {Qc : gx_QT} {ws wr : va_W} {k1 k2 pc : Nat} {lv : List (Nat × Value)} {rest st : List Value}
theorem cw_vret (hC : CC z ca w cc nL own) {PW : (Nat → Nat) → va_W} (ad : Nat → Nat) (hr : (gx_me z).sig.returnType = none) (hdg : decode cc pc = .ok (.return_, 1)) (hk : k1 ≤ mc ∧ k2 ≤ ms) (h0a : ad 0 = h0) (hP0 : ∀ H : Heap, va_P w.1 vwCl ws H → va_D (cw_A z h0) ws → va_P w.1 vwCl (PW ad) H ∧ va_D (cw_A z h0) (PW ad)) : CW z w nL h0 mc ms (ci_Q w h0 PW (gx_s z).heap.size) ws k1 k2 pc lv [] := fun H locs ls hP hD hS hL =>
  W.widen hk.1 hk.2 (W.vret hC.1.1 hC.1.2.1 hr (fun t ht _ => ⟨⟨ad, rfl, h0a, by show va_P _ _ _ t.heap ∧ _; rw [ht]; exact hP0 H hP hD⟩, hS.F ht⟩) hS.2.2 hdg hC.2.1)
theorem cw_obj (hC : CC z ca w cc nL own) {idx a : Nat} (hl : Cond.methodLink own idx objectInit ∈ gx_U) (hi : Cond.instanceMethod objectInit ∈ gx_U) (hc : Cond.code objectInit ⟨#[0xb1]⟩ 1 none ∈ gx_U) (hR : 1 ≤ (gx_R z).frames ∧ 20 ≤ (gx_R z).locals) (hcat : (rest.map fun v => v.category).sum ≤ 8) (hdg : decode cc pc = .ok (.invokespecial idx, 3)) (k : CW z w nL h0 mc ms Qc ws k1 k2 (pc + 3) lv rest) : CW z w nL h0 mc ms Qc ws k1 k2 pc lv (.ref a :: rest) := fun H locs ls hP hD hS hL =>
  W.objInit hC.1.1 hC.1.2.1 hC.1.2.2.2.1 (hC.1.2.2.2.2 _ hl) (hC.1.2.2.2.2 _ hi) (hC.1.2.2.2.2 _ hc) rfl (by rw [hC.1.2.2.1]; exact hL.1) rfl hdg hR.1 (by have := lv_room (m := gx_m z) (pc := pc) (ls := ls) (rest := .ref a :: rest) hcat; have h2 := hR.2; omega) (k H locs ls hP hD hS hL)
theorem cw_new (hC : CC z ca w cc nL own) {ci N index : Nat} {C : String} {T : u_T} {ty : Nat → FieldType} {fs : List Value} (hcl : gx_cl ci C T N ty) (hlk : Cond.classLink own index C ∈ gx_U) (hin : Cond.instantiable C N ∈ gx_U) (hini : Cond.initialized C ∈ gx_U) (hfs : ∀ j, j < N → defaultValue (ty j) = vp_V fs j) (hR : k1 + 1 ≤ (gx_R z).cells ∧ k2 + N ≤ (gx_R z).slots) (hdg : decode cc pc = .ok (.new index, 3))
    (k : ∀ q : Nat, CW z w nL h0 mc ms Qc (ws ++ [(q, .inr (ci, fs))]) (k1 + 1) (k2 + N) (pc + 3) lv (.ref q :: rest)) : CW z w nL h0 mc ms Qc ws k1 k2 pc lv rest := fun H locs ls hP hD hS hL =>
  va_new (cl := vwCl) hC.1.1 hC.1.2.1 hC.1.2.2.2.2 hcl.2.1 ty hcl.2.2.1 hC.1.2.2.2.1 (hC.1.2.2.2.2 _ hlk) (hC.1.2.2.2.2 _ hin) (hC.1.2.2.2.2 _ hini) hC.2.2.1.1 hP hD hS (fun q h => Or.inr h) hcl.1 hfs hR.1 hR.2 hdg (fun q H1 hP1 hD1 hS1 => k q H1 locs ls hP1 hD1 hS1 hL)
theorem cw_newa (hC : CC z ca w cc nL own) {atype : ArrayType} {ty : FieldType} (t : Nat) {n : Int32} {N : Nat} {a0 : vp_A} (hac : Cond.arrayClass (newarray.typeOf atype) ∈ gx_U) (hty : newarray.typeOf atype = ty) (ht : (gx_ty ca)[t]? = some (ca t, ty)) (hra : ∀ cA : ClassId, ∀ U : State, va_RA U cA ty → U.vm.findClass ("[" ++ ty.toString) = some cA) (ha : ∀ cA : ClassId, vp_cell cA a0 = arrV cA N (fun _ => defaultValue ty)) (hn : ¬ n < 0) (hN : n.toNatClampNeg = N) (hb : N * componentBytes ty ≤ 536870912) (hR : k1 + 1 ≤ (gx_R z).cells ∧ k2 + N ≤ (gx_R z).slots) (hdg : decode cc pc = .ok (.newarray atype, 2))
    (k : ∀ q : Nat, CW z w nL h0 mc ms Qc (ws ++ [(q, .inl (ca t, a0))]) (k1 + 1) (k2 + N) (pc + 2) lv (.ref q :: rest)) : CW z w nL h0 mc ms Qc ws k1 k2 pc lv (.int n :: rest) := fun H locs ls hP hD hS hL =>
  va_newa (cl := vwCl) hC.1.1 hC.1.2.1 (hC.1.2.2.2.2 _ hac) hty hC.2.2.1.1 hP hD hS (fun q h => Or.inr h) ha hn hN hb hR.1 hR.2 hdg (fun q cA H1 hK1 hP1 hD1 hS1 => by
    have e1 := hra _ _ (hC.2.2.1.1.2 t _ ht).2
    have e2 := hra _ _ (hK1.2 (gx_ty ca).length (cA, ty) (by rw [List.getElem?_append_right (Nat.le_refl _), Nat.sub_self]; rfl)).2
    have e : cA = ca t := Option.some.inj (e2.symm.trans e1)
    subst e
    exact k q H1 locs ls hP1 hD1 hS1 hL)
theorem cw_newq (hC : CC z ca w cc nL own) {C : String} {index : Nat} (t : Nat) {n : Int32} {N : Nat} (hlk : Cond.classLink own index C ∈ gx_U) (hao : FieldType.object C ∈ gx_ao) (ht : (gx_ty ca)[t]? = some (ca t, .object C)) (hn : ¬ n < 0) (hN : n.toNatClampNeg = N) (hb : N * 4 ≤ 536870912) (hR : k1 + 1 ≤ (gx_R z).cells ∧ k2 + N ≤ (gx_R z).slots) (hdg : decode cc pc = .ok (.anewarray index, 3))
    (k : ∀ q : Nat, CW z w nL h0 mc ms Qc (ws ++ [(q, .inl (ca t, N, .inr (.inr (.inr (.inr (fun _ => none))))))]) (k1 + 1) (k2 + N) (pc + 3) lv (.ref q :: rest)) : CW z w nL h0 mc ms Qc ws k1 k2 pc lv (.int n :: rest) := fun H locs ls hP hD hS hL =>
  va_newq (cl := vwCl) hC.1.1 hC.1.2.1 hC.1.2.2.2.1 (hC.1.2.2.2.2 _ hlk) (hC.2.2.1.2.2 _ hao) hC.2.2.1.1 hP hD hS (fun q h => Or.inr h) hn hN hb hR.1 hR.2 hdg (fun q cA H1 hK1 hP1 hD1 hS1 => by
    obtain ⟨_, _, _, _, _, e1⟩ := (hC.2.2.1.1.2 t _ ht).2
    obtain ⟨_, _, _, _, _, e2⟩ := (hK1.2 (gx_ty ca).length (cA, .object C) (by rw [List.getElem?_append_right (Nat.le_refl _), Nat.sub_self]; rfl)).2
    have e : cA = ca t := Option.some.inj (e2.symm.trans e1)
    subst e
    exact k q H1 locs ls hP1 hD1 hS1 hL)
theorem cw_get (hC : CC z ca w cc nL own) {ci N k index a : Nat} (p0 : Nat) {C : String} {T : u_T} {ty : Nat → FieldType} {fs : List Value} {v : Value} (hcl : gx_cl ci C T N ty) (hf : gx_fl own index T N k) (he : ws[p0]? = some (a, .inr (ci, fs))) (hv : fs[k]? = some v) (hdg : decode cc pc = .ok (.getfield index, 3)) (kk : CW z w nL h0 mc ms Qc ws k1 k2 (pc + 3) lv (v :: rest)) : CW z w nL h0 mc ms Qc ws k1 k2 pc lv (.ref a :: rest) := fun H locs ls hP hD hS hL =>
  va_get (cl := vwCl) (ref := (T k).1) hC.1.1 hC.1.2.1 hC.1.2.2.2.2 hcl.2.1 hC.1.2.2.2.1 hC.2.2.1.1 hP p0 he hcl.1 k hf.1 (hC.1.2.2.2.2 _ hf.2) (fun _ h => h) hv hdg (kk H locs ls hP hD hS hL)
theorem cw_put (hC : CC z ca w cc nL own) {ci N k index a : Nat} {C : String} {T : u_T} {ty : Nat → FieldType} {t : FieldType} {fs : List Value} {v : Value} {wt : va_W} (hcl : gx_cl ci C T N ty) (hf : gx_fp own index T N k ty t) (he : ws = (a, .inr (ci, fs)) :: wt) (hn : narrow t v = v) (hfit : fits t v = true) (hl : k < fs.length) (hdg : decode cc pc = .ok (.putfield index, 3)) (kk : CW z w nL h0 mc ms Qc ((a, .inr (ci, fs.set k v)) :: wt) k1 k2 (pc + 3) lv rest) : CW z w nL h0 mc ms Qc ws k1 k2 pc lv (v :: .ref a :: rest) := fun H locs ls hP hD hS hL => by
  subst he
  exact va_put (cl := vwCl) (ref := (T k).1) hC.1.1 hC.1.2.1 hC.1.2.2.2.2 hcl.2.1 ty hcl.2.2.1 hcl.2.2.2 hC.1.2.2.2.1 hC.2.2.1.1 hP hD hS 0 rfl hcl.1 k hf.1.1 (hC.1.2.2.2.2 _ hf.1.2) (fun _ h => h) hf.2.2 (by rw [hcl.2.2.1 k hf.1.1, hf.2.1]) hn hfit hl hdg (fun H1 locs1 hP1 hD1 hS1 => kk H1 locs1 ls hP1 hD1 hS1 hL)
def gx_fF (own : String) (index : Nat) (T : u_T) (N k : Nat) (ty : Nat → FieldType) (t : FieldType) : Prop := gx_fl own index T N k ∧ ty k = t ∧ (T k).2.2.2 = true ∧ (T k).1 = own
theorem cw_putF (hC : CC z ca w cc nL own) {ci N k index a : Nat} {C : String} {T : u_T} {ty : Nat → FieldType} {t : FieldType} {fs : List Value} {v : Value} {wt : va_W} (hcl : gx_cl ci C T N ty) (hf : gx_fF own index T N k ty t) (he : ws = (a, .inr (ci, fs)) :: wt) (hn : narrow t v = v) (hfit : fits t v = true) (hl : k < fs.length) (hdg : decode cc pc = .ok (.putfield index, 3)) (kk : CW z w nL h0 mc ms Qc ((a, .inr (ci, fs.set k v)) :: wt) k1 k2 (pc + 3) lv rest) : CW z w nL h0 mc ms Qc ws k1 k2 pc lv (v :: .ref a :: rest) := fun H locs ls hP hD hS hL => by
  subst he
  exact va_putF (cl := vwCl) (ref := (T k).1) hC.1.1 hC.1.2.1 hC.1.2.2.2.2 hcl.2.1 ty hcl.2.2.1 hcl.2.2.2 hC.1.2.2.2.1 hC.2.2.1.1 hP hD hS 0 rfl hcl.1 k hf.1.1 (hC.1.2.2.2.2 _ hf.1.2) (fun _ h => h) hf.2.2.1 hC.2.2.2 hf.2.2.2 (by rw [hcl.2.2.1 k hf.1.1, hf.2.1]) hn hfit hl hdg (fun H1 locs1 hP1 hD1 hS1 => kk H1 locs1 ls hP1 hD1 hS1 hL)
theorem cw_alen (hC : CC z ca w cc nL own) {a : Nat} (p0 t : Nat) {cA : ClassId} {x : vp_A} {ty : FieldType} {v : Int32} (he : ws[p0]? = some (a, .inl (cA, x))) (ht : (gx_ty ca)[t]? = some (cA, ty)) (hv : Int32.ofNat x.1 = v) (hdg : decode cc pc = .ok (.arraylength, 1)) (k : CW z w nL h0 mc ms Qc ws k1 k2 (pc + 1) lv (.int v :: rest)) : CW z w nL h0 mc ms Qc ws k1 k2 pc lv (.ref a :: rest) := fun H locs ls hP hD hS hL =>
  va_alen (cl := vwCl) hC.1.1 hC.1.2.1 hC.2.2.1.1 hP p0 t he ht hv hdg (k H locs ls hP hD hS hL)
theorem cw_astq (hC : CC z ca w cc nL own) {a v ci N : Nat} (p0 t qk : Nat) {cA : ClassId} {C : String} {T : u_T} {n : Nat} {vs : List Value} {f : Nat → Option Nat} (he : ws[p0]? = some (a, .inl (cA, n, .inr (.inr (.inr (.inr f)))))) (ht : (gx_ty ca)[t]? = some (cA, .object C)) (hv : ws[qk]? = some (v, .inr (ci, vs))) (hc : vwCl[ci]? = some (C, T, N)) {i : Int32} (hin : vp_in i n) (hdg : decode cc pc = .ok (.aastore, 1)) (k : CW z w nL h0 mc ms Qc (ws.set p0 (a, .inl (cA, n, .inr (.inr (.inr (.inr (va_up f i.toNatClampNeg (some v)))))))) k1 k2 (pc + 1) lv rest) : CW z w nL h0 mc ms Qc ws k1 k2 pc lv (.ref v :: .int i :: .ref a :: rest) := fun H locs ls hP hD hS hL =>
  va_astq (cl := vwCl) (r := (C, T, N)) hC.1.1 hC.1.2.1 hC.2.2.1.1 hP hD hS p0 t qk ci he ht hv hc hin hdg (fun H1 locs1 hP1 hD1 hS1 => k H1 locs1 ls hP1 hD1 hS1 hL)
theorem cw_iast (hC : CC z ca w cc nL own) {a : Nat} (p0 : Nat) {n : Nat} {f : Nat → Int32} (he : ws[p0]? = some (a, .inl (ca 0, n, .inl f))) {i x : Int32} (hin : vp_in i n) (hdg : decode cc pc = .ok (.iastore, 1)) (k : CW z w nL h0 mc ms Qc (ws.set p0 (a, .inl (ca 0, n, .inl (upd f i.toNatClampNeg x)))) k1 k2 (pc + 1) lv rest) : CW z w nL h0 mc ms Qc ws k1 k2 pc lv (.int x :: .int i :: .ref a :: rest) := fun H locs ls hP hD hS hL =>
  va_iast (cl := vwCl) hC.1.1 hC.1.2.1 hC.2.2.1.1 hP hD hS p0 0 he rfl hin hdg (fun H1 locs1 hP1 hD1 hS1 => k H1 locs1 ls hP1 hD1 hS1 hL)
theorem cw_eq {ws' : va_W} (h : ws = ws') (k : CW z w nL h0 mc ms Qc ws' k1 k2 pc lv st) : CW z w nL h0 mc ms Qc ws k1 k2 pc lv st := h ▸ k
/-- a constructor's words: of a class that one may call -/
def gx_cI (own : String) (idx : Nat) (y : MethodName) (b : ByteArray) (mL n : Nat) : Prop := (Cond.methodLink own idx y ∈ gx_U ∧ Cond.instanceMethod y ∈ gx_U ∧ Cond.initialized y.cls ∈ gx_U ∧ Cond.code y b mL none ∈ gx_U) ∧ y.name = "<init>" ∧ y.cls ≠ "java/lang/invoke/MethodHandle" ∧ y.cls ≠ "java/lang/invoke/VarHandle" ∧ (parseMethodDescriptor y.desc).map (fun d => d.parameters.length) = some n
/-- of a nest mate's private one -/
def gx_cIN (own : String) (idx : Nat) (host : String) (y : MethodName) (b : ByteArray) (mL n : Nat) : Prop := ((own, idx, y, host) ∈ gx_nestI ∧ Cond.instanceMethod y ∈ gx_U ∧ Cond.initialized y.cls ∈ gx_U ∧ Cond.code y b mL none ∈ gx_U) ∧ y.name = "<init>" ∧ y.cls ≠ "java/lang/invoke/MethodHandle" ∧ y.cls ≠ "java/lang/invoke/VarHandle" ∧ (parseMethodDescriptor y.desc).map (fun d => d.parameters.length) = some n
theorem ci_blind {ex : List Value} {e0 : va_E} {sz a : Nat} : FrameBlind (ci_Pc ca w a ex e0 sz) := fun a U g mk q => by
  obtain ⟨q1, q2, q3, q4⟩ := q
  exact ⟨q1, q2, q3, gx_I.same (u := U) (U := U.calling g mk a) rfl q4⟩
theorem gx_gc {y : MethodName} {b : ByteArray} {mL : Nat} (h : Cond.code y b mL none ∈ gx_U) : GoodIn gx_U (.code y b mL none :: gx_U) := by
  intro c hc
  simp only [List.mem_cons] at hc
  rcases hc with rfl | hc
  · exact gx_gd h
  · exact gx_gd hc
theorem cw_last {wr : va_W} {q : Nat} {e0 : va_E} {D : va_G} {H : Heap} (hP : va_P D vwCl (wr ++ [(q, e0)]) H) : va_P D vwCl [(q, e0)] H := fun k x hx => by
  have h1 := (List.getElem?_eq_some_iff.mp hx).1
  simp at h1
  subst h1
  exact hP wr.length x (by rw [List.getElem?_append_right (Nat.le_refl _), Nat.sub_self]; exact hx)
theorem cw_run {wr : va_W} {q mc1 ms1 : Nat} {e0 : va_E} {PW : (Nat → Nat) → va_W} (hr : ∀ (H : Heap) (locs : List Loc) (ls : Array Slot), va_P w.1 vwCl (wr ++ [(q, e0)]) H → va_S (cw_A z h0) (gx_s z).heap H locs → lv_has ls nL lv → ∃ a, va_Run z.1 (gx_l z) z.2.2.1 (gx_R z) (gx_s z) (gx_m z) (gx_a z) z.2.2.2.2.2.2.2.1 (gx_me z) (gx_c z) H locs k1 k2 mc1 ms1 (F0 (gx_m z) pc ls st) rest (ci_Q w q PW H.size a) (fun p => p = q ∨ H.size ≤ p)) (hq : ∀ H : Heap, va_D (cw_A z h0) (wr ++ [(q, e0)]) → cw_A z h0 q)
    (k : ∀ ad : Nat → Nat, ad 0 = q → CW z w nL h0 mc ms Qc (wr ++ PW ad) (k1 + mc1) (k2 + ms1) (pc + 3) lv rest) : CW z w nL h0 mc ms Qc (wr ++ [(q, e0)]) k1 k2 pc lv st := fun H locs ls hP hD hS hL => by
  obtain ⟨a, ha⟩ := hr H locs ls hP hS hL
  have hF : ∀ p, (p = q ∨ H.size ≤ p) → cw_A z h0 p := fun p hp => hp.elim (fun e => by rw [e]; exact hq H hD) (fun h => Or.inr (Nat.le_trans hS.1 h))
  refine va_callv ha hS (fun p _ hp => hF p hp) hF (fun u t H1 locs1 ht _ hw hB _ hk hS1 => ?_)
  rw [ht] at hB
  obtain ⟨hP1, hD1⟩ := cx_join hP hD hk hF hB.1 hB.2
  exact k u hw H1 locs1 ls hP1 hD1 hS1 hL
theorem cw_q {wr : va_W} {q : Nat} {e0 : va_E} {A : Nat → Prop} (hD : va_D A (wr ++ [(q, e0)])) : A q := hD.2 wr.length (q, e0) (by rw [List.getElem?_append_right (Nat.le_refl _), Nat.sub_self]; rfl)
theorem cw_init (hC : CC z ca w cc nL own) {wr : va_W} {q idx n mL mc1 ms1 : Nat} {y : MethodName} {b : ByteArray} {rm : Room} {e0 : va_E} {ex : List Value} {PW : (Nat → Nat) → va_W} (hct : ct (gx_l z) ca w y b mL rm ex e0 mc1 ms1 PW) (hcv : gx_cI own idx y b mL n) (hrm : rm.cells = mc1 ∧ rm.slots = ms1 ∧ rm.frames + 1 ≤ (gx_R z).frames ∧ 8 + (mL + 11) + rm.locals ≤ (gx_R z).locals) (hroom : k1 + mc1 ≤ (gx_R z).cells ∧ k2 + ms1 ≤ (gx_R z).slots) (hn : ex.length = n) (hst : st = ex.reverse ++ .ref q :: rest) (hcat : (rest.map fun v => v.category).sum ≤ 8) (hdg : decode cc pc = .ok (.invokespecial idx, 3))
    (k : ∀ ad : Nat → Nat, ad 0 = q → CW z w nL h0 mc ms Qc (wr ++ PW ad) (k1 + mc1) (k2 + ms1) (pc + 3) lv rest) : CW z w nL h0 mc ms Qc (wr ++ [(q, e0)]) k1 k2 pc lv st :=
  cw_run (fun H locs ls hP hS hL => ⟨_, va_runI (own := own) (bytes := b) (maxL := mL) hC.1 (hct q H.size) (cwI n hC.1.2.2.2.2 (gx_gc hcv.1.2.2.2) rfl hrm.1 hrm.2.1 (hC.1.2.2.2.2 _ hcv.1.2.2.1) (hC.1.2.2.2.2 _ hcv.1.1) (hC.1.2.2.2.2 _ hcv.1.2.1) hcv.2.1 hcv.2.2 hrm.2.2) ⟨ci_blind, fun U hU hW => ⟨rfl, by rw [hU], by rw [hU]; exact cw_last hP, hC.2.2.1.warm hW⟩⟩ rfl hn hL.1 hst (lv_room hcat) hdg hroom⟩) (fun _ hD => cw_q hD) k
theorem cw_initN (hC : CC z ca w cc nL own) {wr : va_W} {q idx n mL mc1 ms1 : Nat} {host : String} {y : MethodName} {b : ByteArray} {rm : Room} {e0 : va_E} {ex : List Value} {PW : (Nat → Nat) → va_W} (hct : ct (gx_l z) ca w y b mL rm ex e0 mc1 ms1 PW) (hcv : gx_cIN own idx host y b mL n) (hrm : rm.cells = mc1 ∧ rm.slots = ms1 ∧ rm.frames + 1 ≤ (gx_R z).frames ∧ 8 + (mL + 11) + rm.locals ≤ (gx_R z).locals) (hroom : k1 + mc1 ≤ (gx_R z).cells ∧ k2 + ms1 ≤ (gx_R z).slots) (hn : ex.length = n) (hst : st = ex.reverse ++ .ref q :: rest) (hcat : (rest.map fun v => v.category).sum ≤ 8) (hdg : decode cc pc = .ok (.invokespecial idx, 3))
    (k : ∀ ad : Nat → Nat, ad 0 = q → CW z w nL h0 mc ms Qc (wr ++ PW ad) (k1 + mc1) (k2 + ms1) (pc + 3) lv rest) : CW z w nL h0 mc ms Qc (wr ++ [(q, e0)]) k1 k2 pc lv st :=
  cw_run (fun H locs ls hP hS hL => ⟨_, va_runIN (own := own) (host := host) (bytes := b) (maxL := mL) hC.1 (hct q H.size) ⟨va_cnB n hC.1.2.2.2.2 (gx_gc hcv.1.2.2.2) rfl hrm.1 hrm.2.1 (hC.2.2.1.2.1 _ hcv.1.1) (hC.1.2.2.2.2 _ hcv.1.2.2.1) hcv.2.2 hrm.2.2, hcv.2.1, hC.1.2.2.2.2 _ hcv.1.2.1⟩ ⟨ci_blind, fun U hU hW => ⟨rfl, by rw [hU], by rw [hU]; exact cw_last hP, hC.2.2.1.warm hW⟩⟩ rfl hn hL.1 hst (lv_room hcat) hdg hroom⟩) (fun _ hD => cw_q hD) k
end CWR
