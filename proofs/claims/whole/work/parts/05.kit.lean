/-! THE LAYER OVER THE KIT: a world of numbered cells (ad: number to address; cf: what a cell is, by its number and its row of ints), the judgement GW (any heap that holds the world of memory M, any locals array that holds the listed values), contracts gx_M* over memories. -/
theorem gx_inU1 {w : Cond} (i : Nat) (h : lw_tbl[i]? = some w) (hg : goodWord w = true) : w ∈ lw_tbl.filter goodWord := List.mem_filter.mpr ⟨List.mem_of_getElem? h, hg⟩
/-- the words that every method takes -/
def gx_U : List Cond := lw_tbl.filter goodWord
theorem gx_in {w : Cond} (i : Nat) (h : lw_tbl[i]? = some w) (hg : goodWord w = true) : w ∈ gx_U := gx_inU1 i h hg
theorem gx_good {w : Cond} (h : w ∈ gx_U) : (w.onTables && w.keeps) = true ∨ ∃ ty, w = .arrayClass ty := good_of_word (List.mem_filter.mp h).2
theorem gx_ins (ws : List Cond) (ps : List Nat) (hp : ws = ps.filterMap (fun i => lw_tbl[i]?)) (h : ws.all goodWord = true) : ∀ w ∈ ws, w ∈ gx_U := by
  intro w hw
  have h1 := List.all_eq_true.mp h w hw
  rw [hp] at hw
  obtain ⟨i, -, hi⟩ := List.mem_filterMap.mp hw
  exact List.mem_filter.mpr ⟨List.mem_of_getElem? hi, h1⟩
abbrev gx_M : Type := Nat → Nat → Int32
def gx_up (M : gx_M) (o j : Nat) (x : Int32) : gx_M := fun q => if q = o then upd (M o) j x else M q
/-- the machine that runs a method: program, launch, environment, room, state at the entry, method, arguments, frames below, method, code -/
abbrev gx_X : Type := Program × Launch × Env × Room × State × MethodId × Array Value × List Frame × Method × Code
/-- a side's world: class numbers and slots, array classes, addresses, cells, how many -/
abbrev gx_V : Type := va_G × List (ClassId × FieldType) × (Nat → Nat) × (Nat → (Nat → Int32) → va_E) × Nat
/-- what both sides share: addresses of the text constants and their bytes, of GAINS -/
abbrev gx_D : Type := (Nat → Nat) × (Nat → Nat) × Nat
abbrev gx_l (x : gx_X) : Launch := x.2.1
abbrev gx_R (x : gx_X) : Room := x.2.2.2.1
abbrev gx_s (x : gx_X) : State := x.2.2.2.2.1
abbrev gx_m (x : gx_X) : MethodId := x.2.2.2.2.2.1
abbrev gx_a (x : gx_X) : Array Value := x.2.2.2.2.2.2.1
abbrev gx_me (x : gx_X) : Method := x.2.2.2.2.2.2.2.2.1
abbrev gx_c (x : gx_X) : Code := x.2.2.2.2.2.2.2.2.2
abbrev gx_tys (w : gx_V) : List (ClassId × FieldType) := w.2.1
abbrev gx_ad (w : gx_V) : Nat → Nat := w.2.2.1
abbrev gx_cf (w : gx_V) : Nat → (Nat → Int32) → va_E := w.2.2.2.1
abbrev gx_N (w : gx_V) : Nat := w.2.2.2.2
def gx_w (w : gx_V) (M : gx_M) : va_W := (List.range (gx_N w)).map (fun k => (gx_ad w k, gx_cf w k (M k)))
def gx_A (w : gx_V) (sz : Nat) : Nat → Prop := fun q => (∃ k, k < gx_N w ∧ q = gx_ad w k) ∨ sz ≤ q
def gx_inj (w : gx_V) : Prop := ∀ i j, i < gx_N w → j < gx_N w → gx_ad w i = gx_ad w j → i = j
theorem gx_at {w : gx_V} {M : gx_M} {k : Nat} (h : k < gx_N w) : (gx_w w M)[k]? = some (gx_ad w k, gx_cf w k (M k)) := by
  simp [gx_w, List.getElem?_map, List.getElem?_range h]
theorem gx_len {w : gx_V} {M : gx_M} : (gx_w w M).length = gx_N w := by simp [gx_w]
theorem gx_setr {w : gx_V} {M : gx_M} {k : Nat} (h : k < gx_N w) (r : Nat → Int32) : (gx_w w M).set k (gx_ad w k, gx_cf w k r) = gx_w w (fun q => if q = k then r else M q) := by
  apply List.ext_getElem?
  intro i
  by_cases hi : i < gx_N w
  · by_cases hk : k = i
    · subst hk
      rw [List.getElem?_set_self (by rw [gx_len]; exact h), gx_at h]
      simp
    · rw [List.getElem?_set_ne hk, gx_at hi, gx_at hi, if_neg (Ne.symm hk)]
  · rw [List.getElem?_eq_none (by rw [List.length_set, gx_len]; omega), List.getElem?_eq_none (by rw [gx_len]; omega)]
theorem gx_set {w : gx_V} {M : gx_M} {k j : Nat} {x : Int32} (h : k < gx_N w) : (gx_w w M).set k (gx_ad w k, gx_cf w k (upd (M k) j x)) = gx_w w (gx_up M k j x) := gx_setr h _
theorem gx_Dw {w : gx_V} {M : gx_M} (hi : gx_inj w) (sz : Nat) : va_D (gx_A w sz) (gx_w w M) := by
  have key : ∀ (k : Nat) (q : Nat × va_E), (gx_w w M)[k]? = some q → k < gx_N w ∧ q.1 = gx_ad w k := by
    intro k q hk
    have hl : k < gx_N w := by
      have := (List.getElem?_eq_some_iff.mp hk).1
      rwa [gx_len] at this
    rw [gx_at hl] at hk
    cases hk
    exact ⟨hl, rfl⟩
  refine ⟨fun i j p q hp hq hpq => ?_, fun k q hk => ?_⟩
  · obtain ⟨h1, h2⟩ := key i p hp
    obtain ⟨h3, h4⟩ := key j q hq
    exact hi i j h1 h3 (by rw [← h2, ← h4, hpq])
  · obtain ⟨h1, h2⟩ := key k q hk
    exact Or.inl ⟨k, h1, h2⟩
theorem gx_Asub {w : gx_V} {sz sz' : Nat} (h : sz ≤ sz') {q : Nat} (hq : gx_A w sz' q) : gx_A w sz q := hq.elim Or.inl (fun h1 => Or.inr (Nat.le_trans h h1))
-- the constants that methods read
def gx_sx : List (Nat × String) := [(68, "hold"), (74, "begin"), (76, "or"), (78, "and"), (80, "not"), (85, "now"), (87, "ahead"), (89, "other"), (91, "tick"), (93, "line"), (95, "sweeps"), (97, "since")]
def gx_sl : List Nat := [4, 5, 2, 3, 3, 3, 5, 5, 4, 4, 6, 5]
def gx_sb : List (List Int32) := [[104, 111, 108, 100], [98, 101, 103, 105, 110], [111, 114], [97, 110, 100], [110, 111, 116], [110, 111, 119], [97, 104, 101, 97, 100], [111, 116, 104, 101, 114], [116, 105, 99, 107], [108, 105, 110, 101], [115, 119, 101, 101, 112, 115], [115, 105, 110, 99, 101]]
def gx_gains : Nat → Int32 := fun j => [(1 : Int32), 2, 5, 10, 20, 50, 100, 200].getD j 0
def gx_nest : List (String × Nat × MethodName × String) := [("GreenLine$Signal", 22, yX10_within, "GreenLine"), ("GreenLine$Beam", 63, yX10_isSignal, "GreenLine"), ("GreenLine$Beam", 81, yX10_isChannel, "GreenLine"), ("GreenLine$Beam", 84, yX10_within, "GreenLine"), ("GreenLine$Scanner", 107, yX10_within, "GreenLine"), ("GreenLine$Reader", 110, yX10_within, "GreenLine"), ("GreenLine$Screen", 15, yX10_within, "GreenLine")]
def gx_F (d : gx_D) (A : Nat → Prop) (U : State) (H : Heap) : Prop :=
  (∀ q ∈ gx_nest, va_Nw (.methodLinkNest q.1 q.2.1 q.2.2.1 q.2.2.2) U) ∧
  va_Z "java/lang/String" "COMPACT_STRINGS" "Z" (.int 1) A U H ∧
  va_Zq "jdk/internal/util/Preconditions" "SIOOBE_FORMATTER" "Ljava/util/function/BiFunction;" A U H ∧
  va_Z "GreenLine" "GAINS" "[I" (.ref d.2.2) A U H ∧
  va_T .int d.2.2 8 (fun j => .int (gx_gains j)) A U H ∧
  (∀ i : Nat, i < 12 → vk_R "GreenLine$Scanner" ((gx_sx.getD i (0, "")).1) ((gx_sx.getD i (0, "")).2) (d.1 i) U) ∧
  vk_S 12 gx_sl gx_sb d.1 d.2.1 A U H
theorem gx_F.kept {d : gx_D} {A : Nat → Prop} {U : State} {H H1 : Heap} (h : gx_F d A U H) (hq : ∀ a : Nat, a < H.size → ¬ A a → H1[a]? = H[a]?) : gx_F d A U H1 :=
  ⟨h.1, h.2.1.kept hq, h.2.2.1.kept hq, h.2.2.2.1.kept hq, h.2.2.2.2.1.kept hq, h.2.2.2.2.2.1, h.2.2.2.2.2.2.kept hq⟩
theorem gx_F.narrow {d : gx_D} {A B : Nat → Prop} {U : State} {H : Heap} (h : gx_F d A U H) (hAB : ∀ q, B q → A q) : gx_F d B U H :=
  ⟨h.1, h.2.1.narrow hAB, h.2.2.1.narrow hAB, h.2.2.2.1.narrow hAB, h.2.2.2.2.1.narrow hAB, h.2.2.2.2.2.1, h.2.2.2.2.2.2.narrow hAB⟩
theorem gx_F.warm {d : gx_D} {A : Nat → Prop} {s U : State} {H : Heap} (hW : s.WarmedH U.vm) (h : gx_F d A s H) : gx_F d A U H :=
  ⟨fun q hq => va_Nw.warmM hW (h.1 q hq), h.2.1.moved hW.alike, h.2.2.1.moved hW.alike, h.2.2.2.1.moved hW.alike, h.2.2.2.2.1.moved hW.alike, fun i hi => vk_R.warm hW (h.2.2.2.2.2.1 i hi), h.2.2.2.2.2.2.moved hW.alike⟩
theorem gx_F.same {d : gx_D} {A : Nat → Prop} {u U : State} {H : Heap} (hv : U.vm = u.vm) (h : gx_F d A u H) : gx_F d A U H := by
  have ha : u.vm.Alike U.vm := by rw [hv]; exact Vm.Alike.refl u.vm
  exact ⟨fun q hq => va_Nw.same rfl hv.symm (h.1 q hq), h.2.1.moved ha, h.2.2.1.moved ha, h.2.2.2.1.moved ha, h.2.2.2.2.1.moved ha, fun i hi => vk_R.same hv (h.2.2.2.2.2.1 i hi), h.2.2.2.2.2.2.moved ha⟩
-- what holds all along a method's body
def gx_C (x : gx_X) (d : gx_D) (w : gx_V) (cc : ByteArray) (nL : Nat) (own : String) : Prop :=
  CallFix x.1 (gx_m x) (gx_c x) cc nL (gx_s x) (gx_a x) gx_U own ∧ (gx_me x).locks = false ∧ va_K w.1 vwCl (gx_tys w) (gx_s x) ∧ gx_F d (gx_A w (gx_s x).heap.size) (gx_s x) (gx_s x).heap ∧ gx_inj w
abbrev gx_QT : Type := Array Value → State → Outcome → State → Prop
def GW (x : gx_X) (w : gx_V) (nL : Nat) (Qc : gx_QT) (M : gx_M) (pc : Nat) (lv : List (Nat × Value)) (st : List Value) : Prop :=
  ∀ (H : Heap) (locs : List Loc) (ls : Array Slot), va_P w.1 vwCl (gx_w w M) H → va_S (gx_A w (gx_s x).heap.size) (gx_s x).heap H locs → lv_has ls nL lv →
    W x.1 (gx_l x) x.2.2.1 (gx_R x) (gx_s x) (gx_m x) (gx_a x) x.2.2.2.2.2.2.2.1 (gx_me x) (gx_c x) H locs 0 0 (MQ x.2.2.2.2.2.2.2.1 Qc (gx_a x) (gx_s x) 0 0 (gx_A w (gx_s x).heap.size)) (F0 (gx_m x) pc ls st)
-- contracts
def gx_Pc (d : gx_D) (w : gx_V) (av : List Value) (M : gx_M) (sz : Nat) : Array Value → State → Prop :=
  va_Pc av (fun U => U.heap.size = sz ∧ va_P w.1 vwCl (gx_w w M) U.heap ∧ va_K w.1 vwCl (gx_tys w) U ∧ gx_F d (gx_A w sz) U U.heap ∧ gx_inj w)
def gx_Qi (w : gx_V) (Q : Int32 → gx_M → Prop) (sz : Nat) : gx_QT := va_Qi (S := gx_M) Q (fun M t => va_P w.1 vwCl (gx_w w M) t.heap) (gx_A w sz)
def gx_Ql (w : gx_V) (Q : Int64 → gx_M → Prop) (sz : Nat) : gx_QT := va_Ql (S := gx_M) Q (fun M t => va_P w.1 vwCl (gx_w w M) t.heap) (gx_A w sz)
def gx_Qv (w : gx_V) (Q : gx_M → Prop) (sz : Nat) : gx_QT := va_Qv (S := gx_M) Q (fun M t => va_P w.1 vwCl (gx_w w M) t.heap) (gx_A w sz)
def gx_Qr (w : gx_V) (Q : Nat → gx_M → Prop) (sz : Nat) : gx_QT := va_Qr (S := Nat × gx_M) (fun u => Q u.1 u.2) (fun u a t => a = gx_ad w u.1 ∧ va_P w.1 vwCl (gx_w w u.2) t.heap) (gx_A w sz)
def gx_Mi (l : Launch) (d : gx_D) (w : gx_V) (y : MethodName) (b : ByteArray) (nL : Nat) (rt : FieldType) (rm : Room) (av : List Value) (M : gx_M) (Q : Int32 → gx_M → Prop) : Prop := ∀ sz : Nat, Met l y (.code y b nL (some rt) :: gx_U) rm (gx_Pc d w av M sz) (gx_Qi w Q sz) 0 0 (gx_A w sz)
def gx_Ml (l : Launch) (d : gx_D) (w : gx_V) (y : MethodName) (b : ByteArray) (nL : Nat) (rt : FieldType) (rm : Room) (av : List Value) (M : gx_M) (Q : Int64 → gx_M → Prop) : Prop := ∀ sz : Nat, Met l y (.code y b nL (some rt) :: gx_U) rm (gx_Pc d w av M sz) (gx_Ql w Q sz) 0 0 (gx_A w sz)
def gx_Mv (l : Launch) (d : gx_D) (w : gx_V) (y : MethodName) (b : ByteArray) (nL : Nat) (rm : Room) (av : List Value) (M : gx_M) (Q : gx_M → Prop) : Prop := ∀ sz : Nat, Met l y (.code y b nL none :: gx_U) rm (gx_Pc d w av M sz) (gx_Qv w Q sz) 0 0 (gx_A w sz)
def gx_Mr (l : Launch) (d : gx_D) (w : gx_V) (y : MethodName) (b : ByteArray) (nL : Nat) (rt : FieldType) (rm : Room) (av : List Value) (M : gx_M) (Q : Nat → gx_M → Prop) : Prop := ∀ sz : Nat, Met l y (.code y b nL (some rt) :: gx_U) rm (gx_Pc d w av M sz) (gx_Qr w Q sz) 0 0 (gx_A w sz)
/-- a method's contract out of a walk of its body -/
theorem gx_of {l : Launch} {d : gx_D} {w : gx_V} {y : MethodName} {b : ByteArray} {nL : Nat} {ret : Option FieldType} {rm : Room} {av : List Value} {M : gx_M} {own : String} {Qc : gx_QT} {sz : Nat} (hy : plainName y.cls = true) (ho : own = y.cls) (hlen : (lg_sl av).length ≤ nL)
    (body : ∀ x : gx_X, gx_C x d w b nL own → gx_l x = l → gx_R x = rm → (gx_s x).heap.size = sz → (gx_me x).sig.returnType = ret → GW x w nL Qc M 0 (lv_args 0 av) []) (hcells : rm = { rm with cells := 0, slots := 0 }) : Met l y (.code y b nL ret :: gx_U) rm (gx_Pc d w av M sz) Qc 0 0 (gx_A w sz) := by
  refine Met.ofW (cc := b) (maxL := nL) (ret := ret) hy rfl ?_
  intro p e s m args below meth c s₁ B hml hv
  obtain ⟨rfl, hsz, hP, hK, hF, hI⟩ := hv
  have hts := atoms_spec (ws := .code y b nL ret :: gx_U) B.pre
  have hown : s.vm.findClass own = some m.cls := by rw [ho]; exact findClass_of_methodNamed B.named
  subst hsz
  rw [lg_entry_eq]
  exact body (p, l, e, rm, s, m, av.toArray, below, meth, c) ⟨⟨B.exec, B.bytes, hml, hown, fun w h => hts w (List.mem_cons_of_mem _ h)⟩, B.notSynchronized, hK, hF, hI⟩ rfl rfl rfl B.returns s.heap [] _ hP va_S.rf (lv_entry av hlen)
