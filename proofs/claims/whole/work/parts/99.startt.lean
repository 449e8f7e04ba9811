/-! THE START: what the tables and the given say -/
theorem ki_X10 : Cond.instantiable RX10 12 ∈ gx_U := gx_in 75 (by decide +kernel) (by decide +kernel)
theorem kn_X10 : Cond.initialized RX10 ∈ gx_U := gx_in 56 (by decide +kernel) (by decide +kernel)
theorem kd_X10 : ∀ j, j < 12 → defaultValue (tyX10 j) = vp_V [.null, .null, .null, .null, .null, .null, .null, .null, .null, .int 0, .int 0, .int 0] j := fun j hj => match j, hj with | 0, _ => rfl | 1, _ => rfl | 2, _ => rfl | 3, _ => rfl | 4, _ => rfl | 5, _ => rfl | 6, _ => rfl | 7, _ => rfl | 8, _ => rfl | 9, _ => rfl | 10, _ => rfl | 11, _ => rfl | n + 12, h => absurd h (by omega)
theorem ki_X11 : Cond.instantiable RX11 42 ∈ gx_U := gx_in 994 (by decide +kernel) (by decide +kernel)
theorem kn_X11 : Cond.initialized RX11 ∈ gx_U := gx_in 67 (by decide +kernel) (by decide +kernel)
theorem kd_X11 : ∀ j, j < 42 → defaultValue (tyX11 j) = vp_V [.null, .null, .null, .int 0, .int 0, .int 0, .null, .null, .null, .null, .null, .null, .int 0, .int 0, .int 0, .int 0, .int 0, .int 0, .int 0, .int 0, .int 0, .null, .null, .int 0, .null, .null, .int 0, .int 0, .null, .null, .int 0, .null, .null, .null, .null, .int 0, .null, .null, .null, .int 0, .int 0, .null] j := fun j hj => match j, hj with | 0, _ => rfl | 1, _ => rfl | 2, _ => rfl | 3, _ => rfl | 4, _ => rfl | 5, _ => rfl | 6, _ => rfl | 7, _ => rfl | 8, _ => rfl | 9, _ => rfl | 10, _ => rfl | 11, _ => rfl | 12, _ => rfl | 13, _ => rfl | 14, _ => rfl | 15, _ => rfl | 16, _ => rfl | 17, _ => rfl | 18, _ => rfl | 19, _ => rfl | 20, _ => rfl | 21, _ => rfl | 22, _ => rfl | 23, _ => rfl | 24, _ => rfl | 25, _ => rfl | 26, _ => rfl | 27, _ => rfl | 28, _ => rfl | 29, _ => rfl | 30, _ => rfl | 31, _ => rfl | 32, _ => rfl | 33, _ => rfl | 34, _ => rfl | 35, _ => rfl | 36, _ => rfl | 37, _ => rfl | 38, _ => rfl | 39, _ => rfl | 40, _ => rfl | 41, _ => rfl | n + 42, h => absurd h (by omega)
theorem kl_L_7 : Cond.classLink R_law 7 RX10 ∈ gx_U := gx_in 74 (by decide +kernel) (by decide +kernel)
theorem kx_L_9 : gx_cI R_law 9 yX10_init cX10_init 1 0 := ⟨⟨gx_in 76 (by decide +kernel) (by decide +kernel), gx_in 77 (by decide +kernel) (by decide +kernel), gx_in 56 (by decide +kernel) (by decide +kernel), gx_in 78 (by decide +kernel) (by decide +kernel)⟩, rfl, by decide, by decide, by decide +kernel⟩
theorem kl_L_10 : Cond.classLink R_law 10 RX11 ∈ gx_U := gx_in 993 (by decide +kernel) (by decide +kernel)
theorem kx_L_12 : gx_cI R_law 12 yX11_init cX11_init 2 0 := ⟨⟨gx_in 995 (by decide +kernel) (by decide +kernel), gx_in 996 (by decide +kernel) (by decide +kernel), gx_in 67 (by decide +kernel) (by decide +kernel), gx_in 997 (by decide +kernel) (by decide +kernel)⟩, rfl, by decide, by decide, by decide +kernel⟩
theorem sT_a {args : Array Value} {s : State} {ty : FieldType} (h : (Cond.arrayClass ty).before args s = true) : ∃ c, ArrOfT s c ty ∧ s.vm.findClass ("[" ++ ty.toString) = some c := by
  obtain ⟨c, k, comp, h1, h2, h3⟩ := Cond.arrayClass_spec h
  exact ⟨c, fun n z => ⟨fun k h => (by cases h), k, h2, comp, h3⟩, h1⟩
theorem sT_aa {args : Array Value} {s : State} {ty : FieldType} (h : (Cond.arrayOver (.array ty)).before args s = true) : ∃ c, ArrOfT s c (.array ty) ∧ s.vm.findClass ("[" ++ (FieldType.array ty).toString) = some c := by
  obtain ⟨comp, c, k, h1, h2, h3, h4, h5⟩ := cx_spec h
  exact ⟨c, fun n z => ⟨fun k h => (by cases h), k, h3, comp, h4⟩, h5⟩
theorem sT_o {args : Array Value} {s : State} {C : String} (h : (Cond.arrayOver (.object C)).before args s = true) : ∃ c, ArrOfT s c (.object C) ∧ va_RA s c (.object C) := by
  obtain ⟨comp, c, k, h1, h2, h3, h4, h5⟩ := Cond.arrayOver_spec h
  exact ⟨c, fun n z => ⟨fun k h => (by cases h), k, h3, comp, h4⟩, k, comp, h3, h4, h1, h5⟩
def sT_ty : List FieldType := [.int, .array .int, .object "GreenLine$Part", .object "GreenLine$Signal", .object "GreenLine$Channel", .object "GreenLine$Program", .byte, .boolean, .long]
def sT_tm (i : Nat) : Term := .string "GreenLine$Scanner" ((gx_sx.getD i (0, "")).1)
set_option maxHeartbeats 4000000 in
set_option maxRecDepth 20000 in
theorem sT_K {b : Nat} {s : State} (hts : ∀ w ∈ lw_tbl, w.before #[Value.ref b] s = true) : ∃ (D : va_G) (ca : Nat → ClassId), va_K D vwCl (gx_ty ca) s := by
  have hU : ∀ w ∈ gx_U, w.before #[Value.ref b] s = true := fun w hw => hts w (List.mem_filter.mp hw).1
  have k1 : ∀ k : Nat, ∃ p : ClassId × (Nat → Nat), ∀ q : vw_C, vwCl[k]? = some q → u_Kn s q.1 q.2.1 q.2.2 p.1 p.2 := by
    intro k
    match k with
    | 0 => obtain ⟨c, i, h⟩ := u_known (C := RX0) (T := TX0) (N := 7) (n := 7) hU cl_X0.2.1 (hU _ ki_X0); exact ⟨(c, i), fun q hq => by cases hq; exact h⟩
    | 1 => obtain ⟨c, i, h⟩ := u_known (C := RX1) (T := TX1) (N := 9) (n := 9) hU cl_X1.2.1 (hU _ ki_X1); exact ⟨(c, i), fun q hq => by cases hq; exact h⟩
    | 2 => obtain ⟨c, i, h⟩ := u_known (C := RX2) (T := TX2) (N := 6) (n := 6) hU cl_X2.2.1 (hU _ ki_X2); exact ⟨(c, i), fun q hq => by cases hq; exact h⟩
    | 3 => obtain ⟨c, i, h⟩ := u_known (C := RX3) (T := TX3) (N := 5) (n := 5) hU cl_X3.2.1 (hU _ ki_X3); exact ⟨(c, i), fun q hq => by cases hq; exact h⟩
    | 4 => obtain ⟨c, i, h⟩ := u_known (C := RX4) (T := TX4) (N := 4) (n := 4) hU cl_X4.2.1 (hU _ ki_X4); exact ⟨(c, i), fun q hq => by cases hq; exact h⟩
    | 5 => obtain ⟨c, i, h⟩ := u_known (C := RX5) (T := TX5) (N := 17) (n := 17) hU cl_X5.2.1 (hU _ ki_X5); exact ⟨(c, i), fun q hq => by cases hq; exact h⟩
    | 6 => obtain ⟨c, i, h⟩ := u_known (C := RX6) (T := TX6) (N := 6) (n := 6) hU cl_X6.2.1 (hU _ ki_X6); exact ⟨(c, i), fun q hq => by cases hq; exact h⟩
    | 7 => obtain ⟨c, i, h⟩ := u_known (C := RX7) (T := TX7) (N := 1) (n := 1) hU cl_X7.2.1 (hU _ ki_X7); exact ⟨(c, i), fun q hq => by cases hq; exact h⟩
    | 8 => obtain ⟨c, i, h⟩ := u_known (C := RX8) (T := TX8) (N := 10) (n := 10) hU cl_X8.2.1 (hU _ ki_X8); exact ⟨(c, i), fun q hq => by cases hq; exact h⟩
    | 9 => obtain ⟨c, i, h⟩ := u_known (C := RX9) (T := TX9) (N := 2) (n := 2) hU cl_X9.2.1 (hU _ ki_X9); exact ⟨(c, i), fun q hq => by cases hq; exact h⟩
    | 10 => obtain ⟨c, i, h⟩ := u_known (C := RX10) (T := TX10) (N := 12) (n := 12) hU cl_X10.2.1 (hU _ ki_X10); exact ⟨(c, i), fun q hq => by cases hq; exact h⟩
    | 11 => obtain ⟨c, i, h⟩ := u_known (C := RX11) (T := TX11) (N := 42) (n := 42) hU cl_X11.2.1 (hU _ ki_X11); exact ⟨(c, i), fun q hq => by cases hq; exact h⟩
    | k + 12 => exact ⟨(0, fun _ => 0), fun q hq => by simp [vwCl] at hq⟩
  have k2 : ∀ k : Nat, ∃ c : ClassId, ∀ ty, sT_ty[k]? = some ty → ArrOfT s c ty ∧ va_RA s c ty := by
    intro k
    match k with
    | 0 => obtain ⟨c, h1, h2⟩ := sT_a (hU _ ka_int); exact ⟨c, fun ty h => by cases h; exact ⟨h1, h2⟩⟩
    | 1 => obtain ⟨c, h1, h2⟩ := sT_aa (ty := .int) (hts _ (List.mem_of_getElem? (i := 284) (by decide +kernel))); exact ⟨c, fun ty h => by cases h; exact ⟨h1, h2⟩⟩
    | 2 => obtain ⟨c, h1⟩ := sT_o (C := "GreenLine$Part") (hts _ (List.mem_of_getElem? (i := 104) (by decide +kernel))); exact ⟨c, fun ty h => by cases h; exact h1⟩
    | 3 => obtain ⟨c, h1⟩ := sT_o (C := "GreenLine$Signal") (hts _ (List.mem_of_getElem? (i := 95) (by decide +kernel))); exact ⟨c, fun ty h => by cases h; exact h1⟩
    | 4 => obtain ⟨c, h1⟩ := sT_o (C := "GreenLine$Channel") (hts _ (List.mem_of_getElem? (i := 97) (by decide +kernel))); exact ⟨c, fun ty h => by cases h; exact h1⟩
    | 5 => obtain ⟨c, h1⟩ := sT_o (C := "GreenLine$Program") (hts _ (List.mem_of_getElem? (i := 222) (by decide +kernel))); exact ⟨c, fun ty h => by cases h; exact h1⟩
    | 6 => obtain ⟨c, h1, h2⟩ := sT_a (hU _ ka_byte); exact ⟨c, fun ty h => by cases h; exact ⟨h1, h2⟩⟩
    | 7 => obtain ⟨c, h1, h2⟩ := sT_a (hU _ ka_boolean); exact ⟨c, fun ty h => by cases h; exact ⟨h1, h2⟩⟩
    | 8 => obtain ⟨c, h1, h2⟩ := sT_a (hU _ ka_long); exact ⟨c, fun ty h => by cases h; exact ⟨h1, h2⟩⟩
    | k + 9 => exact ⟨0, fun ty h => by simp [sT_ty] at h⟩
  obtain ⟨f, hf⟩ := Classical.axiomOfChoice k1
  obtain ⟨ca, hca⟩ := Classical.axiomOfChoice k2
  refine ⟨(fun k => (f k).1, fun k => (f k).2), ca, fun c q hq => hf c q hq, fun k q hq => ?_⟩
  match k, hq with
  | 0, hq => cases hq; exact hca 0 _ rfl
  | 1, hq => cases hq; exact hca 1 _ rfl
  | 2, hq => cases hq; exact hca 2 _ rfl
  | 3, hq => cases hq; exact hca 3 _ rfl
  | 4, hq => cases hq; exact hca 4 _ rfl
  | 5, hq => cases hq; exact hca 5 _ rfl
  | 6, hq => cases hq; exact hca 6 _ rfl
  | 7, hq => cases hq; exact hca 7 _ rfl
  | 8, hq => cases hq; exact hca 8 _ rfl
  | k + 9, hq => simp [gx_ty] at hq
set_option maxHeartbeats 4000000 in
set_option maxRecDepth 20000 in
theorem sT_I {b : Nat} {s : State} (hts : ∀ w ∈ lw_tbl, w.before #[Value.ref b] s = true) {w : gx_V} {ca : Nat → ClassId} (hK : va_K w.1 vwCl (gx_ty ca) s) : gx_I ca w s := by
  refine ⟨hK, fun q hq => ?_, fun ty hty => ?_⟩
  · unfold gx_nestI at hq
    simp only [List.mem_cons, List.not_mem_nil, or_false] at hq
    rcases hq with rfl | rfl | rfl | rfl | rfl | rfl | rfl | rfl
    · exact va_Nw.of rfl (hts _ (List.mem_of_getElem? (i := 106) (by decide +kernel)))
    · exact va_Nw.of rfl (hts _ (List.mem_of_getElem? (i := 224) (by decide +kernel)))
    · exact va_Nw.of rfl (hts _ (List.mem_of_getElem? (i := 251) (by decide +kernel)))
    · exact va_Nw.of rfl (hts _ (List.mem_of_getElem? (i := 321) (by decide +kernel)))
    · exact va_Nw.of rfl (hts _ (List.mem_of_getElem? (i := 327) (by decide +kernel)))
    · exact va_Nw.of rfl (hts _ (List.mem_of_getElem? (i := 355) (by decide +kernel)))
    · exact va_Nw.of rfl (hts _ (List.mem_of_getElem? (i := 413) (by decide +kernel)))
    · exact va_Nw.of rfl (hts _ (List.mem_of_getElem? (i := 422) (by decide +kernel)))
  · unfold gx_ao at hty
    simp only [List.mem_cons, List.not_mem_nil, or_false] at hty
    rcases hty with rfl | rfl | rfl | rfl | rfl
    · have h : (Cond.arrayOver (.object "GreenLine$Signal")).before #[Value.ref b] s = true := hts _ (List.mem_of_getElem? (i := 95) (by decide +kernel))
      exact h
    · have h : (Cond.arrayOver (.object "GreenLine$Channel")).before #[Value.ref b] s = true := hts _ (List.mem_of_getElem? (i := 97) (by decide +kernel))
      exact h
    · have h : (Cond.arrayOver (.object "GreenLine$Part")).before #[Value.ref b] s = true := hts _ (List.mem_of_getElem? (i := 104) (by decide +kernel))
      exact h
    · have h : (Cond.arrayOver (.object "GreenLine$Program")).before #[Value.ref b] s = true := hts _ (List.mem_of_getElem? (i := 222) (by decide +kernel))
      exact h
    · have h : (Cond.arrayOver (.array .int)).before #[Value.ref b] s = true := hts _ (List.mem_of_getElem? (i := 284) (by decide +kernel))
      exact h
set_option maxHeartbeats 8000000 in
set_option maxRecDepth 20000 in
theorem sT_S {b : Nat} {s : State} (hg : (Jvm.Cond.and given_1 narrow_1).before #[Value.ref b] s = true) {A : Nat → Prop} (hA : ∀ a : Nat, a < s.heap.size → ¬ A a) : ∃ adK adV : Nat → Nat, vk_S 12 gx_sl gx_sb adK adV A s s.heap ∧ ∀ i : Nat, i < 12 → (sT_tm i).eval #[Value.ref b] s none [] s = some (.ref (adK i)) := by
  have hs := flat_of_before _ hg
  have p0 : ∀ j : Nat, 0 < j → j < 12 → (Cond.not (Cond.eq (sT_tm 0) (sT_tm j))).before #[Value.ref b] s = true := fun j h1 h2 => match j, h1, h2 with
      | 0, h, _ => absurd h (by omega)
      | 1, _, _ => hs _ (List.mem_of_getElem? (i := 37) (by decide +kernel))
      | 2, _, _ => hs _ (List.mem_of_getElem? (i := 44) (by decide +kernel))
      | 3, _, _ => hs _ (List.mem_of_getElem? (i := 53) (by decide +kernel))
      | 4, _, _ => hs _ (List.mem_of_getElem? (i := 63) (by decide +kernel))
      | 5, _, _ => hs _ (List.mem_of_getElem? (i := 74) (by decide +kernel))
      | 6, _, _ => hs _ (List.mem_of_getElem? (i := 88) (by decide +kernel))
      | 7, _, _ => hs _ (List.mem_of_getElem? (i := 103) (by decide +kernel))
      | 8, _, _ => hs _ (List.mem_of_getElem? (i := 118) (by decide +kernel))
      | 9, _, _ => hs _ (List.mem_of_getElem? (i := 134) (by decide +kernel))
      | 10, _, _ => hs _ (List.mem_of_getElem? (i := 153) (by decide +kernel))
      | 11, _, _ => hs _ (List.mem_of_getElem? (i := 172) (by decide +kernel))
      | j + 12, _, h => absurd h (by omega)
  have p1 : ∀ j : Nat, 1 < j → j < 12 → (Cond.not (Cond.eq (sT_tm 1) (sT_tm j))).before #[Value.ref b] s = true := fun j h1 h2 => match j, h1, h2 with
      | 0, h, _ => absurd h (by omega)
      | 1, h, _ => absurd h (by omega)
      | 2, _, _ => hs _ (List.mem_of_getElem? (i := 45) (by decide +kernel))
      | 3, _, _ => hs _ (List.mem_of_getElem? (i := 54) (by decide +kernel))
      | 4, _, _ => hs _ (List.mem_of_getElem? (i := 64) (by decide +kernel))
      | 5, _, _ => hs _ (List.mem_of_getElem? (i := 75) (by decide +kernel))
      | 6, _, _ => hs _ (List.mem_of_getElem? (i := 89) (by decide +kernel))
      | 7, _, _ => hs _ (List.mem_of_getElem? (i := 104) (by decide +kernel))
      | 8, _, _ => hs _ (List.mem_of_getElem? (i := 119) (by decide +kernel))
      | 9, _, _ => hs _ (List.mem_of_getElem? (i := 135) (by decide +kernel))
      | 10, _, _ => hs _ (List.mem_of_getElem? (i := 154) (by decide +kernel))
      | 11, _, _ => hs _ (List.mem_of_getElem? (i := 173) (by decide +kernel))
      | j + 12, _, h => absurd h (by omega)
  have p2 : ∀ j : Nat, 2 < j → j < 12 → (Cond.not (Cond.eq (sT_tm 2) (sT_tm j))).before #[Value.ref b] s = true := fun j h1 h2 => match j, h1, h2 with
      | 0, h, _ => absurd h (by omega)
      | 1, h, _ => absurd h (by omega)
      | 2, h, _ => absurd h (by omega)
      | 3, _, _ => hs _ (List.mem_of_getElem? (i := 55) (by decide +kernel))
      | 4, _, _ => hs _ (List.mem_of_getElem? (i := 65) (by decide +kernel))
      | 5, _, _ => hs _ (List.mem_of_getElem? (i := 76) (by decide +kernel))
      | 6, _, _ => hs _ (List.mem_of_getElem? (i := 90) (by decide +kernel))
      | 7, _, _ => hs _ (List.mem_of_getElem? (i := 105) (by decide +kernel))
      | 8, _, _ => hs _ (List.mem_of_getElem? (i := 120) (by decide +kernel))
      | 9, _, _ => hs _ (List.mem_of_getElem? (i := 136) (by decide +kernel))
      | 10, _, _ => hs _ (List.mem_of_getElem? (i := 155) (by decide +kernel))
      | 11, _, _ => hs _ (List.mem_of_getElem? (i := 174) (by decide +kernel))
      | j + 12, _, h => absurd h (by omega)
  have p3 : ∀ j : Nat, 3 < j → j < 12 → (Cond.not (Cond.eq (sT_tm 3) (sT_tm j))).before #[Value.ref b] s = true := fun j h1 h2 => match j, h1, h2 with
      | 0, h, _ => absurd h (by omega)
      | 1, h, _ => absurd h (by omega)
      | 2, h, _ => absurd h (by omega)
      | 3, h, _ => absurd h (by omega)
      | 4, _, _ => hs _ (List.mem_of_getElem? (i := 66) (by decide +kernel))
      | 5, _, _ => hs _ (List.mem_of_getElem? (i := 77) (by decide +kernel))
      | 6, _, _ => hs _ (List.mem_of_getElem? (i := 91) (by decide +kernel))
      | 7, _, _ => hs _ (List.mem_of_getElem? (i := 106) (by decide +kernel))
      | 8, _, _ => hs _ (List.mem_of_getElem? (i := 121) (by decide +kernel))
      | 9, _, _ => hs _ (List.mem_of_getElem? (i := 137) (by decide +kernel))
      | 10, _, _ => hs _ (List.mem_of_getElem? (i := 156) (by decide +kernel))
      | 11, _, _ => hs _ (List.mem_of_getElem? (i := 175) (by decide +kernel))
      | j + 12, _, h => absurd h (by omega)
  have p4 : ∀ j : Nat, 4 < j → j < 12 → (Cond.not (Cond.eq (sT_tm 4) (sT_tm j))).before #[Value.ref b] s = true := fun j h1 h2 => match j, h1, h2 with
      | 0, h, _ => absurd h (by omega)
      | 1, h, _ => absurd h (by omega)
      | 2, h, _ => absurd h (by omega)
      | 3, h, _ => absurd h (by omega)
      | 4, h, _ => absurd h (by omega)
      | 5, _, _ => hs _ (List.mem_of_getElem? (i := 78) (by decide +kernel))
      | 6, _, _ => hs _ (List.mem_of_getElem? (i := 92) (by decide +kernel))
      | 7, _, _ => hs _ (List.mem_of_getElem? (i := 107) (by decide +kernel))
      | 8, _, _ => hs _ (List.mem_of_getElem? (i := 122) (by decide +kernel))
      | 9, _, _ => hs _ (List.mem_of_getElem? (i := 138) (by decide +kernel))
      | 10, _, _ => hs _ (List.mem_of_getElem? (i := 157) (by decide +kernel))
      | 11, _, _ => hs _ (List.mem_of_getElem? (i := 176) (by decide +kernel))
      | j + 12, _, h => absurd h (by omega)
  have p5 : ∀ j : Nat, 5 < j → j < 12 → (Cond.not (Cond.eq (sT_tm 5) (sT_tm j))).before #[Value.ref b] s = true := fun j h1 h2 => match j, h1, h2 with
      | 0, h, _ => absurd h (by omega)
      | 1, h, _ => absurd h (by omega)
      | 2, h, _ => absurd h (by omega)
      | 3, h, _ => absurd h (by omega)
      | 4, h, _ => absurd h (by omega)
      | 5, h, _ => absurd h (by omega)
      | 6, _, _ => hs _ (List.mem_of_getElem? (i := 93) (by decide +kernel))
      | 7, _, _ => hs _ (List.mem_of_getElem? (i := 108) (by decide +kernel))
      | 8, _, _ => hs _ (List.mem_of_getElem? (i := 123) (by decide +kernel))
      | 9, _, _ => hs _ (List.mem_of_getElem? (i := 139) (by decide +kernel))
      | 10, _, _ => hs _ (List.mem_of_getElem? (i := 158) (by decide +kernel))
      | 11, _, _ => hs _ (List.mem_of_getElem? (i := 177) (by decide +kernel))
      | j + 12, _, h => absurd h (by omega)
  have p6 : ∀ j : Nat, 6 < j → j < 12 → (Cond.not (Cond.eq (sT_tm 6) (sT_tm j))).before #[Value.ref b] s = true := fun j h1 h2 => match j, h1, h2 with
      | 0, h, _ => absurd h (by omega)
      | 1, h, _ => absurd h (by omega)
      | 2, h, _ => absurd h (by omega)
      | 3, h, _ => absurd h (by omega)
      | 4, h, _ => absurd h (by omega)
      | 5, h, _ => absurd h (by omega)
      | 6, h, _ => absurd h (by omega)
      | 7, _, _ => hs _ (List.mem_of_getElem? (i := 109) (by decide +kernel))
      | 8, _, _ => hs _ (List.mem_of_getElem? (i := 124) (by decide +kernel))
      | 9, _, _ => hs _ (List.mem_of_getElem? (i := 140) (by decide +kernel))
      | 10, _, _ => hs _ (List.mem_of_getElem? (i := 159) (by decide +kernel))
      | 11, _, _ => hs _ (List.mem_of_getElem? (i := 178) (by decide +kernel))
      | j + 12, _, h => absurd h (by omega)
  have p7 : ∀ j : Nat, 7 < j → j < 12 → (Cond.not (Cond.eq (sT_tm 7) (sT_tm j))).before #[Value.ref b] s = true := fun j h1 h2 => match j, h1, h2 with
      | 0, h, _ => absurd h (by omega)
      | 1, h, _ => absurd h (by omega)
      | 2, h, _ => absurd h (by omega)
      | 3, h, _ => absurd h (by omega)
      | 4, h, _ => absurd h (by omega)
      | 5, h, _ => absurd h (by omega)
      | 6, h, _ => absurd h (by omega)
      | 7, h, _ => absurd h (by omega)
      | 8, _, _ => hs _ (List.mem_of_getElem? (i := 125) (by decide +kernel))
      | 9, _, _ => hs _ (List.mem_of_getElem? (i := 141) (by decide +kernel))
      | 10, _, _ => hs _ (List.mem_of_getElem? (i := 160) (by decide +kernel))
      | 11, _, _ => hs _ (List.mem_of_getElem? (i := 179) (by decide +kernel))
      | j + 12, _, h => absurd h (by omega)
  have p8 : ∀ j : Nat, 8 < j → j < 12 → (Cond.not (Cond.eq (sT_tm 8) (sT_tm j))).before #[Value.ref b] s = true := fun j h1 h2 => match j, h1, h2 with
      | 0, h, _ => absurd h (by omega)
      | 1, h, _ => absurd h (by omega)
      | 2, h, _ => absurd h (by omega)
      | 3, h, _ => absurd h (by omega)
      | 4, h, _ => absurd h (by omega)
      | 5, h, _ => absurd h (by omega)
      | 6, h, _ => absurd h (by omega)
      | 7, h, _ => absurd h (by omega)
      | 8, h, _ => absurd h (by omega)
      | 9, _, _ => hs _ (List.mem_of_getElem? (i := 142) (by decide +kernel))
      | 10, _, _ => hs _ (List.mem_of_getElem? (i := 161) (by decide +kernel))
      | 11, _, _ => hs _ (List.mem_of_getElem? (i := 180) (by decide +kernel))
      | j + 12, _, h => absurd h (by omega)
  have p9 : ∀ j : Nat, 9 < j → j < 12 → (Cond.not (Cond.eq (sT_tm 9) (sT_tm j))).before #[Value.ref b] s = true := fun j h1 h2 => match j, h1, h2 with
      | 0, h, _ => absurd h (by omega)
      | 1, h, _ => absurd h (by omega)
      | 2, h, _ => absurd h (by omega)
      | 3, h, _ => absurd h (by omega)
      | 4, h, _ => absurd h (by omega)
      | 5, h, _ => absurd h (by omega)
      | 6, h, _ => absurd h (by omega)
      | 7, h, _ => absurd h (by omega)
      | 8, h, _ => absurd h (by omega)
      | 9, h, _ => absurd h (by omega)
      | 10, _, _ => hs _ (List.mem_of_getElem? (i := 162) (by decide +kernel))
      | 11, _, _ => hs _ (List.mem_of_getElem? (i := 181) (by decide +kernel))
      | j + 12, _, h => absurd h (by omega)
  have p10 : ∀ j : Nat, 10 < j → j < 12 → (Cond.not (Cond.eq (sT_tm 10) (sT_tm j))).before #[Value.ref b] s = true := fun j h1 h2 => match j, h1, h2 with
      | 0, h, _ => absurd h (by omega)
      | 1, h, _ => absurd h (by omega)
      | 2, h, _ => absurd h (by omega)
      | 3, h, _ => absurd h (by omega)
      | 4, h, _ => absurd h (by omega)
      | 5, h, _ => absurd h (by omega)
      | 6, h, _ => absurd h (by omega)
      | 7, h, _ => absurd h (by omega)
      | 8, h, _ => absurd h (by omega)
      | 9, h, _ => absurd h (by omega)
      | 10, h, _ => absurd h (by omega)
      | 11, _, _ => hs _ (List.mem_of_getElem? (i := 182) (by decide +kernel))
      | j + 12, _, h => absurd h (by omega)
  have hp : ∀ i j : Nat, i < j → j < 12 → (Cond.not (Cond.eq (sT_tm i) (sT_tm j))).before #[Value.ref b] s = true := fun i j h1 h2 => match i, h1 with
    | 0, h => p0 j h h2
    | 1, h => p1 j h h2
    | 2, h => p2 j h h2
    | 3, h => p3 j h h2
    | 4, h => p4 j h h2
    | 5, h => p5 j h h2
    | 6, h => p6 j h h2
    | 7, h => p7 j h h2
    | 8, h => p8 j h h2
    | 9, h => p9 j h h2
    | 10, h => p10 j h h2
    | i + 11, h => absurd h (by omega)
  refine vk_Sof (tm := sT_tm) (len := gx_sl) (byt := gx_sb) (by decide) (fun i hi => ?_) (fun i hi => ?_) (fun i hi => ?_) (fun i hi => ?_) (fun i hi j hj => ?_) (fun i j hi hj hij => ?_) hA
  · exact match i, hi with
      | 0, _ => hs _ (List.mem_of_getElem? (i := 20) (by decide +kernel))
      | 1, _ => hs _ (List.mem_of_getElem? (i := 28) (by decide +kernel))
      | 2, _ => hs _ (List.mem_of_getElem? (i := 38) (by decide +kernel))
      | 3, _ => hs _ (List.mem_of_getElem? (i := 46) (by decide +kernel))
      | 4, _ => hs _ (List.mem_of_getElem? (i := 56) (by decide +kernel))
      | 5, _ => hs _ (List.mem_of_getElem? (i := 67) (by decide +kernel))
      | 6, _ => hs _ (List.mem_of_getElem? (i := 79) (by decide +kernel))
      | 7, _ => hs _ (List.mem_of_getElem? (i := 94) (by decide +kernel))
      | 8, _ => hs _ (List.mem_of_getElem? (i := 110) (by decide +kernel))
      | 9, _ => hs _ (List.mem_of_getElem? (i := 126) (by decide +kernel))
      | 10, _ => hs _ (List.mem_of_getElem? (i := 143) (by decide +kernel))
      | 11, _ => hs _ (List.mem_of_getElem? (i := 163) (by decide +kernel))
      | i + 12, h => absurd h (by omega)
  · exact match i, hi with
      | 0, _ => hs _ (List.mem_of_getElem? (i := 21) (by decide +kernel))
      | 1, _ => hs _ (List.mem_of_getElem? (i := 29) (by decide +kernel))
      | 2, _ => hs _ (List.mem_of_getElem? (i := 39) (by decide +kernel))
      | 3, _ => hs _ (List.mem_of_getElem? (i := 47) (by decide +kernel))
      | 4, _ => hs _ (List.mem_of_getElem? (i := 57) (by decide +kernel))
      | 5, _ => hs _ (List.mem_of_getElem? (i := 68) (by decide +kernel))
      | 6, _ => hs _ (List.mem_of_getElem? (i := 80) (by decide +kernel))
      | 7, _ => hs _ (List.mem_of_getElem? (i := 95) (by decide +kernel))
      | 8, _ => hs _ (List.mem_of_getElem? (i := 111) (by decide +kernel))
      | 9, _ => hs _ (List.mem_of_getElem? (i := 127) (by decide +kernel))
      | 10, _ => hs _ (List.mem_of_getElem? (i := 144) (by decide +kernel))
      | 11, _ => hs _ (List.mem_of_getElem? (i := 164) (by decide +kernel))
      | i + 12, h => absurd h (by omega)
  · exact match i, hi with
      | 0, _ => hs _ (List.mem_of_getElem? (i := 22) (by decide +kernel))
      | 1, _ => hs _ (List.mem_of_getElem? (i := 30) (by decide +kernel))
      | 2, _ => hs _ (List.mem_of_getElem? (i := 40) (by decide +kernel))
      | 3, _ => hs _ (List.mem_of_getElem? (i := 48) (by decide +kernel))
      | 4, _ => hs _ (List.mem_of_getElem? (i := 58) (by decide +kernel))
      | 5, _ => hs _ (List.mem_of_getElem? (i := 69) (by decide +kernel))
      | 6, _ => hs _ (List.mem_of_getElem? (i := 81) (by decide +kernel))
      | 7, _ => hs _ (List.mem_of_getElem? (i := 96) (by decide +kernel))
      | 8, _ => hs _ (List.mem_of_getElem? (i := 112) (by decide +kernel))
      | 9, _ => hs _ (List.mem_of_getElem? (i := 128) (by decide +kernel))
      | 10, _ => hs _ (List.mem_of_getElem? (i := 145) (by decide +kernel))
      | 11, _ => hs _ (List.mem_of_getElem? (i := 165) (by decide +kernel))
      | i + 12, h => absurd h (by omega)
  · exact match i, hi with
      | 0, _ => hs _ (List.mem_of_getElem? (i := 23) (by decide +kernel))
      | 1, _ => hs _ (List.mem_of_getElem? (i := 31) (by decide +kernel))
      | 2, _ => hs _ (List.mem_of_getElem? (i := 41) (by decide +kernel))
      | 3, _ => hs _ (List.mem_of_getElem? (i := 49) (by decide +kernel))
      | 4, _ => hs _ (List.mem_of_getElem? (i := 59) (by decide +kernel))
      | 5, _ => hs _ (List.mem_of_getElem? (i := 70) (by decide +kernel))
      | 6, _ => hs _ (List.mem_of_getElem? (i := 82) (by decide +kernel))
      | 7, _ => hs _ (List.mem_of_getElem? (i := 97) (by decide +kernel))
      | 8, _ => hs _ (List.mem_of_getElem? (i := 113) (by decide +kernel))
      | 9, _ => hs _ (List.mem_of_getElem? (i := 129) (by decide +kernel))
      | 10, _ => hs _ (List.mem_of_getElem? (i := 146) (by decide +kernel))
      | 11, _ => hs _ (List.mem_of_getElem? (i := 166) (by decide +kernel))
      | i + 12, h => absurd h (by omega)
  · exact match i, hi, j, hj with
      | 0, _, 0, _ => hs _ (List.mem_of_getElem? (i := 24) (by decide +kernel))
      | 0, _, 1, _ => hs _ (List.mem_of_getElem? (i := 25) (by decide +kernel))
      | 0, _, 2, _ => hs _ (List.mem_of_getElem? (i := 26) (by decide +kernel))
      | 0, _, 3, _ => hs _ (List.mem_of_getElem? (i := 27) (by decide +kernel))
      | 1, _, 0, _ => hs _ (List.mem_of_getElem? (i := 32) (by decide +kernel))
      | 1, _, 1, _ => hs _ (List.mem_of_getElem? (i := 33) (by decide +kernel))
      | 1, _, 2, _ => hs _ (List.mem_of_getElem? (i := 34) (by decide +kernel))
      | 1, _, 3, _ => hs _ (List.mem_of_getElem? (i := 35) (by decide +kernel))
      | 1, _, 4, _ => hs _ (List.mem_of_getElem? (i := 36) (by decide +kernel))
      | 2, _, 0, _ => hs _ (List.mem_of_getElem? (i := 42) (by decide +kernel))
      | 2, _, 1, _ => hs _ (List.mem_of_getElem? (i := 43) (by decide +kernel))
      | 3, _, 0, _ => hs _ (List.mem_of_getElem? (i := 50) (by decide +kernel))
      | 3, _, 1, _ => hs _ (List.mem_of_getElem? (i := 51) (by decide +kernel))
      | 3, _, 2, _ => hs _ (List.mem_of_getElem? (i := 52) (by decide +kernel))
      | 4, _, 0, _ => hs _ (List.mem_of_getElem? (i := 60) (by decide +kernel))
      | 4, _, 1, _ => hs _ (List.mem_of_getElem? (i := 61) (by decide +kernel))
      | 4, _, 2, _ => hs _ (List.mem_of_getElem? (i := 62) (by decide +kernel))
      | 5, _, 0, _ => hs _ (List.mem_of_getElem? (i := 71) (by decide +kernel))
      | 5, _, 1, _ => hs _ (List.mem_of_getElem? (i := 72) (by decide +kernel))
      | 5, _, 2, _ => hs _ (List.mem_of_getElem? (i := 73) (by decide +kernel))
      | 6, _, 0, _ => hs _ (List.mem_of_getElem? (i := 83) (by decide +kernel))
      | 6, _, 1, _ => hs _ (List.mem_of_getElem? (i := 84) (by decide +kernel))
      | 6, _, 2, _ => hs _ (List.mem_of_getElem? (i := 85) (by decide +kernel))
      | 6, _, 3, _ => hs _ (List.mem_of_getElem? (i := 86) (by decide +kernel))
      | 6, _, 4, _ => hs _ (List.mem_of_getElem? (i := 87) (by decide +kernel))
      | 7, _, 0, _ => hs _ (List.mem_of_getElem? (i := 98) (by decide +kernel))
      | 7, _, 1, _ => hs _ (List.mem_of_getElem? (i := 99) (by decide +kernel))
      | 7, _, 2, _ => hs _ (List.mem_of_getElem? (i := 100) (by decide +kernel))
      | 7, _, 3, _ => hs _ (List.mem_of_getElem? (i := 101) (by decide +kernel))
      | 7, _, 4, _ => hs _ (List.mem_of_getElem? (i := 102) (by decide +kernel))
      | 8, _, 0, _ => hs _ (List.mem_of_getElem? (i := 114) (by decide +kernel))
      | 8, _, 1, _ => hs _ (List.mem_of_getElem? (i := 115) (by decide +kernel))
      | 8, _, 2, _ => hs _ (List.mem_of_getElem? (i := 116) (by decide +kernel))
      | 8, _, 3, _ => hs _ (List.mem_of_getElem? (i := 117) (by decide +kernel))
      | 9, _, 0, _ => hs _ (List.mem_of_getElem? (i := 130) (by decide +kernel))
      | 9, _, 1, _ => hs _ (List.mem_of_getElem? (i := 131) (by decide +kernel))
      | 9, _, 2, _ => hs _ (List.mem_of_getElem? (i := 132) (by decide +kernel))
      | 9, _, 3, _ => hs _ (List.mem_of_getElem? (i := 133) (by decide +kernel))
      | 10, _, 0, _ => hs _ (List.mem_of_getElem? (i := 147) (by decide +kernel))
      | 10, _, 1, _ => hs _ (List.mem_of_getElem? (i := 148) (by decide +kernel))
      | 10, _, 2, _ => hs _ (List.mem_of_getElem? (i := 149) (by decide +kernel))
      | 10, _, 3, _ => hs _ (List.mem_of_getElem? (i := 150) (by decide +kernel))
      | 10, _, 4, _ => hs _ (List.mem_of_getElem? (i := 151) (by decide +kernel))
      | 10, _, 5, _ => hs _ (List.mem_of_getElem? (i := 152) (by decide +kernel))
      | 11, _, 0, _ => hs _ (List.mem_of_getElem? (i := 167) (by decide +kernel))
      | 11, _, 1, _ => hs _ (List.mem_of_getElem? (i := 168) (by decide +kernel))
      | 11, _, 2, _ => hs _ (List.mem_of_getElem? (i := 169) (by decide +kernel))
      | 11, _, 3, _ => hs _ (List.mem_of_getElem? (i := 170) (by decide +kernel))
      | 11, _, 4, _ => hs _ (List.mem_of_getElem? (i := 171) (by decide +kernel))
      | 0, _, j + 4, h => absurd (show j + 4 < 4 from h) (by omega)
      | 1, _, j + 5, h => absurd (show j + 5 < 5 from h) (by omega)
      | 2, _, j + 2, h => absurd (show j + 2 < 2 from h) (by omega)
      | 3, _, j + 3, h => absurd (show j + 3 < 3 from h) (by omega)
      | 4, _, j + 3, h => absurd (show j + 3 < 3 from h) (by omega)
      | 5, _, j + 3, h => absurd (show j + 3 < 3 from h) (by omega)
      | 6, _, j + 5, h => absurd (show j + 5 < 5 from h) (by omega)
      | 7, _, j + 5, h => absurd (show j + 5 < 5 from h) (by omega)
      | 8, _, j + 4, h => absurd (show j + 4 < 4 from h) (by omega)
      | 9, _, j + 4, h => absurd (show j + 4 < 4 from h) (by omega)
      | 10, _, j + 6, h => absurd (show j + 6 < 6 from h) (by omega)
      | 11, _, j + 5, h => absurd (show j + 5 < 5 from h) (by omega)
      | i + 12, h, _, _ => absurd h (by omega)
  · rcases Nat.lt_or_gt_of_ne hij with h | h
    · exact Or.inl (hp i j h hj)
    · exact Or.inr (hp j i h hi)
set_option maxHeartbeats 4000000 in
set_option maxRecDepth 20000 in
theorem sT_F {b : Nat} {s : State} (hts : ∀ w ∈ lw_tbl, w.before #[Value.ref b] s = true) (hg : (Jvm.Cond.and given_1 narrow_1).before #[Value.ref b] s = true) {A : Nat → Prop} (hA : ∀ a : Nat, a < s.heap.size → ¬ A a) : ∃ d : gx_D, gx_F d A s s.heap := by
  have hs := flat_of_before _ hg
  obtain ⟨adK, adV, hS, he⟩ := sT_S hg hA
  obtain ⟨t, ht, hT⟩ := va_Tof (args := #[Value.ref b]) (s := s) (tm := .static "GreenLine" "GAINS" "[I") (ty := .int) (N := 8) (f := fun j => .int (gx_gains j)) (A := A) (by decide) (hs _ (List.mem_of_getElem? (i := 10) (by decide +kernel))) (va_eqt (hs _ (List.mem_of_getElem? (i := 11) (by decide +kernel)))) (fun i hi => va_eqt (match i, hi with
      | 0, _ => hs _ (List.mem_of_getElem? (i := 12) (by decide +kernel))
      | 1, _ => hs _ (List.mem_of_getElem? (i := 13) (by decide +kernel))
      | 2, _ => hs _ (List.mem_of_getElem? (i := 14) (by decide +kernel))
      | 3, _ => hs _ (List.mem_of_getElem? (i := 15) (by decide +kernel))
      | 4, _ => hs _ (List.mem_of_getElem? (i := 16) (by decide +kernel))
      | 5, _ => hs _ (List.mem_of_getElem? (i := 17) (by decide +kernel))
      | 6, _ => hs _ (List.mem_of_getElem? (i := 18) (by decide +kernel))
      | 7, _ => hs _ (List.mem_of_getElem? (i := 19) (by decide +kernel))
      | i + 8, h => absurd h (by omega))) hA
  refine ⟨(adK, adV, t), fun q hq => ?_, va_Zof (args := #[Value.ref b]) (hts _ (List.mem_of_getElem? (i := 616) (by decide +kernel))) (hts _ (List.mem_of_getElem? (i := 68) (by decide +kernel))) (va_eqt (hs _ (List.mem_of_getElem? (i := 4) (by decide +kernel)))) hA, va_Zqof (args := #[Value.ref b]) (hts _ (List.mem_of_getElem? (i := 632) (by decide +kernel))) (hts _ (List.mem_of_getElem? (i := 70) (by decide +kernel))) (hs _ (List.mem_of_getElem? (i := 5) (by decide +kernel))) hA, va_Zref (args := #[Value.ref b]) (hts _ (List.mem_of_getElem? (i := 923) (by decide +kernel))) (hts _ (List.mem_of_getElem? (i := 56) (by decide +kernel))) ht hA, hT, fun i hi => ?_, hS⟩
  · unfold gx_nest at hq
    simp only [List.mem_cons, List.not_mem_nil, or_false] at hq
    rcases hq with rfl | rfl | rfl | rfl | rfl | rfl | rfl
    · exact va_Nw.of rfl (hts _ (List.mem_of_getElem? (i := 474) (by decide +kernel)))
    · exact va_Nw.of rfl (hts _ (List.mem_of_getElem? (i := 537) (by decide +kernel)))
    · exact va_Nw.of rfl (hts _ (List.mem_of_getElem? (i := 531) (by decide +kernel)))
    · exact va_Nw.of rfl (hts _ (List.mem_of_getElem? (i := 532) (by decide +kernel)))
    · exact va_Nw.of rfl (hts _ (List.mem_of_getElem? (i := 593) (by decide +kernel)))
    · exact va_Nw.of rfl (hts _ (List.mem_of_getElem? (i := 708) (by decide +kernel)))
    · exact va_Nw.of rfl (hts _ (List.mem_of_getElem? (i := 844) (by decide +kernel)))
  · have e := he i hi
    match i, hi, e with
    | 0, _, e => exact vk_R.of (A := #[Value.ref b]) (hts _ (List.mem_of_getElem? (i := 602) (by decide +kernel))) e
    | 1, _, e => exact vk_R.of (A := #[Value.ref b]) (hts _ (List.mem_of_getElem? (i := 655) (by decide +kernel))) e
    | 2, _, e => exact vk_R.of (A := #[Value.ref b]) (hts _ (List.mem_of_getElem? (i := 656) (by decide +kernel))) e
    | 3, _, e => exact vk_R.of (A := #[Value.ref b]) (hts _ (List.mem_of_getElem? (i := 657) (by decide +kernel))) e
    | 4, _, e => exact vk_R.of (A := #[Value.ref b]) (hts _ (List.mem_of_getElem? (i := 658) (by decide +kernel))) e
    | 5, _, e => exact vk_R.of (A := #[Value.ref b]) (hts _ (List.mem_of_getElem? (i := 663) (by decide +kernel))) e
    | 6, _, e => exact vk_R.of (A := #[Value.ref b]) (hts _ (List.mem_of_getElem? (i := 664) (by decide +kernel))) e
    | 7, _, e => exact vk_R.of (A := #[Value.ref b]) (hts _ (List.mem_of_getElem? (i := 665) (by decide +kernel))) e
    | 8, _, e => exact vk_R.of (A := #[Value.ref b]) (hts _ (List.mem_of_getElem? (i := 666) (by decide +kernel))) e
    | 9, _, e => exact vk_R.of (A := #[Value.ref b]) (hts _ (List.mem_of_getElem? (i := 667) (by decide +kernel))) e
    | 10, _, e => exact vk_R.of (A := #[Value.ref b]) (hts _ (List.mem_of_getElem? (i := 668) (by decide +kernel))) e
    | 11, _, e => exact vk_R.of (A := #[Value.ref b]) (hts _ (List.mem_of_getElem? (i := 669) (by decide +kernel))) e
    | i + 12, h, _ => exact absurd h (by omega)
