def PW_X3 (ca : Nat → ClassId) (ad : Nat → Nat) : va_W := (ad 0, .inr (3, [.int 0, .int 0, .int 1, .int 0, .int 0])) :: []
theorem ext_X3 {ca : Nat → ClassId} {a b : Nat → Nat} (h : ∀ k, k < 1 → a k = b k) : PW_X3 ca a = PW_X3 ca b := by
  unfold PW_X3
  have e0 : a 0 = b 0 := h 0 (by omega)
  simp only [e0]
theorem len_X3 {ca : Nat → ClassId} {ad : Nat → Nat} : (PW_X3 ca ad).length = 1 := rfl
def rm_X3_init : Room := { frames := 1, cells := 0, slots := 0, locals := 20 }
set_option maxHeartbeats 4000000 in
set_option maxRecDepth 20000 in
theorem ct_X3_init {l : Launch} {ca : Nat → ClassId} {w : gx_V} : ct l ca w yX3_init cX3_init 1 rm_X3_init [] (.inr (3, [.int 0, .int 0, .int 0, .int 0, .int 0])) 0 0 (PW_X3 ca) :=
  ct_of (own := RX3) (by decide +kernel) rfl rfl (Nat.le_of_ble_eq_true rfl) (fun _ => rfl) (fun z h0 hC hl hR hr => by
    subst hl
    refine cw_eq (ws' := (h0, .inr (3, [.int 0, .int 0, .int 0, .int 0, .int 0])) :: []) rfl ?_
    refine cw_aload_n hC dX3_init_0 rfl 0 rfl ?_
    refine cw_obj hC ko_X3_3 ko_i ko_c (by rw [hR]; exact ⟨Nat.le_of_ble_eq_true rfl, Nat.le_of_ble_eq_true rfl⟩) (Nat.le_of_ble_eq_true rfl) dX3_init_1 ?_
    refine cw_aload_n hC dX3_init_4 rfl 0 rfl ?_
    refine cw_iconst (v := 0) hC dX3_init_5 (by decide) ?_
    refine cw_put hC cl_X3 fq_X3_9 rfl rfl rfl (Nat.le_of_ble_eq_true rfl) dX3_init_6 ?_
    refine cw_eq (ws' := (h0, .inr (3, [.int 0, .int 0, .int 0, .int 0, .int 0])) :: []) rfl ?_
    refine cw_aload_n hC dX3_init_9 rfl 0 rfl ?_
    refine cw_iconst (v := 0) hC dX3_init_10 (by decide) ?_
    refine cw_put hC cl_X3 fq_X3_15 rfl rfl rfl (Nat.le_of_ble_eq_true rfl) dX3_init_11 ?_
    refine cw_eq (ws' := (h0, .inr (3, [.int 0, .int 0, .int 0, .int 0, .int 0])) :: []) rfl ?_
    refine cw_aload_n hC dX3_init_14 rfl 0 rfl ?_
    refine cw_iconst (v := 1) hC dX3_init_15 (by decide) ?_
    refine cw_put hC cl_X3 fq_X3_18 rfl rfl rfl (Nat.le_of_ble_eq_true rfl) dX3_init_16 ?_
    refine cw_eq (ws' := (h0, .inr (3, [.int 0, .int 0, .int 1, .int 0, .int 0])) :: []) rfl ?_
    refine cw_aload_n hC dX3_init_19 rfl 0 rfl ?_
    refine cw_iconst (v := 0) hC dX3_init_20 (by decide) ?_
    refine cw_put hC cl_X3 fq_X3_21 rfl rfl rfl (Nat.le_of_ble_eq_true rfl) dX3_init_21 ?_
    refine cw_eq (ws' := (h0, .inr (3, [.int 0, .int 0, .int 1, .int 0, .int 0])) :: []) rfl ?_
    refine cw_aload_n hC dX3_init_24 rfl 0 rfl ?_
    refine cw_iconst (v := 0) hC dX3_init_25 (by decide) ?_
    refine cw_put hC cl_X3 fq_X3_24 rfl rfl rfl (Nat.le_of_ble_eq_true rfl) dX3_init_26 ?_
    refine cw_eq (ws' := (h0, .inr (3, [.int 0, .int 0, .int 1, .int 0, .int 0])) :: []) rfl ?_
    exact cw_vret hC (fun k => if k = 0 then h0 else 0) hr dX3_init_29 ⟨Nat.le_refl _, Nat.le_refl _⟩ rfl (fun H a b => ⟨a, b⟩))
def PW_X2 (ca : Nat → ClassId) (v1 : Int32) (ad : Nat → Nat) : va_W := (ad 0, .inr (2, [.int v1, .int 1, .int 1, .int 16, .int 10, .int 0])) :: []
theorem ext_X2 {ca : Nat → ClassId} {v1 : Int32} {a b : Nat → Nat} (h : ∀ k, k < 1 → a k = b k) : PW_X2 ca v1 a = PW_X2 ca v1 b := by
  unfold PW_X2
  have e0 : a 0 = b 0 := h 0 (by omega)
  simp only [e0]
theorem len_X2 {ca : Nat → ClassId} {v1 : Int32} {ad : Nat → Nat} : (PW_X2 ca v1 ad).length = 1 := rfl
def rm_X2_init : Room := { frames := 1, cells := 0, slots := 0, locals := 20 }
set_option maxHeartbeats 4000000 in
set_option maxRecDepth 20000 in
theorem ct_X2_init {l : Launch} {ca : Nat → ClassId} {w : gx_V} {v1 : Int32} : ct l ca w yX2_init cX2_init 2 rm_X2_init [.int v1] (.inr (2, [.int 0, .int 0, .int 0, .int 0, .int 0, .int 0])) 0 0 (PW_X2 ca v1) :=
  ct_of (own := RX2) (by decide +kernel) rfl rfl (Nat.le_of_ble_eq_true rfl) (fun _ => rfl) (fun z h0 hC hl hR hr => by
    subst hl
    refine cw_eq (ws' := (h0, .inr (2, [.int 0, .int 0, .int 0, .int 0, .int 0, .int 0])) :: []) rfl ?_
    refine cw_aload_n hC dX2_init_0 rfl 0 rfl ?_
    refine cw_obj hC ko_X2_3 ko_i ko_c (by rw [hR]; exact ⟨Nat.le_of_ble_eq_true rfl, Nat.le_of_ble_eq_true rfl⟩) (Nat.le_of_ble_eq_true rfl) dX2_init_1 ?_
    refine cw_aload_n hC dX2_init_4 rfl 0 rfl ?_
    refine cw_iconst (v := 0) hC dX2_init_5 (by decide) ?_
    refine cw_put hC cl_X2 fq_X2_9 rfl rfl rfl (Nat.le_of_ble_eq_true rfl) dX2_init_6 ?_
    refine cw_eq (ws' := (h0, .inr (2, [.int 0, .int 0, .int 0, .int 0, .int 0, .int 0])) :: []) rfl ?_
    refine cw_aload_n hC dX2_init_9 rfl 0 rfl ?_
    refine cw_iconst (v := 1) hC dX2_init_10 (by decide) ?_
    refine cw_put hC cl_X2 fq_X2_15 rfl rfl rfl (Nat.le_of_ble_eq_true rfl) dX2_init_11 ?_
    refine cw_eq (ws' := (h0, .inr (2, [.int 0, .int 1, .int 0, .int 0, .int 0, .int 0])) :: []) rfl ?_
    refine cw_aload_n hC dX2_init_14 rfl 0 rfl ?_
    refine cw_iconst (v := 1) hC dX2_init_15 (by decide) ?_
    refine cw_put hC cl_X2 fq_X2_18 rfl rfl rfl (Nat.le_of_ble_eq_true rfl) dX2_init_16 ?_
    refine cw_eq (ws' := (h0, .inr (2, [.int 0, .int 1, .int 1, .int 0, .int 0, .int 0])) :: []) rfl ?_
    refine cw_aload_n hC dX2_init_19 rfl 0 rfl ?_
    refine cw_bipush (v := 16) hC dX2_init_20 (by decide) ?_
    refine cw_put hC cl_X2 fq_X2_21 rfl rfl rfl (Nat.le_of_ble_eq_true rfl) dX2_init_22 ?_
    refine cw_eq (ws' := (h0, .inr (2, [.int 0, .int 1, .int 1, .int 16, .int 0, .int 0])) :: []) rfl ?_
    refine cw_aload_n hC dX2_init_25 rfl 0 rfl ?_
    refine cw_bipush (v := 10) hC dX2_init_26 (by decide) ?_
    refine cw_put hC cl_X2 fq_X2_24 rfl rfl rfl (Nat.le_of_ble_eq_true rfl) dX2_init_28 ?_
    refine cw_eq (ws' := (h0, .inr (2, [.int 0, .int 1, .int 1, .int 16, .int 10, .int 0])) :: []) rfl ?_
    refine cw_aload_n hC dX2_init_31 rfl 0 rfl ?_
    refine cw_iconst (v := 0) hC dX2_init_32 (by decide) ?_
    refine cw_put hC cl_X2 fq_X2_27 rfl rfl rfl (Nat.le_of_ble_eq_true rfl) dX2_init_33 ?_
    refine cw_eq (ws' := (h0, .inr (2, [.int 0, .int 1, .int 1, .int 16, .int 10, .int 0])) :: []) rfl ?_
    refine cw_aload_n hC dX2_init_36 rfl 0 rfl ?_
    refine cw_iload_n hC dX2_init_37 rfl 1 rfl ?_
    refine cw_put hC cl_X2 fq_X2_9 rfl rfl rfl (Nat.le_of_ble_eq_true rfl) dX2_init_38 ?_
    refine cw_eq (ws' := (h0, .inr (2, [.int v1, .int 1, .int 1, .int 16, .int 10, .int 0])) :: []) rfl ?_
    exact cw_vret hC (fun k => if k = 0 then h0 else 0) hr dX2_init_41 ⟨Nat.le_refl _, Nat.le_refl _⟩ rfl (fun H a b => ⟨a, b⟩))
def PW_X4 (ca : Nat → ClassId) (ad : Nat → Nat) : va_W := (ad 0, .inr (4, [.ref (ad 1), .ref (ad 2), .int 0, .int 0])) :: ([(ad 1, .inl (ca 0, 300, .inl (fun _ => 0)))] ++ [(ad 2, .inl (ca 0, 300, .inl (fun _ => 0)))])
theorem ext_X4 {ca : Nat → ClassId} {a b : Nat → Nat} (h : ∀ k, k < 3 → a k = b k) : PW_X4 ca a = PW_X4 ca b := by
  unfold PW_X4
  have e0 : a 0 = b 0 := h 0 (by omega)
  have e1 : a 1 = b 1 := h 1 (by omega)
  have e2 : a 2 = b 2 := h 2 (by omega)
  simp only [e0, e1, e2]
theorem len_X4 {ca : Nat → ClassId} {ad : Nat → Nat} : (PW_X4 ca ad).length = 3 := rfl
def rm_X4_init : Room := { frames := 1, cells := 2, slots := 600, locals := 20 }
set_option maxHeartbeats 4000000 in
set_option maxRecDepth 20000 in
theorem ct_X4_init {l : Launch} {ca : Nat → ClassId} {w : gx_V} : ct l ca w yX4_init cX4_init 1 rm_X4_init [] (.inr (4, [.null, .null, .int 0, .int 0])) 2 600 (PW_X4 ca) :=
  ct_of (own := RX4) (by decide +kernel) rfl rfl (Nat.le_of_ble_eq_true rfl) (fun _ => rfl) (fun z h0 hC hl hR hr => by
    subst hl
    refine cw_eq (ws' := (h0, .inr (4, [.null, .null, .int 0, .int 0])) :: []) rfl ?_
    refine cw_aload_n hC dX4_init_0 rfl 0 rfl ?_
    refine cw_obj hC ko_X4_3 ko_i ko_c (by rw [hR]; exact ⟨Nat.le_of_ble_eq_true rfl, Nat.le_of_ble_eq_true rfl⟩) (Nat.le_of_ble_eq_true rfl) dX4_init_1 ?_
    refine cw_aload_n hC dX4_init_4 rfl 0 rfl ?_
    refine cw_sipush (v := 300) hC dX4_init_5 (by decide) ?_
    refine cw_newa (atype := .int) (ty := .int) (N := 300) (a0 := (300, .inl (fun _ => 0))) hC 0 ka_int rfl rfl (fun _ _ h => h) (fun _ => rfl) (by decide) (by decide) (by decide) (by rw [hR]; exact ⟨Nat.le_of_ble_eq_true rfl, Nat.le_of_ble_eq_true rfl⟩) dX4_init_8 (fun q1 => ?_)
    refine cw_eq (ws' := (h0, .inr (4, [.null, .null, .int 0, .int 0])) :: [(q1, .inl (ca 0, 300, .inl (fun _ => 0)))]) rfl ?_
    refine cw_putF hC cl_X4 ff_X4_9 rfl rfl rfl (Nat.le_of_ble_eq_true rfl) dX4_init_10 ?_
    refine cw_eq (ws' := (h0, .inr (4, [.ref q1, .null, .int 0, .int 0])) :: [(q1, .inl (ca 0, 300, .inl (fun _ => 0)))]) rfl ?_
    refine cw_aload_n hC dX4_init_13 rfl 0 rfl ?_
    refine cw_sipush (v := 300) hC dX4_init_14 (by decide) ?_
    refine cw_newa (atype := .int) (ty := .int) (N := 300) (a0 := (300, .inl (fun _ => 0))) hC 0 ka_int rfl rfl (fun _ _ h => h) (fun _ => rfl) (by decide) (by decide) (by decide) (by rw [hR]; exact ⟨Nat.le_of_ble_eq_true rfl, Nat.le_of_ble_eq_true rfl⟩) dX4_init_17 (fun q2 => ?_)
    refine cw_eq (ws' := (h0, .inr (4, [.ref q1, .null, .int 0, .int 0])) :: ([(q1, .inl (ca 0, 300, .inl (fun _ => 0)))] ++ [(q2, .inl (ca 0, 300, .inl (fun _ => 0)))])) rfl ?_
    refine cw_putF hC cl_X4 ff_X4_15 rfl rfl rfl (Nat.le_of_ble_eq_true rfl) dX4_init_19 ?_
    refine cw_eq (ws' := (h0, .inr (4, [.ref q1, .ref q2, .int 0, .int 0])) :: ([(q1, .inl (ca 0, 300, .inl (fun _ => 0)))] ++ [(q2, .inl (ca 0, 300, .inl (fun _ => 0)))])) rfl ?_
    refine cw_aload_n hC dX4_init_22 rfl 0 rfl ?_
    refine cw_iconst (v := 0) hC dX4_init_23 (by decide) ?_
    refine cw_put hC cl_X4 fq_X4_18 rfl rfl rfl (Nat.le_of_ble_eq_true rfl) dX4_init_24 ?_
    refine cw_eq (ws' := (h0, .inr (4, [.ref q1, .ref q2, .int 0, .int 0])) :: ([(q1, .inl (ca 0, 300, .inl (fun _ => 0)))] ++ [(q2, .inl (ca 0, 300, .inl (fun _ => 0)))])) rfl ?_
    refine cw_aload_n hC dX4_init_27 rfl 0 rfl ?_
    refine cw_iconst (v := 0) hC dX4_init_28 (by decide) ?_
    refine cw_put hC cl_X4 fq_X4_22 rfl rfl rfl (Nat.le_of_ble_eq_true rfl) dX4_init_29 ?_
    refine cw_eq (ws' := (h0, .inr (4, [.ref q1, .ref q2, .int 0, .int 0])) :: ([(q1, .inl (ca 0, 300, .inl (fun _ => 0)))] ++ [(q2, .inl (ca 0, 300, .inl (fun _ => 0)))])) rfl ?_
    exact cw_vret hC (fun k => if k = 0 then h0 else if k = 1 then q1 else if k = 2 then q2 else 0) hr dX4_init_32 ⟨Nat.le_refl _, Nat.le_refl _⟩ rfl (fun H a b => ⟨a, b⟩))
def PW_X0 (ca : Nat → ClassId) (ad : Nat → Nat) : va_W := (ad 0, .inr (0, [.ref (ad 1), .int 0, .int 0, .int 0, .int 0, .int 0, .int 0])) :: [(ad 1, .inl (ca 0, 300, .inl (fun _ => 0)))]
theorem ext_X0 {ca : Nat → ClassId} {a b : Nat → Nat} (h : ∀ k, k < 2 → a k = b k) : PW_X0 ca a = PW_X0 ca b := by
  unfold PW_X0
  have e0 : a 0 = b 0 := h 0 (by omega)
  have e1 : a 1 = b 1 := h 1 (by omega)
  simp only [e0, e1]
theorem len_X0 {ca : Nat → ClassId} {ad : Nat → Nat} : (PW_X0 ca ad).length = 2 := rfl
def rm_X0_init : Room := { frames := 1, cells := 1, slots := 300, locals := 20 }
set_option maxHeartbeats 4000000 in
set_option maxRecDepth 20000 in
theorem ct_X0_init {l : Launch} {ca : Nat → ClassId} {w : gx_V} : ct l ca w yX0_init cX0_init 1 rm_X0_init [] (.inr (0, [.null, .int 0, .int 0, .int 0, .int 0, .int 0, .int 0])) 1 300 (PW_X0 ca) :=
  ct_of (own := RX0) (by decide +kernel) rfl rfl (Nat.le_of_ble_eq_true rfl) (fun _ => rfl) (fun z h0 hC hl hR hr => by
    subst hl
    refine cw_eq (ws' := (h0, .inr (0, [.null, .int 0, .int 0, .int 0, .int 0, .int 0, .int 0])) :: []) rfl ?_
    refine cw_aload_n hC dX0_init_0 rfl 0 rfl ?_
    refine cw_obj hC ko_X0_3 ko_i ko_c (by rw [hR]; exact ⟨Nat.le_of_ble_eq_true rfl, Nat.le_of_ble_eq_true rfl⟩) (Nat.le_of_ble_eq_true rfl) dX0_init_1 ?_
    refine cw_aload_n hC dX0_init_4 rfl 0 rfl ?_
    refine cw_sipush (v := 300) hC dX0_init_5 (by decide) ?_
    refine cw_newa (atype := .int) (ty := .int) (N := 300) (a0 := (300, .inl (fun _ => 0))) hC 0 ka_int rfl rfl (fun _ _ h => h) (fun _ => rfl) (by decide) (by decide) (by decide) (by rw [hR]; exact ⟨Nat.le_of_ble_eq_true rfl, Nat.le_of_ble_eq_true rfl⟩) dX0_init_8 (fun q1 => ?_)
    refine cw_eq (ws' := (h0, .inr (0, [.null, .int 0, .int 0, .int 0, .int 0, .int 0, .int 0])) :: [(q1, .inl (ca 0, 300, .inl (fun _ => 0)))]) rfl ?_
    refine cw_putF hC cl_X0 ff_X0_9 rfl rfl rfl (Nat.le_of_ble_eq_true rfl) dX0_init_10 ?_
    refine cw_eq (ws' := (h0, .inr (0, [.ref q1, .int 0, .int 0, .int 0, .int 0, .int 0, .int 0])) :: [(q1, .inl (ca 0, 300, .inl (fun _ => 0)))]) rfl ?_
    refine cw_aload_n hC dX0_init_13 rfl 0 rfl ?_
    refine cw_iconst (v := 0) hC dX0_init_14 (by decide) ?_
    refine cw_put hC cl_X0 fq_X0_15 rfl rfl rfl (Nat.le_of_ble_eq_true rfl) dX0_init_15 ?_
    refine cw_eq (ws' := (h0, .inr (0, [.ref q1, .int 0, .int 0, .int 0, .int 0, .int 0, .int 0])) :: [(q1, .inl (ca 0, 300, .inl (fun _ => 0)))]) rfl ?_
    refine cw_aload_n hC dX0_init_18 rfl 0 rfl ?_
    refine cw_iconst (v := 0) hC dX0_init_19 (by decide) ?_
    refine cw_put hC cl_X0 fq_X0_19 rfl rfl rfl (Nat.le_of_ble_eq_true rfl) dX0_init_20 ?_
    refine cw_eq (ws' := (h0, .inr (0, [.ref q1, .int 0, .int 0, .int 0, .int 0, .int 0, .int 0])) :: [(q1, .inl (ca 0, 300, .inl (fun _ => 0)))]) rfl ?_
    refine cw_aload_n hC dX0_init_23 rfl 0 rfl ?_
    refine cw_iconst (v := 0) hC dX0_init_24 (by decide) ?_
    refine cw_put hC cl_X0 fq_X0_22 rfl rfl rfl (Nat.le_of_ble_eq_true rfl) dX0_init_25 ?_
    refine cw_eq (ws' := (h0, .inr (0, [.ref q1, .int 0, .int 0, .int 0, .int 0, .int 0, .int 0])) :: [(q1, .inl (ca 0, 300, .inl (fun _ => 0)))]) rfl ?_
    refine cw_aload_n hC dX0_init_28 rfl 0 rfl ?_
    refine cw_iconst (v := 0) hC dX0_init_29 (by decide) ?_
    refine cw_put hC cl_X0 fq_X0_25 rfl rfl rfl (Nat.le_of_ble_eq_true rfl) dX0_init_30 ?_
    refine cw_eq (ws' := (h0, .inr (0, [.ref q1, .int 0, .int 0, .int 0, .int 0, .int 0, .int 0])) :: [(q1, .inl (ca 0, 300, .inl (fun _ => 0)))]) rfl ?_
    refine cw_aload_n hC dX0_init_33 rfl 0 rfl ?_
    refine cw_iconst (v := 0) hC dX0_init_34 (by decide) ?_
    refine cw_put hC cl_X0 fq_X0_28 rfl rfl rfl (Nat.le_of_ble_eq_true rfl) dX0_init_35 ?_
    refine cw_eq (ws' := (h0, .inr (0, [.ref q1, .int 0, .int 0, .int 0, .int 0, .int 0, .int 0])) :: [(q1, .inl (ca 0, 300, .inl (fun _ => 0)))]) rfl ?_
    refine cw_aload_n hC dX0_init_38 rfl 0 rfl ?_
    refine cw_iconst (v := 0) hC dX0_init_39 (by decide) ?_
    refine cw_put hC cl_X0 fq_X0_31 rfl rfl rfl (Nat.le_of_ble_eq_true rfl) dX0_init_40 ?_
    refine cw_eq (ws' := (h0, .inr (0, [.ref q1, .int 0, .int 0, .int 0, .int 0, .int 0, .int 0])) :: [(q1, .inl (ca 0, 300, .inl (fun _ => 0)))]) rfl ?_
    exact cw_vret hC (fun k => if k = 0 then h0 else if k = 1 then q1 else 0) hr dX0_init_43 ⟨Nat.le_refl _, Nat.le_refl _⟩ rfl (fun H a b => ⟨a, b⟩))
def PW_X7 (ca : Nat → ClassId) (ad : Nat → Nat) : va_W := (ad 0, .inr (7, [.ref (ad 1)])) :: [(ad 1, .inl (ca 0, 320, .inl (fun _ => 0)))]
theorem ext_X7 {ca : Nat → ClassId} {a b : Nat → Nat} (h : ∀ k, k < 2 → a k = b k) : PW_X7 ca a = PW_X7 ca b := by
  unfold PW_X7
  have e0 : a 0 = b 0 := h 0 (by omega)
  have e1 : a 1 = b 1 := h 1 (by omega)
  simp only [e0, e1]
theorem len_X7 {ca : Nat → ClassId} {ad : Nat → Nat} : (PW_X7 ca ad).length = 2 := rfl
def rm_X7_init : Room := { frames := 1, cells := 1, slots := 320, locals := 20 }
set_option maxHeartbeats 4000000 in
set_option maxRecDepth 20000 in
theorem ct_X7_init {l : Launch} {ca : Nat → ClassId} {w : gx_V} : ct l ca w yX7_init cX7_init 1 rm_X7_init [] (.inr (7, [.null])) 1 320 (PW_X7 ca) :=
  ct_of (own := RX7) (by decide +kernel) rfl rfl (Nat.le_of_ble_eq_true rfl) (fun _ => rfl) (fun z h0 hC hl hR hr => by
    subst hl
    refine cw_eq (ws' := (h0, .inr (7, [.null])) :: []) rfl ?_
    refine cw_aload_n hC dX7_init_0 rfl 0 rfl ?_
    refine cw_obj hC ko_X7_3 ko_i ko_c (by rw [hR]; exact ⟨Nat.le_of_ble_eq_true rfl, Nat.le_of_ble_eq_true rfl⟩) (Nat.le_of_ble_eq_true rfl) dX7_init_1 ?_
    refine cw_aload_n hC dX7_init_4 rfl 0 rfl ?_
    refine cw_sipush (v := 320) hC dX7_init_5 (by decide) ?_
    refine cw_newa (atype := .int) (ty := .int) (N := 320) (a0 := (320, .inl (fun _ => 0))) hC 0 ka_int rfl rfl (fun _ _ h => h) (fun _ => rfl) (by decide) (by decide) (by decide) (by rw [hR]; exact ⟨Nat.le_of_ble_eq_true rfl, Nat.le_of_ble_eq_true rfl⟩) dX7_init_8 (fun q1 => ?_)
    refine cw_eq (ws' := (h0, .inr (7, [.null])) :: [(q1, .inl (ca 0, 320, .inl (fun _ => 0)))]) rfl ?_
    refine cw_putF hC cl_X7 ff_X7_9 rfl rfl rfl (Nat.le_of_ble_eq_true rfl) dX7_init_10 ?_
    refine cw_eq (ws' := (h0, .inr (7, [.ref q1])) :: [(q1, .inl (ca 0, 320, .inl (fun _ => 0)))]) rfl ?_
    exact cw_vret hC (fun k => if k = 0 then h0 else if k = 1 then q1 else 0) hr dX7_init_13 ⟨Nat.le_refl _, Nat.le_refl _⟩ rfl (fun H a b => ⟨a, b⟩))
def PW_X6 (ca : Nat → ClassId) (ad : Nat → Nat) : va_W := (ad 0, .inr (6, [.ref (ad 1), .int 0, .int 0, .int 0, .int (-57), .int 0])) :: [(ad 1, .inl (ca 0, 300, .inl (fun _ => 0)))]
theorem ext_X6 {ca : Nat → ClassId} {a b : Nat → Nat} (h : ∀ k, k < 2 → a k = b k) : PW_X6 ca a = PW_X6 ca b := by
  unfold PW_X6
  have e0 : a 0 = b 0 := h 0 (by omega)
  have e1 : a 1 = b 1 := h 1 (by omega)
  simp only [e0, e1]
theorem len_X6 {ca : Nat → ClassId} {ad : Nat → Nat} : (PW_X6 ca ad).length = 2 := rfl
def rm_X6_init : Room := { frames := 1, cells := 1, slots := 300, locals := 20 }
set_option maxHeartbeats 4000000 in
set_option maxRecDepth 20000 in
theorem ct_X6_init {l : Launch} {ca : Nat → ClassId} {w : gx_V} : ct l ca w yX6_init cX6_init 1 rm_X6_init [] (.inr (6, [.null, .int 0, .int 0, .int 0, .int 0, .int 0])) 1 300 (PW_X6 ca) :=
  ct_of (own := RX6) (by decide +kernel) rfl rfl (Nat.le_of_ble_eq_true rfl) (fun _ => rfl) (fun z h0 hC hl hR hr => by
    subst hl
    refine cw_eq (ws' := (h0, .inr (6, [.null, .int 0, .int 0, .int 0, .int 0, .int 0])) :: []) rfl ?_
    refine cw_aload_n hC dX6_init_0 rfl 0 rfl ?_
    refine cw_obj hC ko_X6_3 ko_i ko_c (by rw [hR]; exact ⟨Nat.le_of_ble_eq_true rfl, Nat.le_of_ble_eq_true rfl⟩) (Nat.le_of_ble_eq_true rfl) dX6_init_1 ?_
    refine cw_aload_n hC dX6_init_4 rfl 0 rfl ?_
    refine cw_sipush (v := 300) hC dX6_init_5 (by decide) ?_
    refine cw_newa (atype := .int) (ty := .int) (N := 300) (a0 := (300, .inl (fun _ => 0))) hC 0 ka_int rfl rfl (fun _ _ h => h) (fun _ => rfl) (by decide) (by decide) (by decide) (by rw [hR]; exact ⟨Nat.le_of_ble_eq_true rfl, Nat.le_of_ble_eq_true rfl⟩) dX6_init_8 (fun q1 => ?_)
    refine cw_eq (ws' := (h0, .inr (6, [.null, .int 0, .int 0, .int 0, .int 0, .int 0])) :: [(q1, .inl (ca 0, 300, .inl (fun _ => 0)))]) rfl ?_
    refine cw_putF hC cl_X6 ff_X6_9 rfl rfl rfl (Nat.le_of_ble_eq_true rfl) dX6_init_10 ?_
    refine cw_eq (ws' := (h0, .inr (6, [.ref q1, .int 0, .int 0, .int 0, .int 0, .int 0])) :: [(q1, .inl (ca 0, 300, .inl (fun _ => 0)))]) rfl ?_
    refine cw_aload_n hC dX6_init_13 rfl 0 rfl ?_
    refine cw_iconst (v := 0) hC dX6_init_14 (by decide) ?_
    refine cw_put hC cl_X6 fq_X6_15 rfl rfl rfl (Nat.le_of_ble_eq_true rfl) dX6_init_15 ?_
    refine cw_eq (ws' := (h0, .inr (6, [.ref q1, .int 0, .int 0, .int 0, .int 0, .int 0])) :: [(q1, .inl (ca 0, 300, .inl (fun _ => 0)))]) rfl ?_
    refine cw_aload_n hC dX6_init_18 rfl 0 rfl ?_
    refine cw_iconst (v := 0) hC dX6_init_19 (by decide) ?_
    refine cw_put hC cl_X6 fq_X6_19 rfl rfl rfl (Nat.le_of_ble_eq_true rfl) dX6_init_20 ?_
    refine cw_eq (ws' := (h0, .inr (6, [.ref q1, .int 0, .int 0, .int 0, .int 0, .int 0])) :: [(q1, .inl (ca 0, 300, .inl (fun _ => 0)))]) rfl ?_
    refine cw_aload_n hC dX6_init_23 rfl 0 rfl ?_
    refine cw_iconst (v := 0) hC dX6_init_24 (by decide) ?_
    refine cw_put hC cl_X6 fq_X6_22 rfl rfl rfl (Nat.le_of_ble_eq_true rfl) dX6_init_25 ?_
    refine cw_eq (ws' := (h0, .inr (6, [.ref q1, .int 0, .int 0, .int 0, .int 0, .int 0])) :: [(q1, .inl (ca 0, 300, .inl (fun _ => 0)))]) rfl ?_
    refine cw_aload_n hC dX6_init_28 rfl 0 rfl ?_
    refine cw_bipush (v := (-57)) hC dX6_init_29 (by decide) ?_
    refine cw_put hC cl_X6 fq_X6_25 rfl rfl rfl (Nat.le_of_ble_eq_true rfl) dX6_init_31 ?_
    refine cw_eq (ws' := (h0, .inr (6, [.ref q1, .int 0, .int 0, .int 0, .int (-57), .int 0])) :: [(q1, .inl (ca 0, 300, .inl (fun _ => 0)))]) rfl ?_
    refine cw_aload_n hC dX6_init_34 rfl 0 rfl ?_
    refine cw_iconst (v := 0) hC dX6_init_35 (by decide) ?_
    refine cw_put hC cl_X6 fq_X6_28 rfl rfl rfl (Nat.le_of_ble_eq_true rfl) dX6_init_36 ?_
    refine cw_eq (ws' := (h0, .inr (6, [.ref q1, .int 0, .int 0, .int 0, .int (-57), .int 0])) :: [(q1, .inl (ca 0, 300, .inl (fun _ => 0)))]) rfl ?_
    exact cw_vret hC (fun k => if k = 0 then h0 else if k = 1 then q1 else 0) hr dX6_init_39 ⟨Nat.le_refl _, Nat.le_refl _⟩ rfl (fun H a b => ⟨a, b⟩))
def PW_X9 (ca : Nat → ClassId) (ad : Nat → Nat) : va_W := (ad 0, .inr (9, [.ref (ad 1), .int 0])) :: (((((([(ad 1, .inl (ca 2, 6, .inr (.inr (.inr (.inr (va_up (va_up (va_up (va_up (va_up (va_up (fun _ => none) 0 (some (ad 2))) 1 (some (ad 3))) 2 (some (ad 4))) 3 (some (ad 5))) 4 (some (ad 6))) 5 (some (ad 7))))))))] ++ PW_X3 ca (fun k => ad (2 + k))) ++ PW_X3 ca (fun k => ad (3 + k))) ++ PW_X3 ca (fun k => ad (4 + k))) ++ PW_X3 ca (fun k => ad (5 + k))) ++ PW_X3 ca (fun k => ad (6 + k))) ++ PW_X3 ca (fun k => ad (7 + k)))
theorem ext_X9 {ca : Nat → ClassId} {a b : Nat → Nat} (h : ∀ k, k < 8 → a k = b k) : PW_X9 ca a = PW_X9 ca b := by
  unfold PW_X9
  have e0 : a 0 = b 0 := h 0 (by omega)
  have e1 : a 1 = b 1 := h 1 (by omega)
  have e2 : a 2 = b 2 := h 2 (by omega)
  have e3 : a 3 = b 3 := h 3 (by omega)
  have e4 : a 4 = b 4 := h 4 (by omega)
  have e5 : a 5 = b 5 := h 5 (by omega)
  have e6 : a 6 = b 6 := h 6 (by omega)
  have e7 : a 7 = b 7 := h 7 (by omega)
  have p2 : PW_X3 ca (fun k => a (2 + k)) = PW_X3 ca (fun k => b (2 + k)) := ext_X3 (fun k hk => h (2 + k) (by omega))
  have p3 : PW_X3 ca (fun k => a (3 + k)) = PW_X3 ca (fun k => b (3 + k)) := ext_X3 (fun k hk => h (3 + k) (by omega))
  have p4 : PW_X3 ca (fun k => a (4 + k)) = PW_X3 ca (fun k => b (4 + k)) := ext_X3 (fun k hk => h (4 + k) (by omega))
  have p5 : PW_X3 ca (fun k => a (5 + k)) = PW_X3 ca (fun k => b (5 + k)) := ext_X3 (fun k hk => h (5 + k) (by omega))
  have p6 : PW_X3 ca (fun k => a (6 + k)) = PW_X3 ca (fun k => b (6 + k)) := ext_X3 (fun k hk => h (6 + k) (by omega))
  have p7 : PW_X3 ca (fun k => a (7 + k)) = PW_X3 ca (fun k => b (7 + k)) := ext_X3 (fun k hk => h (7 + k) (by omega))
  simp only [e0, e1, e2, e3, e4, e5, e6, e7, p2, p3, p4, p5, p6, p7]
theorem len_X9 {ca : Nat → ClassId} {ad : Nat → Nat} : (PW_X9 ca ad).length = 8 := rfl
def rm_X9_init : Room := { frames := 2, cells := 7, slots := 36, locals := 40 }
set_option maxHeartbeats 4000000 in
set_option maxRecDepth 20000 in
theorem ct_X9_init {l : Launch} {ca : Nat → ClassId} {w : gx_V} : ct l ca w yX9_init cX9_init 2 rm_X9_init [] (.inr (9, [.null, .int 0])) 7 36 (PW_X9 ca) :=
  ct_of (own := RX9) (by decide +kernel) rfl rfl (Nat.le_of_ble_eq_true rfl) (fun _ => rfl) (fun z h0 hC hl hR hr => by
    subst hl
    refine cw_eq (ws' := (h0, .inr (9, [.null, .int 0])) :: []) rfl ?_
    refine cw_aload_n hC dX9_init_0 rfl 0 rfl ?_
    refine cw_obj hC ko_X9_3 ko_i ko_c (by rw [hR]; exact ⟨Nat.le_of_ble_eq_true rfl, Nat.le_of_ble_eq_true rfl⟩) (Nat.le_of_ble_eq_true rfl) dX9_init_1 ?_
    refine cw_aload_n hC dX9_init_4 rfl 0 rfl ?_
    refine cw_bipush (v := 6) hC dX9_init_5 (by decide) ?_
    refine cw_newq (C := "GreenLine$Part") (N := 6) hC 2 kl_X9_9 (by simp [gx_ao]) rfl (by decide) (by decide) (by decide) (by rw [hR]; exact ⟨Nat.le_of_ble_eq_true rfl, Nat.le_of_ble_eq_true rfl⟩) dX9_init_7 (fun q1 => ?_)
    refine cw_eq (ws' := (h0, .inr (9, [.null, .int 0])) :: [(q1, .inl (ca 2, 6, .inr (.inr (.inr (.inr (fun _ => none))))))]) rfl ?_
    refine cw_putF hC cl_X9 ff_X9_11 rfl rfl rfl (Nat.le_of_ble_eq_true rfl) dX9_init_10 ?_
    refine cw_eq (ws' := (h0, .inr (9, [.ref q1, .int 0])) :: [(q1, .inl (ca 2, 6, .inr (.inr (.inr (.inr (fun _ => none))))))]) rfl ?_
    refine cw_aload_n hC dX9_init_13 rfl 0 rfl ?_
    refine cw_iconst (v := 0) hC dX9_init_14 (by decide) ?_
    refine cw_put hC cl_X9 fq_X9_17 rfl rfl rfl (Nat.le_of_ble_eq_true rfl) dX9_init_15 ?_
    refine cw_eq (ws' := (h0, .inr (9, [.ref q1, .int 0])) :: [(q1, .inl (ca 2, 6, .inr (.inr (.inr (.inr (fun _ => none))))))]) rfl ?_
    refine cw_iconst (v := 0) hC dX9_init_18 (by decide) ?_
    refine cw_istore_n (lv' := [(1, .int 0), (0, .ref h0)]) hC dX9_init_19 rfl (by decide) rfl ?_
    refine cw_iload_n hC dX9_init_20 rfl 0 rfl ?_
    refine cw_aload_n hC dX9_init_21 rfl 1 rfl ?_
    refine cw_get hC 0 cl_X9 fh_X9_11 rfl rfl dX9_init_22 ?_
    refine cw_alen (v := 6) hC 1 2 (rfl) rfl rfl dX9_init_25 ?_
    refine cw_icmp_ge (tgt := 48) hC dX9_init_26 (by decide) (fun hc => absurd hc (by decide)) (fun _ => ?_)
    refine cw_aload_n hC dX9_init_29 rfl 1 rfl ?_
    refine cw_get hC 0 cl_X9 fh_X9_11 rfl rfl dX9_init_30 ?_
    refine cw_iload_n hC dX9_init_33 rfl 0 rfl ?_
    refine cw_new hC cl_X3 kl_X9_9 ki_X3 kn_X3 kd_X3 (by rw [hR]; exact ⟨Nat.le_of_ble_eq_true rfl, Nat.le_of_ble_eq_true rfl⟩) dX9_init_34 (fun q2 => ?_)
    refine cw_dup hC dX9_init_37 rfl ?_
    refine cw_initN (ex := []) (rest := [.ref q2, .int 0, .ref q1]) hC (ct_X3_init) kx_X9_21 (by rw [hR]; exact ⟨rfl, rfl, Nat.le_of_ble_eq_true rfl, Nat.le_of_ble_eq_true rfl⟩) (by rw [hR]; exact ⟨Nat.le_of_ble_eq_true rfl, Nat.le_of_ble_eq_true rfl⟩) rfl rfl (Nat.le_of_ble_eq_true rfl) dX9_init_38 (fun a3 ha3 => ?_)
    subst ha3
    refine cw_eq (ws' := (h0, .inr (9, [.ref q1, .int 0])) :: ([(q1, .inl (ca 2, 6, .inr (.inr (.inr (.inr (fun _ => none))))))] ++ PW_X3 ca a3)) rfl ?_
    refine cw_astq (C := RX3) (T := TX3) (N := 5) hC 1 2 2 (rfl) rfl (rfl) rfl (by unfold vp_in; decide) dX9_init_41 ?_
    refine cw_eq (ws' := (h0, .inr (9, [.ref q1, .int 0])) :: ([(q1, .inl (ca 2, 6, .inr (.inr (.inr (.inr (va_up (fun _ => none) 0 (some (a3 0))))))))] ++ PW_X3 ca a3)) (rfl) ?_
    refine cw_iinc (v := 1) (lv' := [(1, .int 1), (0, .ref h0)]) hC dX9_init_42 (k := 0) rfl (by decide) (by decide) rfl ?_
    refine cw_goto (tgt := 20) hC dX9_init_45 (by decide) ?_
    refine cw_iload_n hC dX9_init_20 rfl 0 rfl ?_
    refine cw_aload_n hC dX9_init_21 rfl 1 rfl ?_
    refine cw_get hC 0 cl_X9 fh_X9_11 rfl rfl dX9_init_22 ?_
    refine cw_alen (v := 6) hC 1 2 (rfl) rfl rfl dX9_init_25 ?_
    refine cw_icmp_ge (tgt := 48) hC dX9_init_26 (by decide) (fun hc => absurd hc (by decide)) (fun _ => ?_)
    refine cw_aload_n hC dX9_init_29 rfl 1 rfl ?_
    refine cw_get hC 0 cl_X9 fh_X9_11 rfl rfl dX9_init_30 ?_
    refine cw_iload_n hC dX9_init_33 rfl 0 rfl ?_
    refine cw_new hC cl_X3 kl_X9_9 ki_X3 kn_X3 kd_X3 (by rw [hR]; exact ⟨Nat.le_of_ble_eq_true rfl, Nat.le_of_ble_eq_true rfl⟩) dX9_init_34 (fun q4 => ?_)
    refine cw_dup hC dX9_init_37 rfl ?_
    refine cw_initN (ex := []) (rest := [.ref q4, .int 1, .ref q1]) hC (ct_X3_init) kx_X9_21 (by rw [hR]; exact ⟨rfl, rfl, Nat.le_of_ble_eq_true rfl, Nat.le_of_ble_eq_true rfl⟩) (by rw [hR]; exact ⟨Nat.le_of_ble_eq_true rfl, Nat.le_of_ble_eq_true rfl⟩) rfl rfl (Nat.le_of_ble_eq_true rfl) dX9_init_38 (fun a5 ha5 => ?_)
    subst ha5
    refine cw_eq (ws' := (h0, .inr (9, [.ref q1, .int 0])) :: (([(q1, .inl (ca 2, 6, .inr (.inr (.inr (.inr (va_up (fun _ => none) 0 (some (a3 0))))))))] ++ PW_X3 ca a3) ++ PW_X3 ca a5)) rfl ?_
    refine cw_astq (C := RX3) (T := TX3) (N := 5) hC 1 2 3 (rfl) rfl (rfl) rfl (by unfold vp_in; decide) dX9_init_41 ?_
    refine cw_eq (ws' := (h0, .inr (9, [.ref q1, .int 0])) :: (([(q1, .inl (ca 2, 6, .inr (.inr (.inr (.inr (va_up (va_up (fun _ => none) 0 (some (a3 0))) 1 (some (a5 0))))))))] ++ PW_X3 ca a3) ++ PW_X3 ca a5)) (rfl) ?_
    refine cw_iinc (v := 2) (lv' := [(1, .int 2), (0, .ref h0)]) hC dX9_init_42 (k := 0) rfl (by decide) (by decide) rfl ?_
    refine cw_goto (tgt := 20) hC dX9_init_45 (by decide) ?_
    refine cw_iload_n hC dX9_init_20 rfl 0 rfl ?_
    refine cw_aload_n hC dX9_init_21 rfl 1 rfl ?_
    refine cw_get hC 0 cl_X9 fh_X9_11 rfl rfl dX9_init_22 ?_
    refine cw_alen (v := 6) hC 1 2 (rfl) rfl rfl dX9_init_25 ?_
    refine cw_icmp_ge (tgt := 48) hC dX9_init_26 (by decide) (fun hc => absurd hc (by decide)) (fun _ => ?_)
    refine cw_aload_n hC dX9_init_29 rfl 1 rfl ?_
    refine cw_get hC 0 cl_X9 fh_X9_11 rfl rfl dX9_init_30 ?_
    refine cw_iload_n hC dX9_init_33 rfl 0 rfl ?_
    refine cw_new hC cl_X3 kl_X9_9 ki_X3 kn_X3 kd_X3 (by rw [hR]; exact ⟨Nat.le_of_ble_eq_true rfl, Nat.le_of_ble_eq_true rfl⟩) dX9_init_34 (fun q6 => ?_)
    refine cw_dup hC dX9_init_37 rfl ?_
    refine cw_initN (ex := []) (rest := [.ref q6, .int 2, .ref q1]) hC (ct_X3_init) kx_X9_21 (by rw [hR]; exact ⟨rfl, rfl, Nat.le_of_ble_eq_true rfl, Nat.le_of_ble_eq_true rfl⟩) (by rw [hR]; exact ⟨Nat.le_of_ble_eq_true rfl, Nat.le_of_ble_eq_true rfl⟩) rfl rfl (Nat.le_of_ble_eq_true rfl) dX9_init_38 (fun a7 ha7 => ?_)
    subst ha7
    refine cw_eq (ws' := (h0, .inr (9, [.ref q1, .int 0])) :: ((([(q1, .inl (ca 2, 6, .inr (.inr (.inr (.inr (va_up (va_up (fun _ => none) 0 (some (a3 0))) 1 (some (a5 0))))))))] ++ PW_X3 ca a3) ++ PW_X3 ca a5) ++ PW_X3 ca a7)) rfl ?_
    refine cw_astq (C := RX3) (T := TX3) (N := 5) hC 1 2 4 (rfl) rfl (rfl) rfl (by unfold vp_in; decide) dX9_init_41 ?_
    refine cw_eq (ws' := (h0, .inr (9, [.ref q1, .int 0])) :: ((([(q1, .inl (ca 2, 6, .inr (.inr (.inr (.inr (va_up (va_up (va_up (fun _ => none) 0 (some (a3 0))) 1 (some (a5 0))) 2 (some (a7 0))))))))] ++ PW_X3 ca a3) ++ PW_X3 ca a5) ++ PW_X3 ca a7)) (rfl) ?_
    refine cw_iinc (v := 3) (lv' := [(1, .int 3), (0, .ref h0)]) hC dX9_init_42 (k := 0) rfl (by decide) (by decide) rfl ?_
    refine cw_goto (tgt := 20) hC dX9_init_45 (by decide) ?_
    refine cw_iload_n hC dX9_init_20 rfl 0 rfl ?_
    refine cw_aload_n hC dX9_init_21 rfl 1 rfl ?_
    refine cw_get hC 0 cl_X9 fh_X9_11 rfl rfl dX9_init_22 ?_
    refine cw_alen (v := 6) hC 1 2 (rfl) rfl rfl dX9_init_25 ?_
    refine cw_icmp_ge (tgt := 48) hC dX9_init_26 (by decide) (fun hc => absurd hc (by decide)) (fun _ => ?_)
    refine cw_aload_n hC dX9_init_29 rfl 1 rfl ?_
    refine cw_get hC 0 cl_X9 fh_X9_11 rfl rfl dX9_init_30 ?_
    refine cw_iload_n hC dX9_init_33 rfl 0 rfl ?_
    refine cw_new hC cl_X3 kl_X9_9 ki_X3 kn_X3 kd_X3 (by rw [hR]; exact ⟨Nat.le_of_ble_eq_true rfl, Nat.le_of_ble_eq_true rfl⟩) dX9_init_34 (fun q8 => ?_)
    refine cw_dup hC dX9_init_37 rfl ?_
    refine cw_initN (ex := []) (rest := [.ref q8, .int 3, .ref q1]) hC (ct_X3_init) kx_X9_21 (by rw [hR]; exact ⟨rfl, rfl, Nat.le_of_ble_eq_true rfl, Nat.le_of_ble_eq_true rfl⟩) (by rw [hR]; exact ⟨Nat.le_of_ble_eq_true rfl, Nat.le_of_ble_eq_true rfl⟩) rfl rfl (Nat.le_of_ble_eq_true rfl) dX9_init_38 (fun a9 ha9 => ?_)
    subst ha9
    refine cw_eq (ws' := (h0, .inr (9, [.ref q1, .int 0])) :: (((([(q1, .inl (ca 2, 6, .inr (.inr (.inr (.inr (va_up (va_up (va_up (fun _ => none) 0 (some (a3 0))) 1 (some (a5 0))) 2 (some (a7 0))))))))] ++ PW_X3 ca a3) ++ PW_X3 ca a5) ++ PW_X3 ca a7) ++ PW_X3 ca a9)) rfl ?_
    refine cw_astq (C := RX3) (T := TX3) (N := 5) hC 1 2 5 (rfl) rfl (rfl) rfl (by unfold vp_in; decide) dX9_init_41 ?_
    refine cw_eq (ws' := (h0, .inr (9, [.ref q1, .int 0])) :: (((([(q1, .inl (ca 2, 6, .inr (.inr (.inr (.inr (va_up (va_up (va_up (va_up (fun _ => none) 0 (some (a3 0))) 1 (some (a5 0))) 2 (some (a7 0))) 3 (some (a9 0))))))))] ++ PW_X3 ca a3) ++ PW_X3 ca a5) ++ PW_X3 ca a7) ++ PW_X3 ca a9)) (rfl) ?_
    refine cw_iinc (v := 4) (lv' := [(1, .int 4), (0, .ref h0)]) hC dX9_init_42 (k := 0) rfl (by decide) (by decide) rfl ?_
    refine cw_goto (tgt := 20) hC dX9_init_45 (by decide) ?_
    refine cw_iload_n hC dX9_init_20 rfl 0 rfl ?_
    refine cw_aload_n hC dX9_init_21 rfl 1 rfl ?_
    refine cw_get hC 0 cl_X9 fh_X9_11 rfl rfl dX9_init_22 ?_
    refine cw_alen (v := 6) hC 1 2 (rfl) rfl rfl dX9_init_25 ?_
    refine cw_icmp_ge (tgt := 48) hC dX9_init_26 (by decide) (fun hc => absurd hc (by decide)) (fun _ => ?_)
    refine cw_aload_n hC dX9_init_29 rfl 1 rfl ?_
    refine cw_get hC 0 cl_X9 fh_X9_11 rfl rfl dX9_init_30 ?_
    refine cw_iload_n hC dX9_init_33 rfl 0 rfl ?_
    refine cw_new hC cl_X3 kl_X9_9 ki_X3 kn_X3 kd_X3 (by rw [hR]; exact ⟨Nat.le_of_ble_eq_true rfl, Nat.le_of_ble_eq_true rfl⟩) dX9_init_34 (fun q10 => ?_)
    refine cw_dup hC dX9_init_37 rfl ?_
    refine cw_initN (ex := []) (rest := [.ref q10, .int 4, .ref q1]) hC (ct_X3_init) kx_X9_21 (by rw [hR]; exact ⟨rfl, rfl, Nat.le_of_ble_eq_true rfl, Nat.le_of_ble_eq_true rfl⟩) (by rw [hR]; exact ⟨Nat.le_of_ble_eq_true rfl, Nat.le_of_ble_eq_true rfl⟩) rfl rfl (Nat.le_of_ble_eq_true rfl) dX9_init_38 (fun a11 ha11 => ?_)
    subst ha11
    refine cw_eq (ws' := (h0, .inr (9, [.ref q1, .int 0])) :: ((((([(q1, .inl (ca 2, 6, .inr (.inr (.inr (.inr (va_up (va_up (va_up (va_up (fun _ => none) 0 (some (a3 0))) 1 (some (a5 0))) 2 (some (a7 0))) 3 (some (a9 0))))))))] ++ PW_X3 ca a3) ++ PW_X3 ca a5) ++ PW_X3 ca a7) ++ PW_X3 ca a9) ++ PW_X3 ca a11)) rfl ?_
    refine cw_astq (C := RX3) (T := TX3) (N := 5) hC 1 2 6 (rfl) rfl (rfl) rfl (by unfold vp_in; decide) dX9_init_41 ?_
    refine cw_eq (ws' := (h0, .inr (9, [.ref q1, .int 0])) :: ((((([(q1, .inl (ca 2, 6, .inr (.inr (.inr (.inr (va_up (va_up (va_up (va_up (va_up (fun _ => none) 0 (some (a3 0))) 1 (some (a5 0))) 2 (some (a7 0))) 3 (some (a9 0))) 4 (some (a11 0))))))))] ++ PW_X3 ca a3) ++ PW_X3 ca a5) ++ PW_X3 ca a7) ++ PW_X3 ca a9) ++ PW_X3 ca a11)) (rfl) ?_
    refine cw_iinc (v := 5) (lv' := [(1, .int 5), (0, .ref h0)]) hC dX9_init_42 (k := 0) rfl (by decide) (by decide) rfl ?_
    refine cw_goto (tgt := 20) hC dX9_init_45 (by decide) ?_
    refine cw_iload_n hC dX9_init_20 rfl 0 rfl ?_
    refine cw_aload_n hC dX9_init_21 rfl 1 rfl ?_
    refine cw_get hC 0 cl_X9 fh_X9_11 rfl rfl dX9_init_22 ?_
    refine cw_alen (v := 6) hC 1 2 (rfl) rfl rfl dX9_init_25 ?_
    refine cw_icmp_ge (tgt := 48) hC dX9_init_26 (by decide) (fun hc => absurd hc (by decide)) (fun _ => ?_)
    refine cw_aload_n hC dX9_init_29 rfl 1 rfl ?_
    refine cw_get hC 0 cl_X9 fh_X9_11 rfl rfl dX9_init_30 ?_
    refine cw_iload_n hC dX9_init_33 rfl 0 rfl ?_
    refine cw_new hC cl_X3 kl_X9_9 ki_X3 kn_X3 kd_X3 (by rw [hR]; exact ⟨Nat.le_of_ble_eq_true rfl, Nat.le_of_ble_eq_true rfl⟩) dX9_init_34 (fun q12 => ?_)
    refine cw_dup hC dX9_init_37 rfl ?_
    refine cw_initN (ex := []) (rest := [.ref q12, .int 5, .ref q1]) hC (ct_X3_init) kx_X9_21 (by rw [hR]; exact ⟨rfl, rfl, Nat.le_of_ble_eq_true rfl, Nat.le_of_ble_eq_true rfl⟩) (by rw [hR]; exact ⟨Nat.le_of_ble_eq_true rfl, Nat.le_of_ble_eq_true rfl⟩) rfl rfl (Nat.le_of_ble_eq_true rfl) dX9_init_38 (fun a13 ha13 => ?_)
    subst ha13
    refine cw_eq (ws' := (h0, .inr (9, [.ref q1, .int 0])) :: (((((([(q1, .inl (ca 2, 6, .inr (.inr (.inr (.inr (va_up (va_up (va_up (va_up (va_up (fun _ => none) 0 (some (a3 0))) 1 (some (a5 0))) 2 (some (a7 0))) 3 (some (a9 0))) 4 (some (a11 0))))))))] ++ PW_X3 ca a3) ++ PW_X3 ca a5) ++ PW_X3 ca a7) ++ PW_X3 ca a9) ++ PW_X3 ca a11) ++ PW_X3 ca a13)) rfl ?_
    refine cw_astq (C := RX3) (T := TX3) (N := 5) hC 1 2 7 (rfl) rfl (rfl) rfl (by unfold vp_in; decide) dX9_init_41 ?_
    refine cw_eq (ws' := (h0, .inr (9, [.ref q1, .int 0])) :: (((((([(q1, .inl (ca 2, 6, .inr (.inr (.inr (.inr (va_up (va_up (va_up (va_up (va_up (va_up (fun _ => none) 0 (some (a3 0))) 1 (some (a5 0))) 2 (some (a7 0))) 3 (some (a9 0))) 4 (some (a11 0))) 5 (some (a13 0))))))))] ++ PW_X3 ca a3) ++ PW_X3 ca a5) ++ PW_X3 ca a7) ++ PW_X3 ca a9) ++ PW_X3 ca a11) ++ PW_X3 ca a13)) (rfl) ?_
    refine cw_iinc (v := 6) (lv' := [(1, .int 6), (0, .ref h0)]) hC dX9_init_42 (k := 0) rfl (by decide) (by decide) rfl ?_
    refine cw_goto (tgt := 20) hC dX9_init_45 (by decide) ?_
    refine cw_iload_n hC dX9_init_20 rfl 0 rfl ?_
    refine cw_aload_n hC dX9_init_21 rfl 1 rfl ?_
    refine cw_get hC 0 cl_X9 fh_X9_11 rfl rfl dX9_init_22 ?_
    refine cw_alen (v := 6) hC 1 2 (rfl) rfl rfl dX9_init_25 ?_
    refine cw_icmp_ge (tgt := 48) hC dX9_init_26 (by decide) (fun _ => ?_) (fun hc => absurd (by decide) hc)
    obtain ⟨ad, had⟩ : ∃ ad : Nat → Nat, ad = (fun k => if k = 0 then h0 else if k = 1 then q1 else if k < 3 then a3 (k - 2) else if k < 4 then a5 (k - 3) else if k < 5 then a7 (k - 4) else if k < 6 then a9 (k - 5) else if k < 7 then a11 (k - 6) else if k < 8 then a13 (k - 7) else 0) := ⟨_, rfl⟩
    have hh0 : h0 = ad 0 := by rw [had]; rfl
    have hc1 : q1 = ad 1 := by rw [had]; rfl
    have hp2 : PW_X3 ca a3 = PW_X3 ca (fun k => ad (2 + k)) := ext_X3 (fun k hk => by rw [had]; show _ = (if 2 + k = 0 then _ else _); simp only [show ¬ (2 + k = 0) by omega, if_false, show ¬ (2 + k = 1) by omega, show 2 + k < 3 by omega, if_true]; congr 1; omega)
    have hz2 : a3 0 = ad 2 := by rw [had]; rfl
    have hp3 : PW_X3 ca a5 = PW_X3 ca (fun k => ad (3 + k)) := ext_X3 (fun k hk => by rw [had]; show _ = (if 3 + k = 0 then _ else _); simp only [show ¬ (3 + k = 0) by omega, if_false, show ¬ (3 + k = 1) by omega, show ¬ (3 + k < 3) by omega, show 3 + k < 4 by omega, if_true]; congr 1; omega)
    have hz3 : a5 0 = ad 3 := by rw [had]; rfl
    have hp4 : PW_X3 ca a7 = PW_X3 ca (fun k => ad (4 + k)) := ext_X3 (fun k hk => by rw [had]; show _ = (if 4 + k = 0 then _ else _); simp only [show ¬ (4 + k = 0) by omega, if_false, show ¬ (4 + k = 1) by omega, show ¬ (4 + k < 3) by omega, show ¬ (4 + k < 4) by omega, show 4 + k < 5 by omega, if_true]; congr 1; omega)
    have hz4 : a7 0 = ad 4 := by rw [had]; rfl
    have hp5 : PW_X3 ca a9 = PW_X3 ca (fun k => ad (5 + k)) := ext_X3 (fun k hk => by rw [had]; show _ = (if 5 + k = 0 then _ else _); simp only [show ¬ (5 + k = 0) by omega, if_false, show ¬ (5 + k = 1) by omega, show ¬ (5 + k < 3) by omega, show ¬ (5 + k < 4) by omega, show ¬ (5 + k < 5) by omega, show 5 + k < 6 by omega, if_true]; congr 1; omega)
    have hz5 : a9 0 = ad 5 := by rw [had]; rfl
    have hp6 : PW_X3 ca a11 = PW_X3 ca (fun k => ad (6 + k)) := ext_X3 (fun k hk => by rw [had]; show _ = (if 6 + k = 0 then _ else _); simp only [show ¬ (6 + k = 0) by omega, if_false, show ¬ (6 + k = 1) by omega, show ¬ (6 + k < 3) by omega, show ¬ (6 + k < 4) by omega, show ¬ (6 + k < 5) by omega, show ¬ (6 + k < 6) by omega, show 6 + k < 7 by omega, if_true]; congr 1; omega)
    have hz6 : a11 0 = ad 6 := by rw [had]; rfl
    have hp7 : PW_X3 ca a13 = PW_X3 ca (fun k => ad (7 + k)) := ext_X3 (fun k hk => by rw [had]; show _ = (if 7 + k = 0 then _ else _); simp only [show ¬ (7 + k = 0) by omega, if_false, show ¬ (7 + k = 1) by omega, show ¬ (7 + k < 3) by omega, show ¬ (7 + k < 4) by omega, show ¬ (7 + k < 5) by omega, show ¬ (7 + k < 6) by omega, show ¬ (7 + k < 7) by omega, show 7 + k < 8 by omega, if_true]; congr 1; omega)
    have hz7 : a13 0 = ad 7 := by rw [had]; rfl
    refine cw_eq (ws' := PW_X9 ca ad) ?_ ?_
    · unfold PW_X9
      simp only [hh0, hp2, hp3, hp4, hp5, hp6, hp7, hc1, hz2, hz3, hz4, hz5, hz6, hz7]
    · exact cw_vret hC ad hr dX9_init_48 ⟨Nat.le_refl _, Nat.le_refl _⟩ hh0.symm (fun H a b => ⟨a, b⟩))
def PW_X8 (ca : Nat → ClassId) (ad : Nat → Nat) : va_W := (ad 0, .inr (8, [.ref (ad 1), .ref (ad 2), .ref (ad 3), .int 10, .int 0, .int 16, .int 0, .int 1, .int 0, .int (-1)])) :: (((((((([(ad 1, .inl (ca 3, 4, .inr (.inr (.inr (.inr (va_up (va_up (va_up (va_up (fun _ => none) 0 (some (ad 4))) 1 (some (ad 12))) 2 (some (ad 20))) 3 (some (ad 28))))))))] ++ [(ad 2, .inl (ca 4, 2, .inr (.inr (.inr (.inr (va_up (va_up (fun _ => none) 0 (some (ad 36))) 1 (some (ad 37))))))))]) ++ [(ad 3, .inl (ca 0, 20, .inl (fun _ => 0)))]) ++ PW_X9 ca (fun k => ad (4 + k))) ++ PW_X9 ca (fun k => ad (12 + k))) ++ PW_X9 ca (fun k => ad (20 + k))) ++ PW_X9 ca (fun k => ad (28 + k))) ++ PW_X2 ca 0 (fun k => ad (36 + k))) ++ PW_X2 ca 1 (fun k => ad (37 + k)))
theorem ext_X8 {ca : Nat → ClassId} {a b : Nat → Nat} (h : ∀ k, k < 38 → a k = b k) : PW_X8 ca a = PW_X8 ca b := by
  unfold PW_X8
  have e0 : a 0 = b 0 := h 0 (by omega)
  have e1 : a 1 = b 1 := h 1 (by omega)
  have e2 : a 2 = b 2 := h 2 (by omega)
  have e3 : a 3 = b 3 := h 3 (by omega)
  have e4 : a 4 = b 4 := h 4 (by omega)
  have e12 : a 12 = b 12 := h 12 (by omega)
  have e20 : a 20 = b 20 := h 20 (by omega)
  have e28 : a 28 = b 28 := h 28 (by omega)
  have e36 : a 36 = b 36 := h 36 (by omega)
  have e37 : a 37 = b 37 := h 37 (by omega)
  have p4 : PW_X9 ca (fun k => a (4 + k)) = PW_X9 ca (fun k => b (4 + k)) := ext_X9 (fun k hk => h (4 + k) (by omega))
  have p12 : PW_X9 ca (fun k => a (12 + k)) = PW_X9 ca (fun k => b (12 + k)) := ext_X9 (fun k hk => h (12 + k) (by omega))
  have p20 : PW_X9 ca (fun k => a (20 + k)) = PW_X9 ca (fun k => b (20 + k)) := ext_X9 (fun k hk => h (20 + k) (by omega))
  have p28 : PW_X9 ca (fun k => a (28 + k)) = PW_X9 ca (fun k => b (28 + k)) := ext_X9 (fun k hk => h (28 + k) (by omega))
  have p36 : PW_X2 ca 0 (fun k => a (36 + k)) = PW_X2 ca 0 (fun k => b (36 + k)) := ext_X2 (fun k hk => h (36 + k) (by omega))
  have p37 : PW_X2 ca 1 (fun k => a (37 + k)) = PW_X2 ca 1 (fun k => b (37 + k)) := ext_X2 (fun k hk => h (37 + k) (by omega))
  simp only [e0, e1, e2, e3, e4, e12, e20, e28, e36, e37, p4, p12, p20, p28, p36, p37]
theorem len_X8 {ca : Nat → ClassId} {ad : Nat → Nat} : (PW_X8 ca ad).length = 38 := by
  unfold PW_X8
  simp only [List.length_append, List.length_cons, List.length_nil, len_X2, len_X9]
def rm_X8_init : Room := { frames := 3, cells := 37, slots := 190, locals := 61 }
set_option maxHeartbeats 4000000 in
set_option maxRecDepth 20000 in
theorem ct_X8_init {l : Launch} {ca : Nat → ClassId} {w : gx_V} : ct l ca w yX8_init cX8_init 2 rm_X8_init [] (.inr (8, [.null, .null, .null, .int 0, .int 0, .int 0, .int 0, .int 0, .int 0, .int 0])) 37 190 (PW_X8 ca) :=
  ct_of (own := RX8) (by decide +kernel) rfl rfl (Nat.le_of_ble_eq_true rfl) (fun _ => rfl) (fun z h0 hC hl hR hr => by
    subst hl
    refine cw_eq (ws' := (h0, .inr (8, [.null, .null, .null, .int 0, .int 0, .int 0, .int 0, .int 0, .int 0, .int 0])) :: []) rfl ?_
    refine cw_aload_n hC dX8_init_0 rfl 0 rfl ?_
    refine cw_obj hC ko_X8_3 ko_i ko_c (by rw [hR]; exact ⟨Nat.le_of_ble_eq_true rfl, Nat.le_of_ble_eq_true rfl⟩) (Nat.le_of_ble_eq_true rfl) dX8_init_1 ?_
    refine cw_aload_n hC dX8_init_4 rfl 0 rfl ?_
    refine cw_iconst (v := 4) hC dX8_init_5 (by decide) ?_
    refine cw_newq (C := "GreenLine$Signal") (N := 4) hC 3 kl_X8_9 (by simp [gx_ao]) rfl (by decide) (by decide) (by decide) (by rw [hR]; exact ⟨Nat.le_of_ble_eq_true rfl, Nat.le_of_ble_eq_true rfl⟩) dX8_init_6 (fun q1 => ?_)
    refine cw_eq (ws' := (h0, .inr (8, [.null, .null, .null, .int 0, .int 0, .int 0, .int 0, .int 0, .int 0, .int 0])) :: [(q1, .inl (ca 3, 4, .inr (.inr (.inr (.inr (fun _ => none))))))]) rfl ?_
    refine cw_putF hC cl_X8 ff_X8_11 rfl rfl rfl (Nat.le_of_ble_eq_true rfl) dX8_init_9 ?_
    refine cw_eq (ws' := (h0, .inr (8, [.ref q1, .null, .null, .int 0, .int 0, .int 0, .int 0, .int 0, .int 0, .int 0])) :: [(q1, .inl (ca 3, 4, .inr (.inr (.inr (.inr (fun _ => none))))))]) rfl ?_
    refine cw_aload_n hC dX8_init_12 rfl 0 rfl ?_
    refine cw_iconst (v := 2) hC dX8_init_13 (by decide) ?_
    refine cw_newq (C := "GreenLine$Channel") (N := 2) hC 4 kl_X8_17 (by simp [gx_ao]) rfl (by decide) (by decide) (by decide) (by rw [hR]; exact ⟨Nat.le_of_ble_eq_true rfl, Nat.le_of_ble_eq_true rfl⟩) dX8_init_14 (fun q2 => ?_)
    refine cw_eq (ws' := (h0, .inr (8, [.ref q1, .null, .null, .int 0, .int 0, .int 0, .int 0, .int 0, .int 0, .int 0])) :: ([(q1, .inl (ca 3, 4, .inr (.inr (.inr (.inr (fun _ => none))))))] ++ [(q2, .inl (ca 4, 2, .inr (.inr (.inr (.inr (fun _ => none))))))])) rfl ?_
    refine cw_putF hC cl_X8 ff_X8_19 rfl rfl rfl (Nat.le_of_ble_eq_true rfl) dX8_init_17 ?_
    refine cw_eq (ws' := (h0, .inr (8, [.ref q1, .ref q2, .null, .int 0, .int 0, .int 0, .int 0, .int 0, .int 0, .int 0])) :: ([(q1, .inl (ca 3, 4, .inr (.inr (.inr (.inr (fun _ => none))))))] ++ [(q2, .inl (ca 4, 2, .inr (.inr (.inr (.inr (fun _ => none))))))])) rfl ?_
    refine cw_aload_n hC dX8_init_20 rfl 0 rfl ?_
    refine cw_bipush (v := 20) hC dX8_init_21 (by decide) ?_
    refine cw_newa (atype := .int) (ty := .int) (N := 20) (a0 := (20, .inl (fun _ => 0))) hC 0 ka_int rfl rfl (fun _ _ h => h) (fun _ => rfl) (by decide) (by decide) (by decide) (by rw [hR]; exact ⟨Nat.le_of_ble_eq_true rfl, Nat.le_of_ble_eq_true rfl⟩) dX8_init_23 (fun q3 => ?_)
    refine cw_eq (ws' := (h0, .inr (8, [.ref q1, .ref q2, .null, .int 0, .int 0, .int 0, .int 0, .int 0, .int 0, .int 0])) :: (([(q1, .inl (ca 3, 4, .inr (.inr (.inr (.inr (fun _ => none))))))] ++ [(q2, .inl (ca 4, 2, .inr (.inr (.inr (.inr (fun _ => none))))))]) ++ [(q3, .inl (ca 0, 20, .inl (fun _ => 0)))])) rfl ?_
    refine cw_putF hC cl_X8 ff_X8_23 rfl rfl rfl (Nat.le_of_ble_eq_true rfl) dX8_init_25 ?_
    refine cw_eq (ws' := (h0, .inr (8, [.ref q1, .ref q2, .ref q3, .int 0, .int 0, .int 0, .int 0, .int 0, .int 0, .int 0])) :: (([(q1, .inl (ca 3, 4, .inr (.inr (.inr (.inr (fun _ => none))))))] ++ [(q2, .inl (ca 4, 2, .inr (.inr (.inr (.inr (fun _ => none))))))]) ++ [(q3, .inl (ca 0, 20, .inl (fun _ => 0)))])) rfl ?_
    refine cw_aload_n hC dX8_init_28 rfl 0 rfl ?_
    refine cw_bipush (v := 10) hC dX8_init_29 (by decide) ?_
    refine cw_put hC cl_X8 fq_X8_27 rfl rfl rfl (Nat.le_of_ble_eq_true rfl) dX8_init_31 ?_
    refine cw_eq (ws' := (h0, .inr (8, [.ref q1, .ref q2, .ref q3, .int 10, .int 0, .int 0, .int 0, .int 0, .int 0, .int 0])) :: (([(q1, .inl (ca 3, 4, .inr (.inr (.inr (.inr (fun _ => none))))))] ++ [(q2, .inl (ca 4, 2, .inr (.inr (.inr (.inr (fun _ => none))))))]) ++ [(q3, .inl (ca 0, 20, .inl (fun _ => 0)))])) rfl ?_
    refine cw_aload_n hC dX8_init_34 rfl 0 rfl ?_
    refine cw_iconst (v := 0) hC dX8_init_35 (by decide) ?_
    refine cw_put hC cl_X8 fq_X8_31 rfl rfl rfl (Nat.le_of_ble_eq_true rfl) dX8_init_36 ?_
    refine cw_eq (ws' := (h0, .inr (8, [.ref q1, .ref q2, .ref q3, .int 10, .int 0, .int 0, .int 0, .int 0, .int 0, .int 0])) :: (([(q1, .inl (ca 3, 4, .inr (.inr (.inr (.inr (fun _ => none))))))] ++ [(q2, .inl (ca 4, 2, .inr (.inr (.inr (.inr (fun _ => none))))))]) ++ [(q3, .inl (ca 0, 20, .inl (fun _ => 0)))])) rfl ?_
    refine cw_aload_n hC dX8_init_39 rfl 0 rfl ?_
    refine cw_bipush (v := 16) hC dX8_init_40 (by decide) ?_
    refine cw_put hC cl_X8 fq_X8_34 rfl rfl rfl (Nat.le_of_ble_eq_true rfl) dX8_init_42 ?_
    refine cw_eq (ws' := (h0, .inr (8, [.ref q1, .ref q2, .ref q3, .int 10, .int 0, .int 16, .int 0, .int 0, .int 0, .int 0])) :: (([(q1, .inl (ca 3, 4, .inr (.inr (.inr (.inr (fun _ => none))))))] ++ [(q2, .inl (ca 4, 2, .inr (.inr (.inr (.inr (fun _ => none))))))]) ++ [(q3, .inl (ca 0, 20, .inl (fun _ => 0)))])) rfl ?_
    refine cw_aload_n hC dX8_init_45 rfl 0 rfl ?_
    refine cw_iconst (v := 0) hC dX8_init_46 (by decide) ?_
    refine cw_put hC cl_X8 fq_X8_37 rfl rfl rfl (Nat.le_of_ble_eq_true rfl) dX8_init_47 ?_
    refine cw_eq (ws' := (h0, .inr (8, [.ref q1, .ref q2, .ref q3, .int 10, .int 0, .int 16, .int 0, .int 0, .int 0, .int 0])) :: (([(q1, .inl (ca 3, 4, .inr (.inr (.inr (.inr (fun _ => none))))))] ++ [(q2, .inl (ca 4, 2, .inr (.inr (.inr (.inr (fun _ => none))))))]) ++ [(q3, .inl (ca 0, 20, .inl (fun _ => 0)))])) rfl ?_
    refine cw_aload_n hC dX8_init_50 rfl 0 rfl ?_
    refine cw_iconst (v := 1) hC dX8_init_51 (by decide) ?_
    refine cw_put hC cl_X8 fq_X8_40 rfl rfl rfl (Nat.le_of_ble_eq_true rfl) dX8_init_52 ?_
    refine cw_eq (ws' := (h0, .inr (8, [.ref q1, .ref q2, .ref q3, .int 10, .int 0, .int 16, .int 0, .int 1, .int 0, .int 0])) :: (([(q1, .inl (ca 3, 4, .inr (.inr (.inr (.inr (fun _ => none))))))] ++ [(q2, .inl (ca 4, 2, .inr (.inr (.inr (.inr (fun _ => none))))))]) ++ [(q3, .inl (ca 0, 20, .inl (fun _ => 0)))])) rfl ?_
    refine cw_aload_n hC dX8_init_55 rfl 0 rfl ?_
    refine cw_iconst (v := 0) hC dX8_init_56 (by decide) ?_
    refine cw_put hC cl_X8 fq_X8_43 rfl rfl rfl (Nat.le_of_ble_eq_true rfl) dX8_init_57 ?_
    refine cw_eq (ws' := (h0, .inr (8, [.ref q1, .ref q2, .ref q3, .int 10, .int 0, .int 16, .int 0, .int 1, .int 0, .int 0])) :: (([(q1, .inl (ca 3, 4, .inr (.inr (.inr (.inr (fun _ => none))))))] ++ [(q2, .inl (ca 4, 2, .inr (.inr (.inr (.inr (fun _ => none))))))]) ++ [(q3, .inl (ca 0, 20, .inl (fun _ => 0)))])) rfl ?_
    refine cw_aload_n hC dX8_init_60 rfl 0 rfl ?_
    refine cw_iconst (v := (-1)) hC dX8_init_61 (by decide) ?_
    refine cw_put hC cl_X8 fq_X8_46 rfl rfl rfl (Nat.le_of_ble_eq_true rfl) dX8_init_62 ?_
    refine cw_eq (ws' := (h0, .inr (8, [.ref q1, .ref q2, .ref q3, .int 10, .int 0, .int 16, .int 0, .int 1, .int 0, .int (-1)])) :: (([(q1, .inl (ca 3, 4, .inr (.inr (.inr (.inr (fun _ => none))))))] ++ [(q2, .inl (ca 4, 2, .inr (.inr (.inr (.inr (fun _ => none))))))]) ++ [(q3, .inl (ca 0, 20, .inl (fun _ => 0)))])) rfl ?_
    refine cw_iconst (v := 0) hC dX8_init_65 (by decide) ?_
    refine cw_istore_n (lv' := [(1, .int 0), (0, .ref h0)]) hC dX8_init_66 rfl (by decide) rfl ?_
    refine cw_iload_n hC dX8_init_67 rfl 0 rfl ?_
    refine cw_aload_n hC dX8_init_68 rfl 1 rfl ?_
    refine cw_get hC 0 cl_X8 fh_X8_11 rfl rfl dX8_init_69 ?_
    refine cw_alen (v := 4) hC 1 3 (rfl) rfl rfl dX8_init_72 ?_
    refine cw_icmp_ge (tgt := 95) hC dX8_init_73 (by decide) (fun hc => absurd hc (by decide)) (fun _ => ?_)
    refine cw_aload_n hC dX8_init_76 rfl 1 rfl ?_
    refine cw_get hC 0 cl_X8 fh_X8_11 rfl rfl dX8_init_77 ?_
    refine cw_iload_n hC dX8_init_80 rfl 0 rfl ?_
    refine cw_new hC cl_X9 kl_X8_9 ki_X9 kn_X9 kd_X9 (by rw [hR]; exact ⟨Nat.le_of_ble_eq_true rfl, Nat.le_of_ble_eq_true rfl⟩) dX8_init_81 (fun q4 => ?_)
    refine cw_dup hC dX8_init_84 rfl ?_
    refine cw_init (ex := []) (rest := [.ref q4, .int 0, .ref q1]) hC (ct_X9_init) kx_X8_49 (by rw [hR]; exact ⟨rfl, rfl, Nat.le_of_ble_eq_true rfl, Nat.le_of_ble_eq_true rfl⟩) (by rw [hR]; exact ⟨Nat.le_of_ble_eq_true rfl, Nat.le_of_ble_eq_true rfl⟩) rfl rfl (Nat.le_of_ble_eq_true rfl) dX8_init_85 (fun a5 ha5 => ?_)
    subst ha5
    refine cw_eq (ws' := (h0, .inr (8, [.ref q1, .ref q2, .ref q3, .int 10, .int 0, .int 16, .int 0, .int 1, .int 0, .int (-1)])) :: ((([(q1, .inl (ca 3, 4, .inr (.inr (.inr (.inr (fun _ => none))))))] ++ [(q2, .inl (ca 4, 2, .inr (.inr (.inr (.inr (fun _ => none))))))]) ++ [(q3, .inl (ca 0, 20, .inl (fun _ => 0)))]) ++ PW_X9 ca a5)) rfl ?_
    refine cw_astq (C := RX9) (T := TX9) (N := 2) hC 1 3 4 (rfl) rfl (rfl) rfl (by unfold vp_in; decide) dX8_init_88 ?_
    refine cw_eq (ws' := (h0, .inr (8, [.ref q1, .ref q2, .ref q3, .int 10, .int 0, .int 16, .int 0, .int 1, .int 0, .int (-1)])) :: ((([(q1, .inl (ca 3, 4, .inr (.inr (.inr (.inr (va_up (fun _ => none) 0 (some (a5 0))))))))] ++ [(q2, .inl (ca 4, 2, .inr (.inr (.inr (.inr (fun _ => none))))))]) ++ [(q3, .inl (ca 0, 20, .inl (fun _ => 0)))]) ++ PW_X9 ca a5)) (rfl) ?_
    refine cw_iinc (v := 1) (lv' := [(1, .int 1), (0, .ref h0)]) hC dX8_init_89 (k := 0) rfl (by decide) (by decide) rfl ?_
    refine cw_goto (tgt := 67) hC dX8_init_92 (by decide) ?_
    refine cw_iload_n hC dX8_init_67 rfl 0 rfl ?_
    refine cw_aload_n hC dX8_init_68 rfl 1 rfl ?_
    refine cw_get hC 0 cl_X8 fh_X8_11 rfl rfl dX8_init_69 ?_
    refine cw_alen (v := 4) hC 1 3 (rfl) rfl rfl dX8_init_72 ?_
    refine cw_icmp_ge (tgt := 95) hC dX8_init_73 (by decide) (fun hc => absurd hc (by decide)) (fun _ => ?_)
    refine cw_aload_n hC dX8_init_76 rfl 1 rfl ?_
    refine cw_get hC 0 cl_X8 fh_X8_11 rfl rfl dX8_init_77 ?_
    refine cw_iload_n hC dX8_init_80 rfl 0 rfl ?_
    refine cw_new hC cl_X9 kl_X8_9 ki_X9 kn_X9 kd_X9 (by rw [hR]; exact ⟨Nat.le_of_ble_eq_true rfl, Nat.le_of_ble_eq_true rfl⟩) dX8_init_81 (fun q6 => ?_)
    refine cw_dup hC dX8_init_84 rfl ?_
    refine cw_init (ex := []) (rest := [.ref q6, .int 1, .ref q1]) hC (ct_X9_init) kx_X8_49 (by rw [hR]; exact ⟨rfl, rfl, Nat.le_of_ble_eq_true rfl, Nat.le_of_ble_eq_true rfl⟩) (by rw [hR]; exact ⟨Nat.le_of_ble_eq_true rfl, Nat.le_of_ble_eq_true rfl⟩) rfl rfl (Nat.le_of_ble_eq_true rfl) dX8_init_85 (fun a7 ha7 => ?_)
    subst ha7
    refine cw_eq (ws' := (h0, .inr (8, [.ref q1, .ref q2, .ref q3, .int 10, .int 0, .int 16, .int 0, .int 1, .int 0, .int (-1)])) :: (((([(q1, .inl (ca 3, 4, .inr (.inr (.inr (.inr (va_up (fun _ => none) 0 (some (a5 0))))))))] ++ [(q2, .inl (ca 4, 2, .inr (.inr (.inr (.inr (fun _ => none))))))]) ++ [(q3, .inl (ca 0, 20, .inl (fun _ => 0)))]) ++ PW_X9 ca a5) ++ PW_X9 ca a7)) rfl ?_
    refine cw_astq (C := RX9) (T := TX9) (N := 2) hC 1 3 12 (rfl) rfl (cx_c.trans ((cx_r (n := 11) (i := 0) (by simp only [List.length_append, List.length_cons, List.length_nil, len_X9])).trans rfl)) rfl (by unfold vp_in; decide) dX8_init_88 ?_
    refine cw_eq (ws' := (h0, .inr (8, [.ref q1, .ref q2, .ref q3, .int 10, .int 0, .int 16, .int 0, .int 1, .int 0, .int (-1)])) :: (((([(q1, .inl (ca 3, 4, .inr (.inr (.inr (.inr (va_up (va_up (fun _ => none) 0 (some (a5 0))) 1 (some (a7 0))))))))] ++ [(q2, .inl (ca 4, 2, .inr (.inr (.inr (.inr (fun _ => none))))))]) ++ [(q3, .inl (ca 0, 20, .inl (fun _ => 0)))]) ++ PW_X9 ca a5) ++ PW_X9 ca a7)) (rfl) ?_
    refine cw_iinc (v := 2) (lv' := [(1, .int 2), (0, .ref h0)]) hC dX8_init_89 (k := 0) rfl (by decide) (by decide) rfl ?_
    refine cw_goto (tgt := 67) hC dX8_init_92 (by decide) ?_
    refine cw_iload_n hC dX8_init_67 rfl 0 rfl ?_
    refine cw_aload_n hC dX8_init_68 rfl 1 rfl ?_
    refine cw_get hC 0 cl_X8 fh_X8_11 rfl rfl dX8_init_69 ?_
    refine cw_alen (v := 4) hC 1 3 (rfl) rfl rfl dX8_init_72 ?_
    refine cw_icmp_ge (tgt := 95) hC dX8_init_73 (by decide) (fun hc => absurd hc (by decide)) (fun _ => ?_)
    refine cw_aload_n hC dX8_init_76 rfl 1 rfl ?_
    refine cw_get hC 0 cl_X8 fh_X8_11 rfl rfl dX8_init_77 ?_
    refine cw_iload_n hC dX8_init_80 rfl 0 rfl ?_
    refine cw_new hC cl_X9 kl_X8_9 ki_X9 kn_X9 kd_X9 (by rw [hR]; exact ⟨Nat.le_of_ble_eq_true rfl, Nat.le_of_ble_eq_true rfl⟩) dX8_init_81 (fun q8 => ?_)
    refine cw_dup hC dX8_init_84 rfl ?_
    refine cw_init (ex := []) (rest := [.ref q8, .int 2, .ref q1]) hC (ct_X9_init) kx_X8_49 (by rw [hR]; exact ⟨rfl, rfl, Nat.le_of_ble_eq_true rfl, Nat.le_of_ble_eq_true rfl⟩) (by rw [hR]; exact ⟨Nat.le_of_ble_eq_true rfl, Nat.le_of_ble_eq_true rfl⟩) rfl rfl (Nat.le_of_ble_eq_true rfl) dX8_init_85 (fun a9 ha9 => ?_)
    subst ha9
    refine cw_eq (ws' := (h0, .inr (8, [.ref q1, .ref q2, .ref q3, .int 10, .int 0, .int 16, .int 0, .int 1, .int 0, .int (-1)])) :: ((((([(q1, .inl (ca 3, 4, .inr (.inr (.inr (.inr (va_up (va_up (fun _ => none) 0 (some (a5 0))) 1 (some (a7 0))))))))] ++ [(q2, .inl (ca 4, 2, .inr (.inr (.inr (.inr (fun _ => none))))))]) ++ [(q3, .inl (ca 0, 20, .inl (fun _ => 0)))]) ++ PW_X9 ca a5) ++ PW_X9 ca a7) ++ PW_X9 ca a9)) rfl ?_
    refine cw_astq (C := RX9) (T := TX9) (N := 2) hC 1 3 20 (rfl) rfl (cx_c.trans ((cx_r (n := 19) (i := 0) (by simp only [List.length_append, List.length_cons, List.length_nil, len_X9])).trans rfl)) rfl (by unfold vp_in; decide) dX8_init_88 ?_
    refine cw_eq (ws' := (h0, .inr (8, [.ref q1, .ref q2, .ref q3, .int 10, .int 0, .int 16, .int 0, .int 1, .int 0, .int (-1)])) :: ((((([(q1, .inl (ca 3, 4, .inr (.inr (.inr (.inr (va_up (va_up (va_up (fun _ => none) 0 (some (a5 0))) 1 (some (a7 0))) 2 (some (a9 0))))))))] ++ [(q2, .inl (ca 4, 2, .inr (.inr (.inr (.inr (fun _ => none))))))]) ++ [(q3, .inl (ca 0, 20, .inl (fun _ => 0)))]) ++ PW_X9 ca a5) ++ PW_X9 ca a7) ++ PW_X9 ca a9)) (rfl) ?_
    refine cw_iinc (v := 3) (lv' := [(1, .int 3), (0, .ref h0)]) hC dX8_init_89 (k := 0) rfl (by decide) (by decide) rfl ?_
    refine cw_goto (tgt := 67) hC dX8_init_92 (by decide) ?_
    refine cw_iload_n hC dX8_init_67 rfl 0 rfl ?_
    refine cw_aload_n hC dX8_init_68 rfl 1 rfl ?_
    refine cw_get hC 0 cl_X8 fh_X8_11 rfl rfl dX8_init_69 ?_
    refine cw_alen (v := 4) hC 1 3 (rfl) rfl rfl dX8_init_72 ?_
    refine cw_icmp_ge (tgt := 95) hC dX8_init_73 (by decide) (fun hc => absurd hc (by decide)) (fun _ => ?_)
    refine cw_aload_n hC dX8_init_76 rfl 1 rfl ?_
    refine cw_get hC 0 cl_X8 fh_X8_11 rfl rfl dX8_init_77 ?_
    refine cw_iload_n hC dX8_init_80 rfl 0 rfl ?_
    refine cw_new hC cl_X9 kl_X8_9 ki_X9 kn_X9 kd_X9 (by rw [hR]; exact ⟨Nat.le_of_ble_eq_true rfl, Nat.le_of_ble_eq_true rfl⟩) dX8_init_81 (fun q10 => ?_)
    refine cw_dup hC dX8_init_84 rfl ?_
    refine cw_init (ex := []) (rest := [.ref q10, .int 3, .ref q1]) hC (ct_X9_init) kx_X8_49 (by rw [hR]; exact ⟨rfl, rfl, Nat.le_of_ble_eq_true rfl, Nat.le_of_ble_eq_true rfl⟩) (by rw [hR]; exact ⟨Nat.le_of_ble_eq_true rfl, Nat.le_of_ble_eq_true rfl⟩) rfl rfl (Nat.le_of_ble_eq_true rfl) dX8_init_85 (fun a11 ha11 => ?_)
    subst ha11
    refine cw_eq (ws' := (h0, .inr (8, [.ref q1, .ref q2, .ref q3, .int 10, .int 0, .int 16, .int 0, .int 1, .int 0, .int (-1)])) :: (((((([(q1, .inl (ca 3, 4, .inr (.inr (.inr (.inr (va_up (va_up (va_up (fun _ => none) 0 (some (a5 0))) 1 (some (a7 0))) 2 (some (a9 0))))))))] ++ [(q2, .inl (ca 4, 2, .inr (.inr (.inr (.inr (fun _ => none))))))]) ++ [(q3, .inl (ca 0, 20, .inl (fun _ => 0)))]) ++ PW_X9 ca a5) ++ PW_X9 ca a7) ++ PW_X9 ca a9) ++ PW_X9 ca a11)) rfl ?_
    refine cw_astq (C := RX9) (T := TX9) (N := 2) hC 1 3 28 (rfl) rfl (cx_c.trans ((cx_r (n := 27) (i := 0) (by simp only [List.length_append, List.length_cons, List.length_nil, len_X9])).trans rfl)) rfl (by unfold vp_in; decide) dX8_init_88 ?_
    refine cw_eq (ws' := (h0, .inr (8, [.ref q1, .ref q2, .ref q3, .int 10, .int 0, .int 16, .int 0, .int 1, .int 0, .int (-1)])) :: (((((([(q1, .inl (ca 3, 4, .inr (.inr (.inr (.inr (va_up (va_up (va_up (va_up (fun _ => none) 0 (some (a5 0))) 1 (some (a7 0))) 2 (some (a9 0))) 3 (some (a11 0))))))))] ++ [(q2, .inl (ca 4, 2, .inr (.inr (.inr (.inr (fun _ => none))))))]) ++ [(q3, .inl (ca 0, 20, .inl (fun _ => 0)))]) ++ PW_X9 ca a5) ++ PW_X9 ca a7) ++ PW_X9 ca a9) ++ PW_X9 ca a11)) (rfl) ?_
    refine cw_iinc (v := 4) (lv' := [(1, .int 4), (0, .ref h0)]) hC dX8_init_89 (k := 0) rfl (by decide) (by decide) rfl ?_
    refine cw_goto (tgt := 67) hC dX8_init_92 (by decide) ?_
    refine cw_iload_n hC dX8_init_67 rfl 0 rfl ?_
    refine cw_aload_n hC dX8_init_68 rfl 1 rfl ?_
    refine cw_get hC 0 cl_X8 fh_X8_11 rfl rfl dX8_init_69 ?_
    refine cw_alen (v := 4) hC 1 3 (rfl) rfl rfl dX8_init_72 ?_
    refine cw_icmp_ge (tgt := 95) hC dX8_init_73 (by decide) (fun _ => ?_) (fun hc => absurd (by decide) hc)
    refine cw_iconst (v := 0) hC dX8_init_95 (by decide) ?_
    refine cw_istore_n (lv' := [(1, .int 0), (0, .ref h0)]) hC dX8_init_96 rfl (by decide) rfl ?_
    refine cw_iload_n hC dX8_init_97 rfl 0 rfl ?_
    refine cw_aload_n hC dX8_init_98 rfl 1 rfl ?_
    refine cw_get hC 0 cl_X8 fh_X8_19 rfl rfl dX8_init_99 ?_
    refine cw_alen (v := 2) hC 2 4 (rfl) rfl rfl dX8_init_102 ?_
    refine cw_icmp_ge (tgt := 126) hC dX8_init_103 (by decide) (fun hc => absurd hc (by decide)) (fun _ => ?_)
    refine cw_aload_n hC dX8_init_106 rfl 1 rfl ?_
    refine cw_get hC 0 cl_X8 fh_X8_19 rfl rfl dX8_init_107 ?_
    refine cw_iload_n hC dX8_init_110 rfl 0 rfl ?_
    refine cw_new hC cl_X2 kl_X8_17 ki_X2 kn_X2 kd_X2 (by rw [hR]; exact ⟨Nat.le_of_ble_eq_true rfl, Nat.le_of_ble_eq_true rfl⟩) dX8_init_111 (fun q12 => ?_)
    refine cw_dup hC dX8_init_114 rfl ?_
    refine cw_iload_n hC dX8_init_115 rfl 0 rfl ?_
    refine cw_init (ex := [.int 0]) (rest := [.ref q12, .int 0, .ref q2]) hC (ct_X2_init (v1 := 0)) kx_X8_50 (by rw [hR]; exact ⟨rfl, rfl, Nat.le_of_ble_eq_true rfl, Nat.le_of_ble_eq_true rfl⟩) (by rw [hR]; exact ⟨Nat.le_of_ble_eq_true rfl, Nat.le_of_ble_eq_true rfl⟩) rfl rfl (Nat.le_of_ble_eq_true rfl) dX8_init_116 (fun a13 ha13 => ?_)
    subst ha13
    refine cw_eq (ws' := (h0, .inr (8, [.ref q1, .ref q2, .ref q3, .int 10, .int 0, .int 16, .int 0, .int 1, .int 0, .int (-1)])) :: ((((((([(q1, .inl (ca 3, 4, .inr (.inr (.inr (.inr (va_up (va_up (va_up (va_up (fun _ => none) 0 (some (a5 0))) 1 (some (a7 0))) 2 (some (a9 0))) 3 (some (a11 0))))))))] ++ [(q2, .inl (ca 4, 2, .inr (.inr (.inr (.inr (fun _ => none))))))]) ++ [(q3, .inl (ca 0, 20, .inl (fun _ => 0)))]) ++ PW_X9 ca a5) ++ PW_X9 ca a7) ++ PW_X9 ca a9) ++ PW_X9 ca a11) ++ PW_X2 ca 0 a13)) rfl ?_
    refine cw_astq (C := RX2) (T := TX2) (N := 6) hC 2 4 36 (rfl) rfl (cx_c.trans ((cx_r (n := 35) (i := 0) (by simp only [List.length_append, List.length_cons, List.length_nil, len_X9])).trans rfl)) rfl (by unfold vp_in; decide) dX8_init_119 ?_
    refine cw_eq (ws' := (h0, .inr (8, [.ref q1, .ref q2, .ref q3, .int 10, .int 0, .int 16, .int 0, .int 1, .int 0, .int (-1)])) :: ((((((([(q1, .inl (ca 3, 4, .inr (.inr (.inr (.inr (va_up (va_up (va_up (va_up (fun _ => none) 0 (some (a5 0))) 1 (some (a7 0))) 2 (some (a9 0))) 3 (some (a11 0))))))))] ++ [(q2, .inl (ca 4, 2, .inr (.inr (.inr (.inr (va_up (fun _ => none) 0 (some (a13 0))))))))]) ++ [(q3, .inl (ca 0, 20, .inl (fun _ => 0)))]) ++ PW_X9 ca a5) ++ PW_X9 ca a7) ++ PW_X9 ca a9) ++ PW_X9 ca a11) ++ PW_X2 ca 0 a13)) (rfl) ?_
    refine cw_iinc (v := 1) (lv' := [(1, .int 1), (0, .ref h0)]) hC dX8_init_120 (k := 0) rfl (by decide) (by decide) rfl ?_
    refine cw_goto (tgt := 97) hC dX8_init_123 (by decide) ?_
    refine cw_iload_n hC dX8_init_97 rfl 0 rfl ?_
    refine cw_aload_n hC dX8_init_98 rfl 1 rfl ?_
    refine cw_get hC 0 cl_X8 fh_X8_19 rfl rfl dX8_init_99 ?_
    refine cw_alen (v := 2) hC 2 4 (rfl) rfl rfl dX8_init_102 ?_
    refine cw_icmp_ge (tgt := 126) hC dX8_init_103 (by decide) (fun hc => absurd hc (by decide)) (fun _ => ?_)
    refine cw_aload_n hC dX8_init_106 rfl 1 rfl ?_
    refine cw_get hC 0 cl_X8 fh_X8_19 rfl rfl dX8_init_107 ?_
    refine cw_iload_n hC dX8_init_110 rfl 0 rfl ?_
    refine cw_new hC cl_X2 kl_X8_17 ki_X2 kn_X2 kd_X2 (by rw [hR]; exact ⟨Nat.le_of_ble_eq_true rfl, Nat.le_of_ble_eq_true rfl⟩) dX8_init_111 (fun q14 => ?_)
    refine cw_dup hC dX8_init_114 rfl ?_
    refine cw_iload_n hC dX8_init_115 rfl 0 rfl ?_
    refine cw_init (ex := [.int 1]) (rest := [.ref q14, .int 1, .ref q2]) hC (ct_X2_init (v1 := 1)) kx_X8_50 (by rw [hR]; exact ⟨rfl, rfl, Nat.le_of_ble_eq_true rfl, Nat.le_of_ble_eq_true rfl⟩) (by rw [hR]; exact ⟨Nat.le_of_ble_eq_true rfl, Nat.le_of_ble_eq_true rfl⟩) rfl rfl (Nat.le_of_ble_eq_true rfl) dX8_init_116 (fun a15 ha15 => ?_)
    subst ha15
    refine cw_eq (ws' := (h0, .inr (8, [.ref q1, .ref q2, .ref q3, .int 10, .int 0, .int 16, .int 0, .int 1, .int 0, .int (-1)])) :: (((((((([(q1, .inl (ca 3, 4, .inr (.inr (.inr (.inr (va_up (va_up (va_up (va_up (fun _ => none) 0 (some (a5 0))) 1 (some (a7 0))) 2 (some (a9 0))) 3 (some (a11 0))))))))] ++ [(q2, .inl (ca 4, 2, .inr (.inr (.inr (.inr (va_up (fun _ => none) 0 (some (a13 0))))))))]) ++ [(q3, .inl (ca 0, 20, .inl (fun _ => 0)))]) ++ PW_X9 ca a5) ++ PW_X9 ca a7) ++ PW_X9 ca a9) ++ PW_X9 ca a11) ++ PW_X2 ca 0 a13) ++ PW_X2 ca 1 a15)) rfl ?_
    refine cw_astq (C := RX2) (T := TX2) (N := 6) hC 2 4 37 (rfl) rfl (cx_c.trans ((cx_r (n := 36) (i := 0) (by simp only [List.length_append, List.length_cons, List.length_nil, len_X2, len_X9])).trans rfl)) rfl (by unfold vp_in; decide) dX8_init_119 ?_
    refine cw_eq (ws' := (h0, .inr (8, [.ref q1, .ref q2, .ref q3, .int 10, .int 0, .int 16, .int 0, .int 1, .int 0, .int (-1)])) :: (((((((([(q1, .inl (ca 3, 4, .inr (.inr (.inr (.inr (va_up (va_up (va_up (va_up (fun _ => none) 0 (some (a5 0))) 1 (some (a7 0))) 2 (some (a9 0))) 3 (some (a11 0))))))))] ++ [(q2, .inl (ca 4, 2, .inr (.inr (.inr (.inr (va_up (va_up (fun _ => none) 0 (some (a13 0))) 1 (some (a15 0))))))))]) ++ [(q3, .inl (ca 0, 20, .inl (fun _ => 0)))]) ++ PW_X9 ca a5) ++ PW_X9 ca a7) ++ PW_X9 ca a9) ++ PW_X9 ca a11) ++ PW_X2 ca 0 a13) ++ PW_X2 ca 1 a15)) (rfl) ?_
    refine cw_iinc (v := 2) (lv' := [(1, .int 2), (0, .ref h0)]) hC dX8_init_120 (k := 0) rfl (by decide) (by decide) rfl ?_
    refine cw_goto (tgt := 97) hC dX8_init_123 (by decide) ?_
    refine cw_iload_n hC dX8_init_97 rfl 0 rfl ?_
    refine cw_aload_n hC dX8_init_98 rfl 1 rfl ?_
    refine cw_get hC 0 cl_X8 fh_X8_19 rfl rfl dX8_init_99 ?_
    refine cw_alen (v := 2) hC 2 4 (rfl) rfl rfl dX8_init_102 ?_
    refine cw_icmp_ge (tgt := 126) hC dX8_init_103 (by decide) (fun _ => ?_) (fun hc => absurd (by decide) hc)
    obtain ⟨ad, had⟩ : ∃ ad : Nat → Nat, ad = (fun k => if k = 0 then h0 else if k = 1 then q1 else if k = 2 then q2 else if k = 3 then q3 else if k < 12 then a5 (k - 4) else if k < 20 then a7 (k - 12) else if k < 28 then a9 (k - 20) else if k < 36 then a11 (k - 28) else if k < 37 then a13 (k - 36) else if k < 38 then a15 (k - 37) else 0) := ⟨_, rfl⟩
    have hh0 : h0 = ad 0 := by rw [had]; rfl
    have hc1 : q1 = ad 1 := by rw [had]; rfl
    have hc2 : q2 = ad 2 := by rw [had]; rfl
    have hc3 : q3 = ad 3 := by rw [had]; rfl
    have hp4 : PW_X9 ca a5 = PW_X9 ca (fun k => ad (4 + k)) := ext_X9 (fun k hk => by rw [had]; show _ = (if 4 + k = 0 then _ else _); simp only [show ¬ (4 + k = 0) by omega, if_false, show ¬ (4 + k = 1) by omega, show ¬ (4 + k = 2) by omega, show ¬ (4 + k = 3) by omega, show 4 + k < 12 by omega, if_true]; congr 1; omega)
    have hz4 : a5 0 = ad 4 := by rw [had]; rfl
    have hp12 : PW_X9 ca a7 = PW_X9 ca (fun k => ad (12 + k)) := ext_X9 (fun k hk => by rw [had]; show _ = (if 12 + k = 0 then _ else _); simp only [show ¬ (12 + k = 0) by omega, if_false, show ¬ (12 + k = 1) by omega, show ¬ (12 + k = 2) by omega, show ¬ (12 + k = 3) by omega, show ¬ (12 + k < 12) by omega, show 12 + k < 20 by omega, if_true]; congr 1; omega)
    have hz12 : a7 0 = ad 12 := by rw [had]; rfl
    have hp20 : PW_X9 ca a9 = PW_X9 ca (fun k => ad (20 + k)) := ext_X9 (fun k hk => by rw [had]; show _ = (if 20 + k = 0 then _ else _); simp only [show ¬ (20 + k = 0) by omega, if_false, show ¬ (20 + k = 1) by omega, show ¬ (20 + k = 2) by omega, show ¬ (20 + k = 3) by omega, show ¬ (20 + k < 12) by omega, show ¬ (20 + k < 20) by omega, show 20 + k < 28 by omega, if_true]; congr 1; omega)
    have hz20 : a9 0 = ad 20 := by rw [had]; rfl
    have hp28 : PW_X9 ca a11 = PW_X9 ca (fun k => ad (28 + k)) := ext_X9 (fun k hk => by rw [had]; show _ = (if 28 + k = 0 then _ else _); simp only [show ¬ (28 + k = 0) by omega, if_false, show ¬ (28 + k = 1) by omega, show ¬ (28 + k = 2) by omega, show ¬ (28 + k = 3) by omega, show ¬ (28 + k < 12) by omega, show ¬ (28 + k < 20) by omega, show ¬ (28 + k < 28) by omega, show 28 + k < 36 by omega, if_true]; congr 1; omega)
    have hz28 : a11 0 = ad 28 := by rw [had]; rfl
    have hp36 : PW_X2 ca 0 a13 = PW_X2 ca 0 (fun k => ad (36 + k)) := ext_X2 (fun k hk => by rw [had]; show _ = (if 36 + k = 0 then _ else _); simp only [show ¬ (36 + k = 0) by omega, if_false, show ¬ (36 + k = 1) by omega, show ¬ (36 + k = 2) by omega, show ¬ (36 + k = 3) by omega, show ¬ (36 + k < 12) by omega, show ¬ (36 + k < 20) by omega, show ¬ (36 + k < 28) by omega, show ¬ (36 + k < 36) by omega, show 36 + k < 37 by omega, if_true]; congr 1; omega)
    have hz36 : a13 0 = ad 36 := by rw [had]; rfl
    have hp37 : PW_X2 ca 1 a15 = PW_X2 ca 1 (fun k => ad (37 + k)) := ext_X2 (fun k hk => by rw [had]; show _ = (if 37 + k = 0 then _ else _); simp only [show ¬ (37 + k = 0) by omega, if_false, show ¬ (37 + k = 1) by omega, show ¬ (37 + k = 2) by omega, show ¬ (37 + k = 3) by omega, show ¬ (37 + k < 12) by omega, show ¬ (37 + k < 20) by omega, show ¬ (37 + k < 28) by omega, show ¬ (37 + k < 36) by omega, show ¬ (37 + k < 37) by omega, show 37 + k < 38 by omega, if_true]; congr 1; omega)
    have hz37 : a15 0 = ad 37 := by rw [had]; rfl
    refine cw_eq (ws' := PW_X8 ca ad) ?_ ?_
    · unfold PW_X8
      simp only [hh0, hp4, hp12, hp20, hp28, hp36, hp37, hc1, hc2, hc3, hz4, hz12, hz20, hz28, hz36, hz37]
    · exact cw_vret hC ad hr dX8_init_126 ⟨Nat.le_refl _, Nat.le_refl _⟩ hh0.symm (fun H a b => ⟨a, b⟩))
def PW_X5 (ca : Nat → ClassId) (ad : Nat → Nat) : va_W := (ad 0, .inr (5, [.ref (ad 1), .ref (ad 3), .int 0, .int 0, .int 0, .int 0, .int 0, .int 0, .int 0, .int 0, .int 0, .int 0, .int 0, .int 0, .int 0, .int (-1), .ref (ad 4)])) :: ((PW_X6 ca (fun k => ad (1 + k)) ++ [(ad 3, .inl (ca 0, 300, .inl (fun _ => 0)))]) ++ PW_X4 ca (fun k => ad (4 + k)))
theorem ext_X5 {ca : Nat → ClassId} {a b : Nat → Nat} (h : ∀ k, k < 7 → a k = b k) : PW_X5 ca a = PW_X5 ca b := by
  unfold PW_X5
  have e0 : a 0 = b 0 := h 0 (by omega)
  have e1 : a 1 = b 1 := h 1 (by omega)
  have e3 : a 3 = b 3 := h 3 (by omega)
  have e4 : a 4 = b 4 := h 4 (by omega)
  have p1 : PW_X6 ca (fun k => a (1 + k)) = PW_X6 ca (fun k => b (1 + k)) := ext_X6 (fun k hk => h (1 + k) (by omega))
  have p4 : PW_X4 ca (fun k => a (4 + k)) = PW_X4 ca (fun k => b (4 + k)) := ext_X4 (fun k hk => h (4 + k) (by omega))
  simp only [e0, e1, e3, e4, p1, p4]
theorem len_X5 {ca : Nat → ClassId} {ad : Nat → Nat} : (PW_X5 ca ad).length = 7 := rfl
def rm_X5_init : Room := { frames := 2, cells := 6, slots := 1210, locals := 40 }
set_option maxHeartbeats 4000000 in
set_option maxRecDepth 20000 in
theorem ct_X5_init {l : Launch} {ca : Nat → ClassId} {w : gx_V} : ct l ca w yX5_init cX5_init 1 rm_X5_init [] (.inr (5, [.null, .null, .int 0, .int 0, .int 0, .int 0, .int 0, .int 0, .int 0, .int 0, .int 0, .int 0, .int 0, .int 0, .int 0, .int 0, .null])) 6 1210 (PW_X5 ca) :=
  ct_of (own := RX5) (by decide +kernel) rfl rfl (Nat.le_of_ble_eq_true rfl) (fun _ => rfl) (fun z h0 hC hl hR hr => by
    subst hl
    refine cw_eq (ws' := (h0, .inr (5, [.null, .null, .int 0, .int 0, .int 0, .int 0, .int 0, .int 0, .int 0, .int 0, .int 0, .int 0, .int 0, .int 0, .int 0, .int 0, .null])) :: []) rfl ?_
    refine cw_aload_n hC dX5_init_0 rfl 0 rfl ?_
    refine cw_obj hC ko_X5_3 ko_i ko_c (by rw [hR]; exact ⟨Nat.le_of_ble_eq_true rfl, Nat.le_of_ble_eq_true rfl⟩) (Nat.le_of_ble_eq_true rfl) dX5_init_1 ?_
    refine cw_aload_n hC dX5_init_4 rfl 0 rfl ?_
    refine cw_new hC cl_X6 kl_X5_9 ki_X6 kn_X6 kd_X6 (by rw [hR]; exact ⟨Nat.le_of_ble_eq_true rfl, Nat.le_of_ble_eq_true rfl⟩) dX5_init_5 (fun q1 => ?_)
    refine cw_dup hC dX5_init_8 rfl ?_
    refine cw_initN (ex := []) (rest := [.ref q1, .ref h0]) hC (ct_X6_init) kx_X5_11 (by rw [hR]; exact ⟨rfl, rfl, Nat.le_of_ble_eq_true rfl, Nat.le_of_ble_eq_true rfl⟩) (by rw [hR]; exact ⟨Nat.le_of_ble_eq_true rfl, Nat.le_of_ble_eq_true rfl⟩) rfl rfl (Nat.le_of_ble_eq_true rfl) dX5_init_9 (fun a2 ha2 => ?_)
    subst ha2
    refine cw_eq (ws' := (h0, .inr (5, [.null, .null, .int 0, .int 0, .int 0, .int 0, .int 0, .int 0, .int 0, .int 0, .int 0, .int 0, .int 0, .int 0, .int 0, .int 0, .null])) :: PW_X6 ca a2) rfl ?_
    refine cw_putF hC cl_X5 ff_X5_12 rfl rfl rfl (Nat.le_of_ble_eq_true rfl) dX5_init_12 ?_
    refine cw_eq (ws' := (h0, .inr (5, [.ref (a2 0), .null, .int 0, .int 0, .int 0, .int 0, .int 0, .int 0, .int 0, .int 0, .int 0, .int 0, .int 0, .int 0, .int 0, .int 0, .null])) :: PW_X6 ca a2) rfl ?_
    refine cw_aload_n hC dX5_init_15 rfl 0 rfl ?_
    refine cw_sipush (v := 300) hC dX5_init_16 (by decide) ?_
    refine cw_newa (atype := .int) (ty := .int) (N := 300) (a0 := (300, .inl (fun _ => 0))) hC 0 ka_int rfl rfl (fun _ _ h => h) (fun _ => rfl) (by decide) (by decide) (by decide) (by rw [hR]; exact ⟨Nat.le_of_ble_eq_true rfl, Nat.le_of_ble_eq_true rfl⟩) dX5_init_19 (fun q3 => ?_)
    refine cw_eq (ws' := (h0, .inr (5, [.ref (a2 0), .null, .int 0, .int 0, .int 0, .int 0, .int 0, .int 0, .int 0, .int 0, .int 0, .int 0, .int 0, .int 0, .int 0, .int 0, .null])) :: (PW_X6 ca a2 ++ [(q3, .inl (ca 0, 300, .inl (fun _ => 0)))])) rfl ?_
    refine cw_putF hC cl_X5 ff_X5_18 rfl rfl rfl (Nat.le_of_ble_eq_true rfl) dX5_init_21 ?_
    refine cw_eq (ws' := (h0, .inr (5, [.ref (a2 0), .ref q3, .int 0, .int 0, .int 0, .int 0, .int 0, .int 0, .int 0, .int 0, .int 0, .int 0, .int 0, .int 0, .int 0, .int 0, .null])) :: (PW_X6 ca a2 ++ [(q3, .inl (ca 0, 300, .inl (fun _ => 0)))])) rfl ?_
    refine cw_aload_n hC dX5_init_24 rfl 0 rfl ?_
    refine cw_iconst (v := 0) hC dX5_init_25 (by decide) ?_
    refine cw_put hC cl_X5 fq_X5_22 rfl rfl rfl (Nat.le_of_ble_eq_true rfl) dX5_init_26 ?_
    refine cw_eq (ws' := (h0, .inr (5, [.ref (a2 0), .ref q3, .int 0, .int 0, .int 0, .int 0, .int 0, .int 0, .int 0, .int 0, .int 0, .int 0, .int 0, .int 0, .int 0, .int 0, .null])) :: (PW_X6 ca a2 ++ [(q3, .inl (ca 0, 300, .inl (fun _ => 0)))])) rfl ?_
    refine cw_aload_n hC dX5_init_29 rfl 0 rfl ?_
    refine cw_iconst (v := 0) hC dX5_init_30 (by decide) ?_
    refine cw_put hC cl_X5 fq_X5_26 rfl rfl rfl (Nat.le_of_ble_eq_true rfl) dX5_init_31 ?_
    refine cw_eq (ws' := (h0, .inr (5, [.ref (a2 0), .ref q3, .int 0, .int 0, .int 0, .int 0, .int 0, .int 0, .int 0, .int 0, .int 0, .int 0, .int 0, .int 0, .int 0, .int 0, .null])) :: (PW_X6 ca a2 ++ [(q3, .inl (ca 0, 300, .inl (fun _ => 0)))])) rfl ?_
    refine cw_aload_n hC dX5_init_34 rfl 0 rfl ?_
    refine cw_iconst (v := 0) hC dX5_init_35 (by decide) ?_
    refine cw_put hC cl_X5 fq_X5_29 rfl rfl rfl (Nat.le_of_ble_eq_true rfl) dX5_init_36 ?_
    refine cw_eq (ws' := (h0, .inr (5, [.ref (a2 0), .ref q3, .int 0, .int 0, .int 0, .int 0, .int 0, .int 0, .int 0, .int 0, .int 0, .int 0, .int 0, .int 0, .int 0, .int 0, .null])) :: (PW_X6 ca a2 ++ [(q3, .inl (ca 0, 300, .inl (fun _ => 0)))])) rfl ?_
    refine cw_aload_n hC dX5_init_39 rfl 0 rfl ?_
    refine cw_iconst (v := 0) hC dX5_init_40 (by decide) ?_
    refine cw_put hC cl_X5 fq_X5_32 rfl rfl rfl (Nat.le_of_ble_eq_true rfl) dX5_init_41 ?_
    refine cw_eq (ws' := (h0, .inr (5, [.ref (a2 0), .ref q3, .int 0, .int 0, .int 0, .int 0, .int 0, .int 0, .int 0, .int 0, .int 0, .int 0, .int 0, .int 0, .int 0, .int 0, .null])) :: (PW_X6 ca a2 ++ [(q3, .inl (ca 0, 300, .inl (fun _ => 0)))])) rfl ?_
    refine cw_aload_n hC dX5_init_44 rfl 0 rfl ?_
    refine cw_iconst (v := 0) hC dX5_init_45 (by decide) ?_
    refine cw_put hC cl_X5 fq_X5_35 rfl rfl rfl (Nat.le_of_ble_eq_true rfl) dX5_init_46 ?_
    refine cw_eq (ws' := (h0, .inr (5, [.ref (a2 0), .ref q3, .int 0, .int 0, .int 0, .int 0, .int 0, .int 0, .int 0, .int 0, .int 0, .int 0, .int 0, .int 0, .int 0, .int 0, .null])) :: (PW_X6 ca a2 ++ [(q3, .inl (ca 0, 300, .inl (fun _ => 0)))])) rfl ?_
    refine cw_aload_n hC dX5_init_49 rfl 0 rfl ?_
    refine cw_iconst (v := 0) hC dX5_init_50 (by decide) ?_
    refine cw_put hC cl_X5 fq_X5_39 rfl rfl rfl (Nat.le_of_ble_eq_true rfl) dX5_init_51 ?_
    refine cw_eq (ws' := (h0, .inr (5, [.ref (a2 0), .ref q3, .int 0, .int 0, .int 0, .int 0, .int 0, .int 0, .int 0, .int 0, .int 0, .int 0, .int 0, .int 0, .int 0, .int 0, .null])) :: (PW_X6 ca a2 ++ [(q3, .inl (ca 0, 300, .inl (fun _ => 0)))])) rfl ?_
    refine cw_aload_n hC dX5_init_54 rfl 0 rfl ?_
    refine cw_iconst (v := 0) hC dX5_init_55 (by decide) ?_
    refine cw_put hC cl_X5 fq_X5_42 rfl rfl rfl (Nat.le_of_ble_eq_true rfl) dX5_init_56 ?_
    refine cw_eq (ws' := (h0, .inr (5, [.ref (a2 0), .ref q3, .int 0, .int 0, .int 0, .int 0, .int 0, .int 0, .int 0, .int 0, .int 0, .int 0, .int 0, .int 0, .int 0, .int 0, .null])) :: (PW_X6 ca a2 ++ [(q3, .inl (ca 0, 300, .inl (fun _ => 0)))])) rfl ?_
    refine cw_aload_n hC dX5_init_59 rfl 0 rfl ?_
    refine cw_iconst (v := 0) hC dX5_init_60 (by decide) ?_
    refine cw_put hC cl_X5 fq_X5_45 rfl rfl rfl (Nat.le_of_ble_eq_true rfl) dX5_init_61 ?_
    refine cw_eq (ws' := (h0, .inr (5, [.ref (a2 0), .ref q3, .int 0, .int 0, .int 0, .int 0, .int 0, .int 0, .int 0, .int 0, .int 0, .int 0, .int 0, .int 0, .int 0, .int 0, .null])) :: (PW_X6 ca a2 ++ [(q3, .inl (ca 0, 300, .inl (fun _ => 0)))])) rfl ?_
    refine cw_aload_n hC dX5_init_64 rfl 0 rfl ?_
    refine cw_iconst (v := 0) hC dX5_init_65 (by decide) ?_
    refine cw_put hC cl_X5 fq_X5_48 rfl rfl rfl (Nat.le_of_ble_eq_true rfl) dX5_init_66 ?_
    refine cw_eq (ws' := (h0, .inr (5, [.ref (a2 0), .ref q3, .int 0, .int 0, .int 0, .int 0, .int 0, .int 0, .int 0, .int 0, .int 0, .int 0, .int 0, .int 0, .int 0, .int 0, .null])) :: (PW_X6 ca a2 ++ [(q3, .inl (ca 0, 300, .inl (fun _ => 0)))])) rfl ?_
    refine cw_aload_n hC dX5_init_69 rfl 0 rfl ?_
    refine cw_iconst (v := 0) hC dX5_init_70 (by decide) ?_
    refine cw_put hC cl_X5 fq_X5_51 rfl rfl rfl (Nat.le_of_ble_eq_true rfl) dX5_init_71 ?_
    refine cw_eq (ws' := (h0, .inr (5, [.ref (a2 0), .ref q3, .int 0, .int 0, .int 0, .int 0, .int 0, .int 0, .int 0, .int 0, .int 0, .int 0, .int 0, .int 0, .int 0, .int 0, .null])) :: (PW_X6 ca a2 ++ [(q3, .inl (ca 0, 300, .inl (fun _ => 0)))])) rfl ?_
    refine cw_aload_n hC dX5_init_74 rfl 0 rfl ?_
    refine cw_iconst (v := 0) hC dX5_init_75 (by decide) ?_
    refine cw_put hC cl_X5 fq_X5_54 rfl rfl rfl (Nat.le_of_ble_eq_true rfl) dX5_init_76 ?_
    refine cw_eq (ws' := (h0, .inr (5, [.ref (a2 0), .ref q3, .int 0, .int 0, .int 0, .int 0, .int 0, .int 0, .int 0, .int 0, .int 0, .int 0, .int 0, .int 0, .int 0, .int 0, .null])) :: (PW_X6 ca a2 ++ [(q3, .inl (ca 0, 300, .inl (fun _ => 0)))])) rfl ?_
    refine cw_aload_n hC dX5_init_79 rfl 0 rfl ?_
    refine cw_iconst (v := 0) hC dX5_init_80 (by decide) ?_
    refine cw_put hC cl_X5 fq_X5_57 rfl rfl rfl (Nat.le_of_ble_eq_true rfl) dX5_init_81 ?_
    refine cw_eq (ws' := (h0, .inr (5, [.ref (a2 0), .ref q3, .int 0, .int 0, .int 0, .int 0, .int 0, .int 0, .int 0, .int 0, .int 0, .int 0, .int 0, .int 0, .int 0, .int 0, .null])) :: (PW_X6 ca a2 ++ [(q3, .inl (ca 0, 300, .inl (fun _ => 0)))])) rfl ?_
    refine cw_aload_n hC dX5_init_84 rfl 0 rfl ?_
    refine cw_iconst (v := 0) hC dX5_init_85 (by decide) ?_
    refine cw_put hC cl_X5 fq_X5_60 rfl rfl rfl (Nat.le_of_ble_eq_true rfl) dX5_init_86 ?_
    refine cw_eq (ws' := (h0, .inr (5, [.ref (a2 0), .ref q3, .int 0, .int 0, .int 0, .int 0, .int 0, .int 0, .int 0, .int 0, .int 0, .int 0, .int 0, .int 0, .int 0, .int 0, .null])) :: (PW_X6 ca a2 ++ [(q3, .inl (ca 0, 300, .inl (fun _ => 0)))])) rfl ?_
    refine cw_aload_n hC dX5_init_89 rfl 0 rfl ?_
    refine cw_iconst (v := (-1)) hC dX5_init_90 (by decide) ?_
    refine cw_put hC cl_X5 fq_X5_63 rfl rfl rfl (Nat.le_of_ble_eq_true rfl) dX5_init_91 ?_
    refine cw_eq (ws' := (h0, .inr (5, [.ref (a2 0), .ref q3, .int 0, .int 0, .int 0, .int 0, .int 0, .int 0, .int 0, .int 0, .int 0, .int 0, .int 0, .int 0, .int 0, .int (-1), .null])) :: (PW_X6 ca a2 ++ [(q3, .inl (ca 0, 300, .inl (fun _ => 0)))])) rfl ?_
    refine cw_aload_n hC dX5_init_94 rfl 0 rfl ?_
    refine cw_new hC cl_X4 kl_X5_66 ki_X4 kn_X4 kd_X4 (by rw [hR]; exact ⟨Nat.le_of_ble_eq_true rfl, Nat.le_of_ble_eq_true rfl⟩) dX5_init_95 (fun q4 => ?_)
    refine cw_dup hC dX5_init_98 rfl ?_
    refine cw_initN (ex := []) (rest := [.ref q4, .ref h0]) hC (ct_X4_init) kx_X5_68 (by rw [hR]; exact ⟨rfl, rfl, Nat.le_of_ble_eq_true rfl, Nat.le_of_ble_eq_true rfl⟩) (by rw [hR]; exact ⟨Nat.le_of_ble_eq_true rfl, Nat.le_of_ble_eq_true rfl⟩) rfl rfl (Nat.le_of_ble_eq_true rfl) dX5_init_99 (fun a5 ha5 => ?_)
    subst ha5
    refine cw_eq (ws' := (h0, .inr (5, [.ref (a2 0), .ref q3, .int 0, .int 0, .int 0, .int 0, .int 0, .int 0, .int 0, .int 0, .int 0, .int 0, .int 0, .int 0, .int 0, .int (-1), .null])) :: ((PW_X6 ca a2 ++ [(q3, .inl (ca 0, 300, .inl (fun _ => 0)))]) ++ PW_X4 ca a5)) rfl ?_
    refine cw_put hC cl_X5 fq_X5_69 rfl rfl rfl (Nat.le_of_ble_eq_true rfl) dX5_init_102 ?_
    refine cw_eq (ws' := (h0, .inr (5, [.ref (a2 0), .ref q3, .int 0, .int 0, .int 0, .int 0, .int 0, .int 0, .int 0, .int 0, .int 0, .int 0, .int 0, .int 0, .int 0, .int (-1), .ref (a5 0)])) :: ((PW_X6 ca a2 ++ [(q3, .inl (ca 0, 300, .inl (fun _ => 0)))]) ++ PW_X4 ca a5)) rfl ?_
    obtain ⟨ad, had⟩ : ∃ ad : Nat → Nat, ad = (fun k => if k = 0 then h0 else if k < 3 then a2 (k - 1) else if k = 3 then q3 else if k < 7 then a5 (k - 4) else 0) := ⟨_, rfl⟩
    have hh0 : h0 = ad 0 := by rw [had]; rfl
    have hp1 : PW_X6 ca a2 = PW_X6 ca (fun k => ad (1 + k)) := ext_X6 (fun k hk => by rw [had]; show _ = (if 1 + k = 0 then _ else _); simp only [show ¬ (1 + k = 0) by omega, if_false, show 1 + k < 3 by omega, if_true]; congr 1; omega)
    have hz1 : a2 0 = ad 1 := by rw [had]; rfl
    have hc3 : q3 = ad 3 := by rw [had]; rfl
    have hp4 : PW_X4 ca a5 = PW_X4 ca (fun k => ad (4 + k)) := ext_X4 (fun k hk => by rw [had]; show _ = (if 4 + k = 0 then _ else _); simp only [show ¬ (4 + k = 0) by omega, if_false, show ¬ (4 + k < 3) by omega, show ¬ (4 + k = 3) by omega, show 4 + k < 7 by omega, if_true]; congr 1; omega)
    have hz4 : a5 0 = ad 4 := by rw [had]; rfl
    refine cw_eq (ws' := PW_X5 ca ad) ?_ ?_
    · unfold PW_X5
      simp only [hh0, hp1, hp4, hc3, hz1, hz4]
    · exact cw_vret hC ad hr dX5_init_105 ⟨Nat.le_refl _, Nat.le_refl _⟩ hh0.symm (fun H a b => ⟨a, b⟩))
