def PW_X10 (ca : Nat → ClassId) (ad : Nat → Nat) : va_W := (ad 0, .inr (10, [.ref (ad 1), .ref (ad 2), .ref (ad 61), .ref (ad 99), .ref (ad 101), .ref (ad 106), .ref (ad 108), .ref (ad 109), .ref (ad 110), .int 0, .int (-1), .int (-1)])) :: ((((((PW_X1 ca (fun k => ad (1 + k)) ++ PW_X8 ca (fun k => ad (61 + k))) ++ PW_X5 ca (fun k => ad (99 + k))) ++ PW_X7 ca (fun k => ad (106 + k))) ++ PW_X3 ca (fun k => ad (108 + k))) ++ [(ad 109, .inl (ca 0, 20, .inl (fun _ => 0)))]) ++ [(ad 110, .inl (ca 0, 20, .inl (fun _ => 0)))])
theorem ext_X10 {ca : Nat → ClassId} {a b : Nat → Nat} (h : ∀ k, k < 111 → a k = b k) : PW_X10 ca a = PW_X10 ca b := by
  unfold PW_X10
  have e0 : a 0 = b 0 := h 0 (by omega)
  have e1 : a 1 = b 1 := h 1 (by omega)
  have e2 : a 2 = b 2 := h 2 (by omega)
  have e61 : a 61 = b 61 := h 61 (by omega)
  have e99 : a 99 = b 99 := h 99 (by omega)
  have e101 : a 101 = b 101 := h 101 (by omega)
  have e106 : a 106 = b 106 := h 106 (by omega)
  have e108 : a 108 = b 108 := h 108 (by omega)
  have e109 : a 109 = b 109 := h 109 (by omega)
  have e110 : a 110 = b 110 := h 110 (by omega)
  have p1 : PW_X1 ca (fun k => a (1 + k)) = PW_X1 ca (fun k => b (1 + k)) := ext_X1 (fun k hk => h (1 + k) (by omega))
  have p61 : PW_X8 ca (fun k => a (61 + k)) = PW_X8 ca (fun k => b (61 + k)) := ext_X8 (fun k hk => h (61 + k) (by omega))
  have p99 : PW_X5 ca (fun k => a (99 + k)) = PW_X5 ca (fun k => b (99 + k)) := ext_X5 (fun k hk => h (99 + k) (by omega))
  have p106 : PW_X7 ca (fun k => a (106 + k)) = PW_X7 ca (fun k => b (106 + k)) := ext_X7 (fun k hk => h (106 + k) (by omega))
  have p108 : PW_X3 ca (fun k => a (108 + k)) = PW_X3 ca (fun k => b (108 + k)) := ext_X3 (fun k hk => h (108 + k) (by omega))
  simp only [e0, e1, e2, e61, e99, e101, e106, e108, e109, e110, p1, p61, p99, p106, p108]
theorem len_X10 {ca : Nat → ClassId} {ad : Nat → Nat} : (PW_X10 ca ad).length = 111 := by
  unfold PW_X10
  simp only [List.length_append, List.length_cons, List.length_nil, len_X1, len_X3, len_X5, len_X7, len_X8]
def rm_X10_init : Room := { frames := 5, cells := 110, slots := 9335, locals := 103 }
set_option maxHeartbeats 4000000 in
set_option maxRecDepth 20000 in
theorem ct_X10_init {l : Launch} {ca : Nat → ClassId} {w : gx_V} : ct l ca w yX10_init cX10_init 1 rm_X10_init [] (.inr (10, [.null, .null, .null, .null, .null, .null, .null, .null, .null, .int 0, .int 0, .int 0])) 110 9335 (PW_X10 ca) :=
  ct_of (own := RX10) (by decide +kernel) rfl rfl (Nat.le_of_ble_eq_true rfl) (fun _ => rfl) (fun z h0 hC hl hR hr => by
    subst hl
    refine cw_eq (ws' := (h0, .inr (10, [.null, .null, .null, .null, .null, .null, .null, .null, .null, .int 0, .int 0, .int 0])) :: []) rfl ?_
    refine cw_aload_n hC dX10_init_0 rfl 0 rfl ?_
    refine cw_obj hC ko_X10_1 ko_i ko_c (by rw [hR]; exact ⟨Nat.le_of_ble_eq_true rfl, Nat.le_of_ble_eq_true rfl⟩) (Nat.le_of_ble_eq_true rfl) dX10_init_1 ?_
    refine cw_aload_n hC dX10_init_4 rfl 0 rfl ?_
    refine cw_new hC cl_X1 kl_X10_7 ki_X1 kn_X1 kd_X1 (by rw [hR]; exact ⟨Nat.le_of_ble_eq_true rfl, Nat.le_of_ble_eq_true rfl⟩) dX10_init_5 (fun q1 => ?_)
    refine cw_dup hC dX10_init_8 rfl ?_
    refine cw_init (ex := []) (rest := [.ref q1, .ref h0]) hC (ct_X1_init) kx_X10_9 (by rw [hR]; exact ⟨rfl, rfl, Nat.le_of_ble_eq_true rfl, Nat.le_of_ble_eq_true rfl⟩) (by rw [hR]; exact ⟨Nat.le_of_ble_eq_true rfl, Nat.le_of_ble_eq_true rfl⟩) rfl rfl (Nat.le_of_ble_eq_true rfl) dX10_init_9 (fun a2 ha2 => ?_)
    subst ha2
    refine cw_eq (ws' := (h0, .inr (10, [.null, .null, .null, .null, .null, .null, .null, .null, .null, .int 0, .int 0, .int 0])) :: PW_X1 ca a2) rfl ?_
    refine cw_putF hC cl_X10 ff_X10_10 rfl rfl rfl (Nat.le_of_ble_eq_true rfl) dX10_init_12 ?_
    refine cw_eq (ws' := (h0, .inr (10, [.ref (a2 0), .null, .null, .null, .null, .null, .null, .null, .null, .int 0, .int 0, .int 0])) :: PW_X1 ca a2) rfl ?_
    refine cw_aload_n hC dX10_init_15 rfl 0 rfl ?_
    refine cw_aload_n hC dX10_init_16 rfl 0 rfl ?_
    refine cw_get hC 0 cl_X10 fh_X10_10 rfl rfl dX10_init_17 ?_
    refine cw_get (v := .ref (a2 1)) hC 1 cl_X1 fh_X10_16 (rfl) rfl dX10_init_20 ?_
    refine cw_putF hC cl_X10 ff_X10_20 rfl rfl rfl (Nat.le_of_ble_eq_true rfl) dX10_init_23 ?_
    refine cw_eq (ws' := (h0, .inr (10, [.ref (a2 0), .ref (a2 1), .null, .null, .null, .null, .null, .null, .null, .int 0, .int 0, .int 0])) :: PW_X1 ca a2) rfl ?_
    refine cw_aload_n hC dX10_init_26 rfl 0 rfl ?_
    refine cw_new hC cl_X8 kl_X10_21 ki_X8 kn_X8 kd_X8 (by rw [hR]; exact ⟨Nat.le_of_ble_eq_true rfl, Nat.le_of_ble_eq_true rfl⟩) dX10_init_27 (fun q3 => ?_)
    refine cw_dup hC dX10_init_30 rfl ?_
    refine cw_init (ex := []) (rest := [.ref q3, .ref h0]) hC (ct_X8_init) kx_X10_23 (by rw [hR]; exact ⟨rfl, rfl, Nat.le_of_ble_eq_true rfl, Nat.le_of_ble_eq_true rfl⟩) (by rw [hR]; exact ⟨Nat.le_of_ble_eq_true rfl, Nat.le_of_ble_eq_true rfl⟩) rfl rfl (Nat.le_of_ble_eq_true rfl) dX10_init_31 (fun a4 ha4 => ?_)
    subst ha4
    refine cw_eq (ws' := (h0, .inr (10, [.ref (a2 0), .ref (a2 1), .null, .null, .null, .null, .null, .null, .null, .int 0, .int 0, .int 0])) :: (PW_X1 ca a2 ++ PW_X8 ca a4)) rfl ?_
    refine cw_putF hC cl_X10 ff_X10_24 rfl rfl rfl (Nat.le_of_ble_eq_true rfl) dX10_init_34 ?_
    refine cw_eq (ws' := (h0, .inr (10, [.ref (a2 0), .ref (a2 1), .ref (a4 0), .null, .null, .null, .null, .null, .null, .int 0, .int 0, .int 0])) :: (PW_X1 ca a2 ++ PW_X8 ca a4)) rfl ?_
    refine cw_aload_n hC dX10_init_37 rfl 0 rfl ?_
    refine cw_new hC cl_X5 kl_X10_27 ki_X5 kn_X5 kd_X5 (by rw [hR]; exact ⟨Nat.le_of_ble_eq_true rfl, Nat.le_of_ble_eq_true rfl⟩) dX10_init_38 (fun q5 => ?_)
    refine cw_dup hC dX10_init_41 rfl ?_
    refine cw_initN (ex := []) (rest := [.ref q5, .ref h0]) hC (ct_X5_init) kx_X10_29 (by rw [hR]; exact ⟨rfl, rfl, Nat.le_of_ble_eq_true rfl, Nat.le_of_ble_eq_true rfl⟩) (by rw [hR]; exact ⟨Nat.le_of_ble_eq_true rfl, Nat.le_of_ble_eq_true rfl⟩) rfl rfl (Nat.le_of_ble_eq_true rfl) dX10_init_42 (fun a6 ha6 => ?_)
    subst ha6
    refine cw_eq (ws' := (h0, .inr (10, [.ref (a2 0), .ref (a2 1), .ref (a4 0), .null, .null, .null, .null, .null, .null, .int 0, .int 0, .int 0])) :: ((PW_X1 ca a2 ++ PW_X8 ca a4) ++ PW_X5 ca a6)) rfl ?_
    refine cw_putF hC cl_X10 ff_X10_30 rfl rfl rfl (Nat.le_of_ble_eq_true rfl) dX10_init_45 ?_
    refine cw_eq (ws' := (h0, .inr (10, [.ref (a2 0), .ref (a2 1), .ref (a4 0), .ref (a6 0), .null, .null, .null, .null, .null, .int 0, .int 0, .int 0])) :: ((PW_X1 ca a2 ++ PW_X8 ca a4) ++ PW_X5 ca a6)) rfl ?_
    refine cw_aload_n hC dX10_init_48 rfl 0 rfl ?_
    refine cw_aload_n hC dX10_init_49 rfl 0 rfl ?_
    refine cw_get hC 0 cl_X10 fh_X10_30 rfl rfl dX10_init_50 ?_
    refine cw_get (v := .ref (a6 1)) hC 99 cl_X5 fh_X10_34 (cx_c.trans ((cx_r (n := 98) (i := 0) (by simp only [List.length_append, List.length_cons, List.length_nil, len_X1, len_X8])).trans rfl)) rfl dX10_init_53 ?_
    refine cw_get (v := .ref (a6 2)) hC 100 cl_X6 fh_X10_38 (cx_c.trans ((cx_r (n := 98) (i := 1) (by simp only [List.length_append, List.length_cons, List.length_nil, len_X1, len_X8])).trans rfl)) rfl dX10_init_56 ?_
    refine cw_putF hC cl_X10 ff_X10_44 rfl rfl rfl (Nat.le_of_ble_eq_true rfl) dX10_init_59 ?_
    refine cw_eq (ws' := (h0, .inr (10, [.ref (a2 0), .ref (a2 1), .ref (a4 0), .ref (a6 0), .ref (a6 2), .null, .null, .null, .null, .int 0, .int 0, .int 0])) :: ((PW_X1 ca a2 ++ PW_X8 ca a4) ++ PW_X5 ca a6)) rfl ?_
    refine cw_aload_n hC dX10_init_62 rfl 0 rfl ?_
    refine cw_new hC cl_X7 kl_X10_47 ki_X7 kn_X7 kd_X7 (by rw [hR]; exact ⟨Nat.le_of_ble_eq_true rfl, Nat.le_of_ble_eq_true rfl⟩) dX10_init_63 (fun q7 => ?_)
    refine cw_dup hC dX10_init_66 rfl ?_
    refine cw_initN (ex := []) (rest := [.ref q7, .ref h0]) hC (ct_X7_init) kx_X10_49 (by rw [hR]; exact ⟨rfl, rfl, Nat.le_of_ble_eq_true rfl, Nat.le_of_ble_eq_true rfl⟩) (by rw [hR]; exact ⟨Nat.le_of_ble_eq_true rfl, Nat.le_of_ble_eq_true rfl⟩) rfl rfl (Nat.le_of_ble_eq_true rfl) dX10_init_67 (fun a8 ha8 => ?_)
    subst ha8
    refine cw_eq (ws' := (h0, .inr (10, [.ref (a2 0), .ref (a2 1), .ref (a4 0), .ref (a6 0), .ref (a6 2), .null, .null, .null, .null, .int 0, .int 0, .int 0])) :: (((PW_X1 ca a2 ++ PW_X8 ca a4) ++ PW_X5 ca a6) ++ PW_X7 ca a8)) rfl ?_
    refine cw_putF hC cl_X10 ff_X10_50 rfl rfl rfl (Nat.le_of_ble_eq_true rfl) dX10_init_70 ?_
    refine cw_eq (ws' := (h0, .inr (10, [.ref (a2 0), .ref (a2 1), .ref (a4 0), .ref (a6 0), .ref (a6 2), .ref (a8 0), .null, .null, .null, .int 0, .int 0, .int 0])) :: (((PW_X1 ca a2 ++ PW_X8 ca a4) ++ PW_X5 ca a6) ++ PW_X7 ca a8)) rfl ?_
    refine cw_aload_n hC dX10_init_73 rfl 0 rfl ?_
    refine cw_new hC cl_X3 kl_X10_54 ki_X3 kn_X3 kd_X3 (by rw [hR]; exact ⟨Nat.le_of_ble_eq_true rfl, Nat.le_of_ble_eq_true rfl⟩) dX10_init_74 (fun q9 => ?_)
    refine cw_dup hC dX10_init_77 rfl ?_
    refine cw_initN (ex := []) (rest := [.ref q9, .ref h0]) hC (ct_X3_init) kx_X10_56 (by rw [hR]; exact ⟨rfl, rfl, Nat.le_of_ble_eq_true rfl, Nat.le_of_ble_eq_true rfl⟩) (by rw [hR]; exact ⟨Nat.le_of_ble_eq_true rfl, Nat.le_of_ble_eq_true rfl⟩) rfl rfl (Nat.le_of_ble_eq_true rfl) dX10_init_78 (fun a10 ha10 => ?_)
    subst ha10
    refine cw_eq (ws' := (h0, .inr (10, [.ref (a2 0), .ref (a2 1), .ref (a4 0), .ref (a6 0), .ref (a6 2), .ref (a8 0), .null, .null, .null, .int 0, .int 0, .int 0])) :: ((((PW_X1 ca a2 ++ PW_X8 ca a4) ++ PW_X5 ca a6) ++ PW_X7 ca a8) ++ PW_X3 ca a10)) rfl ?_
    refine cw_putF hC cl_X10 ff_X10_57 rfl rfl rfl (Nat.le_of_ble_eq_true rfl) dX10_init_81 ?_
    refine cw_eq (ws' := (h0, .inr (10, [.ref (a2 0), .ref (a2 1), .ref (a4 0), .ref (a6 0), .ref (a6 2), .ref (a8 0), .ref (a10 0), .null, .null, .int 0, .int 0, .int 0])) :: ((((PW_X1 ca a2 ++ PW_X8 ca a4) ++ PW_X5 ca a6) ++ PW_X7 ca a8) ++ PW_X3 ca a10)) rfl ?_
    refine cw_aload_n hC dX10_init_84 rfl 0 rfl ?_
    refine cw_bipush (v := 20) hC dX10_init_85 (by decide) ?_
    refine cw_newa (atype := .int) (ty := .int) (N := 20) (a0 := (20, .inl (fun _ => 0))) hC 0 ka_int rfl rfl (fun _ _ h => h) (fun _ => rfl) (by decide) (by decide) (by decide) (by rw [hR]; exact ⟨Nat.le_of_ble_eq_true rfl, Nat.le_of_ble_eq_true rfl⟩) dX10_init_87 (fun q11 => ?_)
    refine cw_eq (ws' := (h0, .inr (10, [.ref (a2 0), .ref (a2 1), .ref (a4 0), .ref (a6 0), .ref (a6 2), .ref (a8 0), .ref (a10 0), .null, .null, .int 0, .int 0, .int 0])) :: (((((PW_X1 ca a2 ++ PW_X8 ca a4) ++ PW_X5 ca a6) ++ PW_X7 ca a8) ++ PW_X3 ca a10) ++ [(q11, .inl (ca 0, 20, .inl (fun _ => 0)))])) rfl ?_
    refine cw_putF hC cl_X10 ff_X10_61 rfl rfl rfl (Nat.le_of_ble_eq_true rfl) dX10_init_89 ?_
    refine cw_eq (ws' := (h0, .inr (10, [.ref (a2 0), .ref (a2 1), .ref (a4 0), .ref (a6 0), .ref (a6 2), .ref (a8 0), .ref (a10 0), .ref q11, .null, .int 0, .int 0, .int 0])) :: (((((PW_X1 ca a2 ++ PW_X8 ca a4) ++ PW_X5 ca a6) ++ PW_X7 ca a8) ++ PW_X3 ca a10) ++ [(q11, .inl (ca 0, 20, .inl (fun _ => 0)))])) rfl ?_
    refine cw_aload_n hC dX10_init_92 rfl 0 rfl ?_
    refine cw_bipush (v := 20) hC dX10_init_93 (by decide) ?_
    refine cw_newa (atype := .int) (ty := .int) (N := 20) (a0 := (20, .inl (fun _ => 0))) hC 0 ka_int rfl rfl (fun _ _ h => h) (fun _ => rfl) (by decide) (by decide) (by decide) (by rw [hR]; exact ⟨Nat.le_of_ble_eq_true rfl, Nat.le_of_ble_eq_true rfl⟩) dX10_init_95 (fun q12 => ?_)
    refine cw_eq (ws' := (h0, .inr (10, [.ref (a2 0), .ref (a2 1), .ref (a4 0), .ref (a6 0), .ref (a6 2), .ref (a8 0), .ref (a10 0), .ref q11, .null, .int 0, .int 0, .int 0])) :: ((((((PW_X1 ca a2 ++ PW_X8 ca a4) ++ PW_X5 ca a6) ++ PW_X7 ca a8) ++ PW_X3 ca a10) ++ [(q11, .inl (ca 0, 20, .inl (fun _ => 0)))]) ++ [(q12, .inl (ca 0, 20, .inl (fun _ => 0)))])) rfl ?_
    refine cw_putF hC cl_X10 ff_X10_64 rfl rfl rfl (Nat.le_of_ble_eq_true rfl) dX10_init_97 ?_
    refine cw_eq (ws' := (h0, .inr (10, [.ref (a2 0), .ref (a2 1), .ref (a4 0), .ref (a6 0), .ref (a6 2), .ref (a8 0), .ref (a10 0), .ref q11, .ref q12, .int 0, .int 0, .int 0])) :: ((((((PW_X1 ca a2 ++ PW_X8 ca a4) ++ PW_X5 ca a6) ++ PW_X7 ca a8) ++ PW_X3 ca a10) ++ [(q11, .inl (ca 0, 20, .inl (fun _ => 0)))]) ++ [(q12, .inl (ca 0, 20, .inl (fun _ => 0)))])) rfl ?_
    refine cw_aload_n hC dX10_init_100 rfl 0 rfl ?_
    refine cw_iconst (v := 0) hC dX10_init_101 (by decide) ?_
    refine cw_put hC cl_X10 fq_X10_67 rfl rfl rfl (Nat.le_of_ble_eq_true rfl) dX10_init_102 ?_
    refine cw_eq (ws' := (h0, .inr (10, [.ref (a2 0), .ref (a2 1), .ref (a4 0), .ref (a6 0), .ref (a6 2), .ref (a8 0), .ref (a10 0), .ref q11, .ref q12, .int 0, .int 0, .int 0])) :: ((((((PW_X1 ca a2 ++ PW_X8 ca a4) ++ PW_X5 ca a6) ++ PW_X7 ca a8) ++ PW_X3 ca a10) ++ [(q11, .inl (ca 0, 20, .inl (fun _ => 0)))]) ++ [(q12, .inl (ca 0, 20, .inl (fun _ => 0)))])) rfl ?_
    refine cw_aload_n hC dX10_init_105 rfl 0 rfl ?_
    refine cw_iconst (v := (-1)) hC dX10_init_106 (by decide) ?_
    refine cw_put hC cl_X10 fq_X10_71 rfl rfl rfl (Nat.le_of_ble_eq_true rfl) dX10_init_107 ?_
    refine cw_eq (ws' := (h0, .inr (10, [.ref (a2 0), .ref (a2 1), .ref (a4 0), .ref (a6 0), .ref (a6 2), .ref (a8 0), .ref (a10 0), .ref q11, .ref q12, .int 0, .int (-1), .int 0])) :: ((((((PW_X1 ca a2 ++ PW_X8 ca a4) ++ PW_X5 ca a6) ++ PW_X7 ca a8) ++ PW_X3 ca a10) ++ [(q11, .inl (ca 0, 20, .inl (fun _ => 0)))]) ++ [(q12, .inl (ca 0, 20, .inl (fun _ => 0)))])) rfl ?_
    refine cw_aload_n hC dX10_init_110 rfl 0 rfl ?_
    refine cw_iconst (v := (-1)) hC dX10_init_111 (by decide) ?_
    refine cw_put hC cl_X10 fq_X10_74 rfl rfl rfl (Nat.le_of_ble_eq_true rfl) dX10_init_112 ?_
    refine cw_eq (ws' := (h0, .inr (10, [.ref (a2 0), .ref (a2 1), .ref (a4 0), .ref (a6 0), .ref (a6 2), .ref (a8 0), .ref (a10 0), .ref q11, .ref q12, .int 0, .int (-1), .int (-1)])) :: ((((((PW_X1 ca a2 ++ PW_X8 ca a4) ++ PW_X5 ca a6) ++ PW_X7 ca a8) ++ PW_X3 ca a10) ++ [(q11, .inl (ca 0, 20, .inl (fun _ => 0)))]) ++ [(q12, .inl (ca 0, 20, .inl (fun _ => 0)))])) rfl ?_
    obtain ⟨ad, had⟩ : ∃ ad : Nat → Nat, ad = (fun k => if k = 0 then h0 else if k < 61 then a2 (k - 1) else if k < 99 then a4 (k - 61) else if k < 106 then a6 (k - 99) else if k < 108 then a8 (k - 106) else if k < 109 then a10 (k - 108) else if k = 109 then q11 else if k = 110 then q12 else 0) := ⟨_, rfl⟩
    have hh0 : h0 = ad 0 := by rw [had]; rfl
    have hp1 : PW_X1 ca a2 = PW_X1 ca (fun k => ad (1 + k)) := ext_X1 (fun k hk => by rw [had]; show _ = (if 1 + k = 0 then _ else _); simp only [show ¬ (1 + k = 0) by omega, if_false, show 1 + k < 61 by omega, if_true]; congr 1; omega)
    have hz1 : a2 0 = ad 1 := by rw [had]; rfl
    have hp61 : PW_X8 ca a4 = PW_X8 ca (fun k => ad (61 + k)) := ext_X8 (fun k hk => by rw [had]; show _ = (if 61 + k = 0 then _ else _); simp only [show ¬ (61 + k = 0) by omega, if_false, show ¬ (61 + k < 61) by omega, show 61 + k < 99 by omega, if_true]; congr 1; omega)
    have hz61 : a4 0 = ad 61 := by rw [had]; rfl
    have hp99 : PW_X5 ca a6 = PW_X5 ca (fun k => ad (99 + k)) := ext_X5 (fun k hk => by rw [had]; show _ = (if 99 + k = 0 then _ else _); simp only [show ¬ (99 + k = 0) by omega, if_false, show ¬ (99 + k < 61) by omega, show ¬ (99 + k < 99) by omega, show 99 + k < 106 by omega, if_true]; congr 1; omega)
    have hz99 : a6 0 = ad 99 := by rw [had]; rfl
    have hp106 : PW_X7 ca a8 = PW_X7 ca (fun k => ad (106 + k)) := ext_X7 (fun k hk => by rw [had]; show _ = (if 106 + k = 0 then _ else _); simp only [show ¬ (106 + k = 0) by omega, if_false, show ¬ (106 + k < 61) by omega, show ¬ (106 + k < 99) by omega, show ¬ (106 + k < 106) by omega, show 106 + k < 108 by omega, if_true]; congr 1; omega)
    have hz106 : a8 0 = ad 106 := by rw [had]; rfl
    have hp108 : PW_X3 ca a10 = PW_X3 ca (fun k => ad (108 + k)) := ext_X3 (fun k hk => by rw [had]; show _ = (if 108 + k = 0 then _ else _); simp only [show ¬ (108 + k = 0) by omega, if_false, show ¬ (108 + k < 61) by omega, show ¬ (108 + k < 99) by omega, show ¬ (108 + k < 106) by omega, show ¬ (108 + k < 108) by omega, show 108 + k < 109 by omega, if_true]; congr 1; omega)
    have hz108 : a10 0 = ad 108 := by rw [had]; rfl
    have hc109 : q11 = ad 109 := by rw [had]; rfl
    have hc110 : q12 = ad 110 := by rw [had]; rfl
    refine cw_eq (ws' := PW_X10 ca ad) ?_ ?_
    have hy1_1 : a2 1 = ad 2 := by rw [had]; rfl
    have hy99_2 : a6 2 = ad 101 := by rw [had]; rfl
    · unfold PW_X10
      simp only [hh0, hp1, hp61, hp99, hp106, hp108, hc109, hc110, hz1, hz61, hz99, hz106, hz108, hy1_1, hy99_2]
    · exact cw_vret hC ad hr dX10_init_115 ⟨Nat.le_refl _, Nat.le_refl _⟩ hh0.symm (fun H a b => ⟨a, b⟩))
