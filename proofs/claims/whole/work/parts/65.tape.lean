/-! the tape; what is told of the whole -/
theorem i8_eq {x y : Int32} (h : ∀ i, i < 8 → x.toBitVec.getLsbD i = y.toBitVec.getLsbD i) : x.toInt8 = y.toInt8 := by
  apply Int8.toBitVec_inj.mp
  show x.toBitVec.signExtend 8 = y.toBitVec.signExtend 8
  apply BitVec.eq_of_getLsbD_eq
  intro i hi
  rw [BitVec.getLsbD_signExtend, BitVec.getLsbD_signExtend, if_pos (show i < 32 by omega), if_pos (show i < 32 by omega), h i hi]
theorem shr_bit (x s : Int32) (k : Nat) (hs : (s.toBitVec.smod 32).toNat = k) (hk : k ≤ 24) : (x >>> s).toInt8.toInt32 = (nI (x.toBitVec.toNat / 2 ^ k % 256)).toInt8.toInt32 := by
  refine congrArg Int8.toInt32 (i8_eq (fun i hi => ?_))
  show (x.toBitVec.sshiftRight (s.toBitVec.smod 32).toNat).getLsbD i = (BitVec.ofNat 32 (x.toBitVec.toNat / 2 ^ k % 256)).getLsbD i
  rw [hs, BitVec.getLsbD_sshiftRight, BitVec.getLsbD_ofNat, if_pos (show k + i < 32 by omega), show (256 : Nat) = 2 ^ 8 from rfl, Nat.testBit_mod_two_pow, Nat.testBit_div_two_pow]
  have e1 : decide (32 ≤ i) = false := decide_eq_false (by omega)
  have e2 : decide (i < 32) = true := decide_eq_true (by omega)
  have e3 : decide (i < 8) = true := decide_eq_true hi
  rw [e1, e2, e3]
  show (true && x.toBitVec.getLsbD (k + i)) = (true && (true && x.toBitVec.toNat.testBit (i + k)))
  rw [Nat.add_comm i k]
  rfl
theorem ush_bit (x s : Int32) (k : Nat) (hs : ((s.toUInt32 &&& Int32.toUInt32 31).toBitVec % 32).toNat = k) : ((x.toUInt32 >>> (s.toUInt32 &&& Int32.toUInt32 31)).toInt32) &&& 255 = nI (x.toBitVec.toNat / 2 ^ k % 256) := by
  rw [pk_and _ 8 (by decide), pk_ushr x s k hs]
theorem RR.push {M N : gx_M} {n b : Nat} {x y : Int32} (h : RR M N) (hm : M 0 9 = nI n) (hn : N 0 3 = nI n) (hl : n < 300) (hb : b < 256) (hx : x = nI b) (hy : y = (nI b).toInt8.toInt32) : RR (gx_up (gx_up M 6 n x) 0 9 (nI (n + 1))) (gx_up (gx_up N 3 n y) 0 3 (nI (n + 1))) := by
  obtain ⟨n', h3, hm', hn', ht⟩ := h.2.2.1.1
  have hnn : n' = n := (nI_eq (by omega) (by omega)).mp (hm'.symm.trans hm)
  subst hnn
  have key : RR (gx_up M 6 n' x) (gx_up N 3 n' y) := by
    refine ⟨⟨?_, ?_, ?_⟩, ⟨?_, ?_, ?_⟩, ⟨?_, ?_, ?_⟩, ?_⟩
    · rw [gu_ne (by decide)]; exact h.1.1.kept0 h.1.2.1 (fun o ho => gu_ne (by omega))
    · rw [gu_ne (by decide)]; exact h.1.2.1
    · rw [gu_ne (by decide)]; exact h.1.2.2.kept (by rw [gu_ne (by decide)]) (gu_ne (by decide)) (gu_ne (by decide))
    · rw [gu_ne (by decide)]; exact h.2.1.1.kept1 h.2.1.2.1 (fun o ho => gu_ne (by omega))
    · rw [gu_ne (by decide)]; exact h.2.1.2.1
    · rw [gu_ne (by decide), gu_ne (by decide)]; exact h.2.1.2.2
    · refine ⟨n', h3, by rw [gu_ne (by decide)]; exact hm, by rw [gu_ne (by decide)]; exact hn, fun i hi => ?_⟩
      rw [gu_eq, gu_eq, ub_ne (by omega), ub_ne (by omega)]; exact ht i hi
    · rw [gu_ne (by decide), gu_ne (by decide)]; exact h.2.2.1.2.1
    · rw [gu_ne (by decide), gu_ne (by decide)]; exact h.2.2.1.2.2
    · exact h.2.2.2.kept h.1.2.1 (fun q q1 q2 => gu_ne (by omega)) (fun q q1 q2 => gu_ne (by omega)) (by rw [gu_ne (by decide)])
  refine key.slot rfl (by omega) (fun i hi => ?_)
  rw [gu_eq, gu_eq]
  by_cases e : i = n'
  · subst e; exact ⟨b, hb, by rw [ub_eq]; exact hx, by rw [ub_eq]; exact hy⟩
  · rw [ub_ne e, ub_ne e]; exact ht i (by omega)
theorem s_feed1 {M : gx_M} {v s : Int32} {n k j : Nat} {Q : gx_M → Prop} (hm : M 0 9 = nI n) (hl : n < 300) (hs0 : ¬ s < 0) (hs : ((s.toUInt32 &&& Int32.toUInt32 31).toBitVec % 32).toNat = k)
    (h : T_X10_feedNumber_3 Q j (gx_up (gx_up M 6 n (nI (v.toBitVec.toNat / 2 ^ k % 256))) 0 9 (nI (n + 1))) v (s + (-8))) : T_X10_feedNumber_3 Q (j + 1) M v s := by
  unfold T_X10_feedNumber_3
  refine qf hs0 ?_
  rw [hm]
  have hw : (0 : Int32) ≤ nI n ∧ nI n ≤ 300 - 1 := ⟨nI_pos' (by omega), show nI n ≤ nI 299 from nI_le (by omega) (by omega)⟩
  refine gd_within (fun q => absurd hw q) (fun _ => ⟨vp_in_nI (by omega) (by omega), ?_⟩)
  rintro _ rfl _ rfl
  unfold T_X10_feedNumber_51
  rintro _ rfl
  rw [ush_bit v s k hs, gu_ne (by decide), hm, nI_clamp (by omega), nI_1]
  exact h
theorem n_put1 {N : gx_M} {v s : Int32} {n k j : Nat} {Q : gx_M → Prop} (hm : N 0 3 = nI n) (hl : n < 300) (hs0 : ¬ s < 0) (hs : ((s &&& 31).toBitVec.smod 32).toNat = k) (hk : k ≤ 24)
    (h : T_X11_put_3 Q j (gx_up (gx_up N 3 n ((nI (v.toBitVec.toNat / 2 ^ k % 256)).toInt8.toInt32)) 0 3 (nI (n + 1))) v (s - 8)) : T_X11_put_3 Q (j + 1) N v s := by
  unfold T_X11_put_3
  refine qf hs0 ?_
  rw [hm]
  refine ⟨vp_in_nI (by omega) (by omega), ?_⟩
  rintro _ rfl _ rfl _ rfl
  rw [pk_vb, shr_bit v _ k hs hk, gu_ne (by decide), hm, nI_clamp (by omega), nI_1]
  exact h
theorem f_one {M N : gx_M} {v : Int32} {n : Nat} (h : RR M N) (hm : M 0 9 = nI n) (hl : n + 4 ≤ 300) : ∃ M' N', RR M' N' ∧ M' 0 9 = nI (n + 4) ∧ N' 0 3 = nI (n + 4) ∧ (∀ Q : gx_M → Prop, Q M' → T_X10_feedNumber M v Q) ∧ (∀ Q : gx_M → Prop, Q N' → T_X11_put N v Q) := by
  obtain ⟨n', h3, hm', hn', ht⟩ := h.2.2.1.1
  have hnn : n' = n := (nI_eq (by omega) (by omega)).mp (hm'.symm.trans hm)
  subst hnn
  have r1 := h.push (b := v.toBitVec.toNat / 2 ^ 24 % 256) hm hn' (by omega) (by omega) rfl rfl
  have r2 := r1.push (b := v.toBitVec.toNat / 2 ^ 16 % 256) (n := n' + 1) (by rw [gu_eq, ub_eq]) (by rw [gu_eq, ub_eq]) (by omega) (by omega) rfl rfl
  have r3 := r2.push (b := v.toBitVec.toNat / 2 ^ 8 % 256) (n := n' + 2) (by rw [gu_eq, ub_eq]) (by rw [gu_eq, ub_eq]) (by omega) (by omega) rfl rfl
  have r4 := r3.push (b := v.toBitVec.toNat / 2 ^ 0 % 256) (n := n' + 3) (by rw [gu_eq, ub_eq]) (by rw [gu_eq, ub_eq]) (by omega) (by omega) rfl rfl
  refine ⟨_, _, r4, by rw [gu_eq, ub_eq], by rw [gu_eq, ub_eq], fun Q hQ => ⟨5, ?_⟩, fun Q hQ => ⟨5, ?_⟩⟩
  · refine s_feed1 (k := 24) hm (by omega) (by decide) (by decide) ?_
    refine s_feed1 (n := n' + 1) (k := 16) (by rw [gu_eq, ub_eq]) (by omega) (by decide) (by decide) ?_
    refine s_feed1 (n := n' + 2) (k := 8) (by rw [gu_eq, ub_eq]) (by omega) (by decide) (by decide) ?_
    refine s_feed1 (n := n' + 3) (k := 0) (by rw [gu_eq, ub_eq]) (by omega) (by decide) (by decide) ?_
    unfold T_X10_feedNumber_3
    exact qt (by decide) hQ
  · refine n_put1 (k := 24) hn' (by omega) (by decide) (by decide) (by omega) ?_
    refine n_put1 (n := n' + 1) (k := 16) (by rw [gu_eq, ub_eq]) (by omega) (by decide) (by decide) (by omega) ?_
    refine n_put1 (n := n' + 2) (k := 8) (by rw [gu_eq, ub_eq]) (by omega) (by decide) (by decide) (by omega) ?_
    refine n_put1 (n := n' + 3) (k := 0) (by rw [gu_eq, ub_eq]) (by omega) (by decide) (by decide) (by omega) ?_
    unfold T_X11_put_3
    exact qt (by decide) hQ
theorem step_feed : st_feed RR := by
  intro M N h v1 v2 v3 v4 v5
  obtain ⟨n, h3, hm, hn, ht⟩ := h.2.2.1.1
  unfold T_X10_feed T_X11_feed
  rw [hm, hn]
  refine qc (fun e => ?_) (fun e => ?_)
  · have e : n ≤ 280 := (nI_leI (b := 280) (by omega) (by omega)).mp e
    obtain ⟨M1, N1, r1, m1, n1, f1, g1⟩ := f_one (v := v1) h hm (by omega)
    obtain ⟨M2, N2, r2, m2, n2, f2, g2⟩ := f_one (v := v2) r1 m1 (by omega)
    obtain ⟨M3, N3, r3, m3, n3, f3, g3⟩ := f_one (v := v3) r2 m2 (by omega)
    obtain ⟨M4, N4, r4, m4, n4, f4, g4⟩ := f_one (v := v4) r3 m3 (by omega)
    obtain ⟨M5, N5, r5, m5, n5, f5, g5⟩ := f_one (v := v5) r4 m4 (by omega)
    refine f1 _ (f2 _ (f3 _ (f4 _ (f5 _ ?_))))
    refine qt ?_ (g1 _ (g2 _ (g3 _ (g4 _ (g5 _ ⟨?_, r5⟩)))))
    · show nI n + nI 20 ≤ nI 300; rw [nI_add]; exact nI_le (by omega) (by omega)
    · rw [m5, n5]
  · refine qf (fun q => e ?_) ⟨rfl, h⟩
    replace q : nI n + nI 20 ≤ nI 300 := q
    rw [nI_add] at q
    have := (nI_leI (b := 300) (by omega) (by omega)).mp q
    exact nI_le (b := 280) (by omega) (by omega)
theorem step_about : st_about RR := by
  intro M N h v1
  obtain ⟨⟨h1, h2, h3⟩, h4, h5, h6⟩ := h.1.1
  obtain ⟨n, -, hm, hn, -⟩ := h.2.2.1.1
  unfold T_X10_about
  by_cases c : 0 ≤ v1 ∧ v1 ≤ 6
  · have key : ∀ x : Int32, x = N 1 v1.toNatClampNeg → T_X11_about N v1 (fun r2 => x = r2 ∧ RR M N) := fun x hx => by
      unfold T_X11_about
      refine gd_in (fun q => absurd c q) (fun _ => ⟨?_, hx, h⟩)
      obtain ⟨k, hk, rfl⟩ := w_nI 6 (by omega) c
      exact vp_in_nI (by omega) (by omega)
    obtain ⟨k, hk, rfl⟩ := w_nI 6 (by omega) c
    rw [nI_clamp (by omega)] at key
    match k, hk with
    | 0, _ => exact qt rfl (key _ h2)
    | 1, _ => exact qf (by decide) (qt rfl (key _ h3))
    | 2, _ => exact qf (by decide) (qf (by decide) (qt rfl (key _ (h1 0 (by omega)))))
    | 3, _ => exact qf (by decide) (qf (by decide) (qf (by decide) (qt rfl (key _ (h1 1 (by omega))))))
    | 4, _ => exact qf (by decide) (qf (by decide) (qf (by decide) (qf (by decide) (qt rfl (key _ (h1 2 (by omega)))))))
    | 5, _ => exact qf (by decide) (qf (by decide) (qf (by decide) (qf (by decide) (qf (by decide) (qt rfl (key _ (h1 3 (by omega))))))))
    | 6, _ => exact qf (by decide) (qf (by decide) (qf (by decide) (qf (by decide) (qf (by decide) (qf (by decide) (qt rfl (key _ (h1 4 (by omega)))))))))
  · have ne : ∀ k : Nat, k ≤ 6 → ¬ v1 = nI k := fun k hk e => c (by rw [e]; exact v_n (n := 6) hk (by omega))
    refine qf (ne 0 (by omega)) (qf (ne 1 (by omega)) (qf (ne 2 (by omega)) (qf (ne 3 (by omega)) (qf (ne 4 (by omega)) (qf (ne 5 (by omega)) (qf (ne 6 (by omega)) ?_))))))
    unfold T_X11_about
    refine qc (fun e => gd_in (fun _ => qt e ⟨by rw [hm, hn], h⟩) (fun q => absurd q c)) (fun e7 => ?_)
    have fin : ∀ {A : Prop}, T_X11_in N v1 10 15 (fun r3 => (if r3 = 0 then T_X11_in N v1 20 23 (fun r5 => (if r5 = 0 then A else True)) else True)) → True := fun _ => trivial
    clear fin
    unfold T_X10_aboutInputs
    refine gd_within (fun n1 => ?_) (fun p1 => ?_)
    · refine gd_within (fun n2 => ?_) (fun p2 => ?_)
      · refine gd_within (fun n3 => ?_) (fun p3 => ?_)
        · have n4 : ¬ (10 ≤ v1 ∧ v1 ≤ 15) := by
            intro q
            have a := il q.1
            have b := il q.2
            rw [show (10 : Int32).toInt = 10 from rfl] at a
            rw [show (15 : Int32).toInt = 15 from rfl] at b
            simp only [Int32.le_iff_toInt_le, show (10 : Int32).toInt = 10 from rfl, show (11 : Int32).toInt = 11 from rfl, show (12 : Int32).toInt = 12 from rfl, show (13 : Int32).toInt = 13 from rfl, show (14 : Int32).toInt = 14 from rfl, show (15 : Int32).toInt = 15 from rfl] at n1 n2 n3
            omega
          refine gd_within (fun n5 => ?_) (fun p5 => ?_)
          · exact gd_in (fun _ => qf e7 (gd_in (fun _ => gd_in (fun _ => ⟨rfl, h⟩) (fun q => absurd q n5)) (fun q => absurd q n4))) (fun q => absurd q c)
          · obtain ⟨k, hk, rfl⟩ := w_nI 23 (by omega) ⟨Int32.le_trans (by decide) p5.1, p5.2⟩
            have h20 : 20 ≤ k := (nI_leI (a := 20) (by omega) (by omega)).mp p5.1
            have es : nI k - 20 = nI (k - 20) := pk_sub (b := 20) h20
            have es2 : (24 : Int32) + nI k - 20 = nI (k + 4) := by
              rw [show (24 : Int32) + nI k = nI (24 + k) from nI_add 24 k]
              have := pk_sub (a := 24 + k) (b := 20) (by omega)
              rw [show 24 + k - 20 = k + 4 by omega] at this
              exact this
            have g := (h6 (k - 20) (by omega)).1
            rw [show 42 + 4 * 0 + (k - 20) = 42 + (k - 20) by omega, show 24 + (k - 20) = k + 4 by omega] at g
            rw [es, nI_clamp (by omega)]
            refine ⟨vp_in_nI (by omega) (by omega), ?_⟩
            refine gd_in (fun _ => qf e7 (gd_in (fun _ => gd_in (fun q => absurd p5 q) (fun _ => ?_)) (fun q => absurd q n4))) (fun q => absurd q c)
            rw [es2]
            exact ⟨vp_in_nI (by omega) (by omega), by rw [nI_clamp (show k + 4 < 2 ^ 31 by omega), nI_clamp (show k - 20 < 2 ^ 31 by omega)]; exact g, h⟩
        · obtain ⟨k, hk, rfl⟩ := w_nI 15 (by omega) ⟨Int32.le_trans (by decide) p3.1, p3.2⟩
          have h20 : 14 ≤ k := (nI_leI (a := 14) (by omega) (by omega)).mp p3.1
          have es : nI k - 14 = nI (k - 14) := pk_sub (b := 14) h20
          obtain ⟨g0, g1, g2, g3, g4, g5⟩ := h5 (k - 14) (by omega)
          rw [show 58 + 2 * 0 + (k - 14) = 58 + (k - 14) by omega, show 14 + (k - 14) = k by omega] at g5
          rw [es, nI_clamp (by omega)]
          refine ⟨vp_in_nI (by omega) (by omega), ?_⟩
          refine gd_in (fun _ => qf e7 (gd_in (fun q => absurd ⟨Int32.le_trans (by decide) p3.1, p3.2⟩ q) (fun _ => ?_))) (fun q => absurd q c)
          rw [nI_clamp (by omega)]
          exact ⟨vp_in_nI (by omega) (by omega), g5, h⟩
      · obtain ⟨k, hk, rfl⟩ := w_nI 13 (by omega) ⟨Int32.le_trans (by decide) p2.1, p2.2⟩
        have h20 : 12 ≤ k := (nI_leI (a := 12) (by omega) (by omega)).mp p2.1
        have es : nI k - 12 = nI (k - 12) := pk_sub (b := 12) h20
        obtain ⟨g0, g1, g2, g3, g4, g5⟩ := h5 (k - 12) (by omega)
        rw [show 58 + 2 * 0 + (k - 12) = 58 + (k - 12) by omega, show 12 + (k - 12) = k by omega] at g4
        rw [es, nI_clamp (by omega)]
        refine ⟨vp_in_nI (by omega) (by omega), ?_⟩
        refine gd_in (fun _ => qf e7 (gd_in (fun q => absurd ⟨Int32.le_trans (by decide) p2.1, Int32.le_trans p2.2 (by decide)⟩ q) (fun _ => ?_))) (fun q => absurd q c)
        rw [nI_clamp (by omega)]
        exact ⟨vp_in_nI (by omega) (by omega), g4, h⟩
    · obtain ⟨k, hk, rfl⟩ := w_nI 11 (by omega) ⟨Int32.le_trans (by decide) p1.1, p1.2⟩
      have h20 : 10 ≤ k := (nI_leI (a := 10) (by omega) (by omega)).mp p1.1
      have es : nI k - 10 = nI (k - 10) := pk_sub (b := 10) h20
      obtain ⟨g0, g1, g2, g3, g4, g5⟩ := h5 (k - 10) (by omega)
      rw [show 58 + 2 * 0 + (k - 10) = 58 + (k - 10) by omega, show 10 + (k - 10) = k by omega] at g0
      rw [es, nI_clamp (by omega)]
      refine ⟨vp_in_nI (by omega) (by omega), ?_⟩
      refine gd_in (fun _ => qf e7 (gd_in (fun q => absurd ⟨p1.1, Int32.le_trans p1.2 (by decide)⟩ q) (fun _ => ?_))) (fun q => absurd q c)
      rw [nI_clamp (by omega)]
      exact ⟨vp_in_nI (by omega) (by omega), g0, h⟩
