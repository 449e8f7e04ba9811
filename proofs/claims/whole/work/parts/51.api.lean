theorem tt_base {M N : gx_M} {v1 v2 v3 : Int32} {Rr : gx_M → gx_M → Prop} (h0 : Rr M N)
    (hk : ∀ M1 N1 : gx_M, M1 = gx_up (gx_up (gx_up M 34 3 v1) 34 4 v2) 34 5 v3 → N1 = gx_up (gx_up (gx_up N 1 2 v1) 1 3 v2) 1 4 v3 → (1 ≤ v1 ∧ v1 ≤ 50) → (0 ≤ v2 ∧ v2 ≤ 999) → (0 ≤ v3 ∧ v3 ≤ 16) → Rr M1 N1) : T_X10_base M v1 v2 v3 (fun r1 M1 => T_X11_base N v1 v2 v3 (fun r2 N1 => r1 = r2 ∧ Rr M1 N1)) := by
  unfold T_X10_base T_X11_base
  refine gd_within (fun n1 => gd_in (fun _ => ⟨rfl, h0⟩) (fun q => absurd q n1)) (fun p1 => ?_)
  refine gd_within (fun n2 => gd_in (fun q => absurd p1 q) (fun _ => gd_in (fun _ => ⟨rfl, h0⟩) (fun q => absurd q n2))) (fun p2 => ?_)
  refine gd_within (fun n3 => gd_in (fun q => absurd p1 q) (fun _ => gd_in (fun q => absurd p2 q) (fun _ => gd_in (fun _ => ⟨rfl, h0⟩) (fun q => absurd q n3)))) (fun p3 => ?_)
  rintro _ rfl _ rfl _ rfl
  refine gd_in (fun q => absurd p1 q) (fun _ => gd_in (fun q => absurd p2 q) (fun _ => gd_in (fun q => absurd p3 q) (fun _ => ?_)))
  refine ⟨by unfold vp_in; decide, ?_⟩
  rintro _ rfl
  refine ⟨by unfold vp_in; decide, ?_⟩
  rintro _ rfl
  refine ⟨by unfold vp_in; decide, ?_⟩
  rintro _ rfl
  exact ⟨rfl, hk _ _ rfl rfl p1 p2 p3⟩
