/-! the machine between both sides: frames, each with the signs that wait in it (the latest first) -/
abbrev q_F : Type := Int32 × List Int32
abbrev q_Gs : Type := List (Bool × List Int32)
def q_rk (c : Int32) : Nat := if c = -43 then 1 else if c = -42 then 2 else if c = -21 ∨ c = -22 then 3 else 4
def q_wk (r : Nat) : List Int32 → List Int32 → List Int32 × List Int32
  | [], E => ([], E)
  | c :: l, E => if r ≤ q_rk c then q_wk r l (c :: E) else (c :: l, E)
def q_pk (k : Int32) : List q_F → List Int32 → List q_F × List Int32
  | [], E => ([], E)
  | f :: R, E => if f.1 = k then q_pk k R (k :: E) else (f :: R, E)
def m_fl : List q_F → List Int32
  | [] => []
  | f :: R => f.2 ++ (if f.1 < 0 then f.1 :: m_fl R else m_fl R)
def q_op : List q_F → Nat
  | [] => 0
  | f :: R => q_op R + (if f.1 = -41 ∨ f.1 = -51 ∨ f.1 = -25 then 1 else 0)
def m_br : List q_F → Nat
  | [] => 0
  | f :: R => m_br R + (if f.1 = -51 then 1 else 0)
def q_rel (k : Int32) : Bool := decide (-36 ≤ k ∧ k ≤ -31)
def q_cp : List q_F → Bool
  | [] => false
  | f :: R => q_rel f.1 || q_cp R
def q_hl : q_Gs → Bool
  | [] => false
  | g :: G => !g.1 || q_hl G
def q_tyo (c : Int32) : Bool := decide (-24 ≤ c)
def q_Ty : List q_F → List Bool
  | [] => []
  | f :: R => f.2.map q_tyo ++ (if q_rel f.1 = true then true :: q_Ty R else q_Ty R)
def q_oA : List Int32 → Prop
  | [] => True
  | [c] => q_isA c
  | [c, d] => (c = -23 ∨ c = -24) ∧ (d = -21 ∨ d = -22)
  | _ => False
def q_oB : List Int32 → Prop
  | [] => True
  | [c] => c = -42 ∨ c = -43
  | [c, d] => c = -42 ∧ d = -43
  | _ => False
def q_sE : List q_F → Prop
  | [] => False
  | f :: R => (f.1 = 2 ∧ R = [] ∧ q_oB f.2) ∨ (f.1 = -41 ∧ f.2 = [] ∧ q_sE R)
def q_sA (bg : Bool) : List q_F → Prop
  | [] => False
  | f :: R => q_oA f.2 ∧ ((f.1 = 1 ∧ R = [] ∧ bg = false) ∨ ((f.1 = 4 ∨ q_isR f.1) ∧ bg = true ∧ q_sE R) ∨ (f.1 = -51 ∧ q_sA bg R) ∨ (f.1 = -25 ∧ f.2 = [] ∧ q_sA bg R))
/-- one token, and the machine goes on -/
def q_nx (ph : Nat) (bg : Bool) (S : List q_F) (E : List Int32) (G : q_Gs) (sg : Int32) (nu : Nat) (ph1 : Nat) (bg1 : Bool) (S1 : List q_F) (E1 : List Int32) (G1 : q_Gs) : Prop :=
  (ph = 4 ∧ G.length < 10 ∧ G1 = G ∧ E1 = [] ∧ ((sg = -54 ∧ q_hl G = false ∧ ph1 = 1 ∧ bg1 = false ∧ S1 = [(1, [])]) ∨ (sg = -55 ∧ ph1 = 0 ∧ bg1 = true ∧ S1 = [(2, [])]))) ∨
  (ph = 0 ∧ sg = -41 ∧ q_op S < 8 ∧ ph1 = 0 ∧ bg1 = bg ∧ S1 = (-41, []) :: S ∧ E1 = E ∧ G1 = G) ∨
  (∃ S0, ((ph = 0 ∧ S0 = (4, []) :: S) ∨ (ph = 1 ∧ S0 = S)) ∧ bg1 = bg ∧ G1 = G ∧
    ((∃ v, ((sg = -56 ∧ nu ≤ 9999 ∧ v = nI nu) ∨ ((-17 ≤ sg ∧ sg ≤ -11) ∧ v = sg)) ∧ ph1 = 2 ∧ S1 = (q_pk (-25) S0 (v :: E)).1 ∧ E1 = (q_pk (-25) S0 (v :: E)).2) ∨
     (∃ k, ((sg = -51 ∧ k = -51) ∨ (sg = -22 ∧ k = -25)) ∧ q_op S < 8 ∧ ph1 = 1 ∧ S1 = (k, []) :: S0 ∧ E1 = E))) ∨
  (ph = 2 ∧ ∃ k ops R, S = (k, ops) :: R ∧ bg1 = bg ∧
    ((q_isA sg ∧ ph1 = 1 ∧ G1 = G ∧ S1 = (k, sg :: (q_wk (q_rk sg) ops E).1) :: R ∧ E1 = (q_wk (q_rk sg) ops E).2) ∨
     (sg = -52 ∧ k = -51 ∧ ph1 = 2 ∧ G1 = G ∧ S1 = (q_pk (-25) R (q_wk 1 ops E).2).1 ∧ E1 = (q_pk (-25) R (q_wk 1 ops E).2).2) ∨
     (q_isR sg ∧ k = 4 ∧ ph1 = 1 ∧ G1 = G ∧ S1 = (sg, []) :: R ∧ E1 = (q_wk 1 ops E).2) ∨
     ((sg = -42 ∨ sg = -43) ∧ q_isR k ∧ ph1 = 0 ∧ G1 = G ∧ ∃ ops2 E2, q_pk (-41) R (k :: (q_wk 1 ops E).2) = ([(2, ops2)], E2) ∧ S1 = [(2, sg :: (q_wk (q_rk sg) ops2 E2).1)] ∧ E1 = (q_wk (q_rk sg) ops2 E2).2) ∨
     (sg = -53 ∧ k = 1 ∧ ph1 = 4 ∧ S1 = [] ∧ E1 = [] ∧ G1 = (false, (q_wk 1 ops E).2) :: G) ∨
     (sg = -53 ∧ q_isR k ∧ ph1 = 4 ∧ S1 = [] ∧ E1 = [] ∧ ∃ ops2 E2, q_pk (-41) R (k :: (q_wk 1 ops E).2) = ([(2, ops2)], E2) ∧ G1 = (true, (q_wk 1 ops2 E2).2) :: G)))
/-- one token, and it is a fault -/
def q_flt (ph : Nat) (S : List q_F) (G : q_Gs) (sg : Int32) (nu : Nat) (f : Int32) : Prop :=
  (ph = 4 ∧ ((sg ≠ -57 ∧ sg ≠ -54 ∧ sg ≠ -55 ∧ f = 1) ∨ (sg = -54 ∧ q_hl G = true ∧ f = 4) ∨ (((sg = -54 ∧ q_hl G = false) ∨ sg = -55) ∧ G.length = 10 ∧ f = 5))) ∨
  (ph = 0 ∧ sg = -41 ∧ q_op S = 8 ∧ f = 3) ∨
  ((ph = 0 ∨ ph = 1) ∧ ¬ (ph = 0 ∧ sg = -41) ∧ ((sg = -56 ∧ 9999 < nu ∧ f = 2) ∨ ((sg = -51 ∨ sg = -22) ∧ q_op S = 8 ∧ f = 3) ∨ (sg ≠ -56 ∧ ¬ (-17 ≤ sg ∧ sg ≤ -11) ∧ sg ≠ -51 ∧ sg ≠ -22 ∧ f = 1))) ∨
  (ph = 2 ∧ f = 1 ∧ ∃ k ops R, S = (k, ops) :: R ∧ ¬ q_isA sg ∧ ¬ (sg = -52 ∧ k = -51) ∧ ¬ (q_isR sg ∧ k = 4) ∧ ¬ ((sg = -42 ∨ sg = -43) ∧ q_isR k) ∧ ¬ (sg = -53 ∧ (k = 1 ∨ q_isR k)))
/-- from here the text comes to this fault (0: none), this place and these clauses -/
def q_ex (b : Nat → Nat) (n : Nat) : Nat → Nat → Bool → List q_F → List Int32 → q_Gs → Nat → Int32 → Int32 → q_Gs → Prop
  | 0, _, _, _, _, _, _, _, _, _ => False
  | m + 1, ph, bg, S, E, G, p, f, pl, G' =>
    (q_flt ph S G (q_sg b n p) (q_nu b n p) f ∧ pl = nI (q_st0 b n p)) ∨
    (ph = 4 ∧ q_sg b n p = -57 ∧ f = 0 ∧ pl = -1 ∧ G' = G) ∨
    (∃ ph1 bg1 S1 E1 G1, q_nx ph bg S E G (q_sg b n p) (q_nu b n p) ph1 bg1 S1 E1 G1 ∧ q_ex b n m ph1 bg1 S1 E1 G1 (q_ne b n p) f pl G')
/-- what holds between two tokens -/
def q_ok (ph : Nat) (bg : Bool) (S : List q_F) (E : List Int32) (G : q_Gs) (p : Nat) : Prop :=
  (q_wf G ∧ (if ph = 4 then G.length ≤ 10 else G.length < 10) ∧ q_op S ≤ 8 ∧ q_len G + E.length + (m_fl S).length + (if ph = 4 then 0 else 1) ≤ p) ∧ (bg = false → ph ≠ 4 → q_hl G = false) ∧
  ((ph = 4 ∧ S = [] ∧ E = []) ∨ (ph = 0 ∧ bg = true ∧ q_sE S ∧ q_tc E (q_Ty S)) ∨ (ph = 1 ∧ q_sA bg S ∧ q_tc E (q_Ty S)) ∨ (ph = 2 ∧ q_sA bg S ∧ (∀ k ops R, S = (k, ops) :: R → k ≠ -25) ∧ q_tc E (true :: q_Ty S)))
theorem ty_A {c : Int32} (h : q_isA c) : q_tyo c = true := by rcases h with rfl | rfl | rfl | rfl <;> decide
theorem ty_B {c : Int32} (h : c = -42 ∨ c = -43) : q_tyo c = false := by rcases h with rfl | rfl <;> decide
theorem rel_R {c : Int32} (h : q_isR c) : q_rel c = true := by rcases h with rfl | rfl | rfl | rfl | rfl | rfl <;> decide
theorem R_rel {c : Int32} (h : q_rel c = true) : q_isR c := by
  obtain ⟨h1, h2⟩ := of_decide_eq_true h
  have a := il h1
  have b := il h2
  have z1 : (-36 : Int32).toInt = -36 := rfl
  have z2 : (-31 : Int32).toInt = -31 := rfl
  have hh : c.toInt = -31 ∨ c.toInt = -32 ∨ c.toInt = -33 ∨ c.toInt = -34 ∨ c.toInt = -35 ∨ c.toInt = -36 := by omega
  rcases hh with e | e | e | e | e | e
  · exact Or.inl (Int32.toInt_inj.mp e)
  · exact Or.inr (Or.inl (Int32.toInt_inj.mp e))
  · exact Or.inr (Or.inr (Or.inl (Int32.toInt_inj.mp e)))
  · exact Or.inr (Or.inr (Or.inr (Or.inl (Int32.toInt_inj.mp e))))
  · exact Or.inr (Or.inr (Or.inr (Or.inr (Or.inl (Int32.toInt_inj.mp e)))))
  · exact Or.inr (Or.inr (Or.inr (Or.inr (Or.inr (Int32.toInt_inj.mp e)))))
theorem A_in {c : Int32} (h : -24 ≤ c ∧ c ≤ -21) : q_isA c := by
  have a := il h.1
  have b := il h.2
  have z1 : (-24 : Int32).toInt = -24 := rfl
  have z2 : (-21 : Int32).toInt = -21 := rfl
  have hh : c.toInt = -21 ∨ c.toInt = -22 ∨ c.toInt = -23 ∨ c.toInt = -24 := by omega
  rcases hh with e | e | e | e
  · exact Or.inl (Int32.toInt_inj.mp e)
  · exact Or.inr (Or.inl (Int32.toInt_inj.mp e))
  · exact Or.inr (Or.inr (Or.inl (Int32.toInt_inj.mp e)))
  · exact Or.inr (Or.inr (Or.inr (Int32.toInt_inj.mp e)))
theorem R_neg {c : Int32} (h : q_isR c) : c < 0 ∧ ¬ (c = -41 ∨ c = -51 ∨ c = -25) ∧ ¬ c = -51 ∧ ¬ c = 1 ∧ ¬ c = 4 ∧ ¬ c = -25 ∧ ¬ c = -41 := by rcases h with rfl | rfl | rfl | rfl | rfl | rfl <;> decide
theorem oA_mem {l : List Int32} (h : q_oA l) : l.length ≤ 2 ∧ ∀ c, c ∈ l → q_isA c := by
  match l, h with
  | [], _ => exact ⟨by simp, fun c hc => by cases hc⟩
  | [c], h => exact ⟨by simp, fun d hd => by rw [List.mem_singleton.mp hd]; exact h⟩
  | [c, d], h =>
    refine ⟨by simp, fun e he => ?_⟩
    rcases List.mem_cons.mp he with rfl | he
    · rcases h.1 with z | z
      · exact Or.inr (Or.inr (Or.inl z))
      · exact Or.inr (Or.inr (Or.inr z))
    · rw [List.mem_singleton.mp he]
      rcases h.2 with z | z
      · exact Or.inl z
      · exact Or.inr (Or.inl z)
theorem oB_mem {l : List Int32} (h : q_oB l) : l.length ≤ 2 ∧ ∀ c, c ∈ l → c = -42 ∨ c = -43 := by
  match l, h with
  | [], _ => exact ⟨by simp, fun c hc => by cases hc⟩
  | [c], h => exact ⟨by simp, fun d hd => by rw [List.mem_singleton.mp hd]; exact h⟩
  | [c, d], h =>
    refine ⟨by simp, fun e he => ?_⟩
    rcases List.mem_cons.mp he with rfl | he
    · exact Or.inl h.1
    · rw [List.mem_singleton.mp he]; exact Or.inr h.2
theorem wk_yes {r : Nat} {c : Int32} {l E : List Int32} (h : r ≤ q_rk c) : q_wk r (c :: l) E = q_wk r l (c :: E) := if_pos h
theorem wk_no {r : Nat} {c : Int32} {l E : List Int32} (h : ¬ r ≤ q_rk c) : q_wk r (c :: l) E = (c :: l, E) := if_neg h
theorem wk_len (r : Nat) : ∀ (l E : List Int32), (q_wk r l E).1.length + (q_wk r l E).2.length = l.length + E.length := by
  intro l
  induction l with
  | nil => intro E; rfl
  | cons c l ih =>
    intro E
    by_cases h : r ≤ q_rk c
    · rw [wk_yes h, ih]; simp; omega
    · rw [wk_no h]
theorem rk_pos (c : Int32) : 1 ≤ q_rk c := by
  unfold q_rk
  repeat' split
  all_goals omega
theorem wk_1 : ∀ (l E : List Int32), (q_wk 1 l E).1 = [] := by
  intro l
  induction l with
  | nil => intro E; rfl
  | cons c l ih => intro E; rw [wk_yes (rk_pos c)]; exact ih _
theorem wk_A {r : Nat} {T : List Bool} : ∀ (l E : List Int32), (∀ c, c ∈ l → q_isA c) → q_tc E (true :: (l.map q_tyo ++ T)) → q_tc (q_wk r l E).2 (true :: ((q_wk r l E).1.map q_tyo ++ T)) := by
  intro l
  induction l with
  | nil => intro E _ h; exact h
  | cons c l ih =>
    intro E hm h
    have hc := hm c (by simp)
    by_cases z : r ≤ q_rk c
    · rw [wk_yes z]
      refine ih (c :: E) (fun d hd => hm d (by simp [hd])) ⟨_, h, ?_⟩
      rw [List.map_cons, ty_A hc]
      exact Or.inr (Or.inr (Or.inr (Or.inl ⟨hc, _, rfl, rfl⟩)))
    · rw [wk_no z]; exact h
theorem wk_B {r : Nat} {T : List Bool} : ∀ (l E : List Int32), (∀ c, c ∈ l → c = -42 ∨ c = -43) → q_tc E (false :: (l.map q_tyo ++ T)) → q_tc (q_wk r l E).2 (false :: ((q_wk r l E).1.map q_tyo ++ T)) := by
  intro l
  induction l with
  | nil => intro E _ h; exact h
  | cons c l ih =>
    intro E hm h
    have hc := hm c (by simp)
    by_cases z : r ≤ q_rk c
    · rw [wk_yes z]
      refine ih (c :: E) (fun d hd => hm d (by simp [hd])) ⟨_, h, ?_⟩
      rw [List.map_cons, ty_B hc]
      exact Or.inr (Or.inr (Or.inr (Or.inr (Or.inr ⟨hc, _, rfl, rfl⟩))))
    · rw [wk_no z]; exact h
theorem rkA3 {c : Int32} (h : c = -21 ∨ c = -22) : q_rk c = 3 := by rcases h with rfl | rfl <;> decide
theorem rkA4 {c : Int32} (h : c = -23 ∨ c = -24) : q_rk c = 4 := by rcases h with rfl | rfl <;> decide
theorem isA_34 {c : Int32} (h : q_isA c) : (c = -21 ∨ c = -22) ∨ (c = -23 ∨ c = -24) := by
  rcases h with h | h | h | h
  · exact Or.inl (Or.inl h)
  · exact Or.inl (Or.inr h)
  · exact Or.inr (Or.inl h)
  · exact Or.inr (Or.inr h)
theorem wk_oA {s : Int32} {l : List Int32} (E : List Int32) (h : q_oA l) (hs : q_isA s) : q_oA (s :: (q_wk (q_rk s) l E).1) := by
  have r4 : q_rk s ≤ 4 := by rcases isA_34 hs with z | z; rw [rkA3 z]; omega; rw [rkA4 z]; omega
  match l, h with
  | [], _ => exact hs
  | [c], h =>
    by_cases z : q_rk s ≤ q_rk c
    · rw [wk_yes z]; exact hs
    · rw [wk_no z]
      rcases isA_34 h with y | y
      · rcases isA_34 hs with x | x
        · rw [rkA3 x, rkA3 y] at z; omega
        · exact ⟨x, y⟩
      · rw [rkA4 y] at z; omega
  | [c, d], h =>
    rw [wk_yes (by rw [rkA4 h.1]; exact r4)]
    by_cases z : q_rk s ≤ q_rk d
    · rw [wk_yes z]; exact hs
    · rw [wk_no z]
      rcases isA_34 hs with x | x
      · rw [rkA3 x, rkA3 h.2] at z; omega
      · exact ⟨x, h.2⟩
theorem wk_oB {s : Int32} {l : List Int32} (E : List Int32) (h : q_oB l) (hs : s = -42 ∨ s = -43) : q_oB (s :: (q_wk (q_rk s) l E).1) := by
  match l, h with
  | [], _ => exact hs
  | [c], h =>
    by_cases z : q_rk s ≤ q_rk c
    · rw [wk_yes z]; exact hs
    · rw [wk_no z]
      rcases hs with rfl | rfl
      · rcases h with rfl | rfl
        · exact absurd (by decide) z
        · exact ⟨rfl, rfl⟩
      · exact absurd (rk_pos c) z
  | [c, d], h =>
    obtain ⟨rfl, rfl⟩ := h
    rcases hs with rfl | rfl
    · rw [wk_yes (by decide), wk_no (by decide)]; exact ⟨rfl, rfl⟩
    · rw [wk_yes (by decide), wk_yes (by decide)]; exact Or.inr rfl
theorem pk_yes {k : Int32} {f : q_F} {R : List q_F} {E : List Int32} (h : f.1 = k) : q_pk k (f :: R) E = q_pk k R (k :: E) := if_pos h
theorem pk_no {k : Int32} {f : q_F} {R : List q_F} {E : List Int32} (h : ¬ f.1 = k) : q_pk k (f :: R) E = (f :: R, E) := if_neg h
theorem rep_cons {k : Int32} {j : Nat} {E : List Int32} : List.replicate j k ++ k :: E = List.replicate (j + 1) k ++ E := by
  induction j with
  | zero => rfl
  | succ j ih => rw [List.replicate_succ, List.cons_append, ih, List.replicate_succ (n := j + 1), List.cons_append]
/-- negations that wait are done -/
theorem pk25 {bg : Bool} : ∀ (S : List q_F) (E : List Int32), q_sA bg S → q_tc E (true :: q_Ty S) → q_sA bg (q_pk (-25) S E).1 ∧ (∃ k ops R, (q_pk (-25) S E).1 = (k, ops) :: R ∧ k ≠ -25) ∧ q_tc (q_pk (-25) S E).2 (true :: q_Ty (q_pk (-25) S E).1) ∧ ∃ j, m_fl S = List.replicate j (-25) ++ m_fl (q_pk (-25) S E).1 ∧ (q_pk (-25) S E).2 = List.replicate j (-25) ++ E ∧ q_op S = q_op (q_pk (-25) S E).1 + j ∧ m_br S = m_br (q_pk (-25) S E).1 ∧ q_cp S = q_cp (q_pk (-25) S E).1 := by
  intro S
  induction S with
  | nil => intro E h; cases h
  | cons f R ih =>
    intro E h ht
    obtain ⟨k, ops⟩ := f
    by_cases z : k = -25
    · subst z
      obtain ⟨-, h⟩ := h
      rcases h with ⟨e, -⟩ | ⟨e, -⟩ | ⟨e, -⟩ | ⟨-, e, hR⟩
      · exact absurd e (show ¬ (-25 : Int32) = 1 by decide)
      · rcases e with e | e
        · exact absurd e (show ¬ (-25 : Int32) = 4 by decide)
        · exact absurd e (show ¬ q_isR (-25) by unfold q_isR; decide)
      · exact absurd e (show ¬ (-25 : Int32) = -51 by decide)
      · have e : ops = [] := e
        subst e
        rw [pk_yes (k := -25) (f := (-25, [])) rfl]
        have ht : q_tc E (true :: q_Ty R) := ht
        obtain ⟨a1, a2, a3, j, b1, b2, b3, b4, b5⟩ := ih (-25 :: E) hR ⟨_, ht, Or.inr (Or.inl ⟨rfl, _, rfl, rfl⟩)⟩
        refine ⟨a1, a2, a3, j + 1, ?_, ?_, ?_, b4, b5⟩
        · show -25 :: m_fl R = _
          rw [b1, List.replicate_succ, List.cons_append]
        · rw [b2, rep_cons]
        · show q_op R + 1 = _
          omega
    · rw [pk_no z]
      exact ⟨h, ⟨k, ops, R, rfl, z⟩, ht, 0, rfl, rfl, rfl, rfl, rfl⟩
/-- nots that wait are done -/
theorem pk41 : ∀ (S : List q_F) (E : List Int32), q_sE S → q_tc E (false :: q_Ty S) → ∃ ops2 E2 j, q_pk (-41) S E = ([(2, ops2)], E2) ∧ q_oB ops2 ∧ q_tc E2 (false :: q_Ty [(2, ops2)]) ∧ m_fl S = List.replicate j (-41) ++ ops2 ∧ E2 = List.replicate j (-41) ++ E ∧ q_op S = j ∧ m_br S = 0 ∧ q_cp S = false := by
  intro S
  induction S with
  | nil => intro E h; cases h
  | cons f R ih =>
    intro E h ht
    obtain ⟨k, ops⟩ := f
    rcases h with ⟨rfl, rfl, ho⟩ | ⟨rfl, e, hR⟩
    · refine ⟨ops, E, 0, pk_no (show ¬ (2 : Int32) = -41 by decide), ho, ht, ?_, rfl, rfl, rfl, rfl⟩
      show ops ++ [] = ops
      rw [List.append_nil]
    · have e : ops = [] := e
      subst e
      have ht : q_tc E (false :: q_Ty R) := ht
      obtain ⟨ops2, E2, j, a1, a2, a3, b1, b2, b3, b4, b5⟩ := ih (-41 :: E) hR ⟨_, ht, Or.inr (Or.inr (Or.inl ⟨rfl, _, rfl, rfl⟩))⟩
      refine ⟨ops2, E2, j + 1, by rw [pk_yes (k := -41) (f := (-41, [])) rfl, a1], a2, a3, ?_, by rw [b2, rep_cons], ?_, b4, b5⟩
      · show -41 :: m_fl R = _
        rw [b1, List.replicate_succ, List.cons_append]
      · show q_op R + 1 = _
        omega
theorem ps_bd {l : List Int32} {T : List Bool} (h : q_tc l T) : 2 * q_ps l ≤ l.length + T.length := by
  induction l generalizing T with
  | nil => rw [show T = [] from h]; exact Nat.le_refl _
  | cons c l ih =>
    obtain ⟨S, h1, h2⟩ := h
    have := ih h1
    unfold q_ps
    rcases h2 with ⟨hc, rfl⟩ | ⟨rfl, r, rfl, rfl⟩ | ⟨rfl, r, rfl, rfl⟩ | ⟨hc, r, rfl, rfl⟩ | ⟨hc, r, rfl, rfl⟩ | ⟨hc, r, rfl, rfl⟩
    · rw [if_pos (isP_ge hc)]; simp; omega
    · rw [if_neg (by decide)]; simp at this ⊢; omega
    · rw [if_neg (by decide)]; simp at this ⊢; omega
    · rw [if_neg (isA_lt hc).2.2.2]; simp at this ⊢; omega
    · rw [if_neg (isR_lt hc).2.2.2]; simp at this ⊢; omega
    · rw [if_neg (isB_lt hc).2.2.2]; simp at this ⊢; omega
theorem hl_H {G : q_Gs} (h : q_hl G = false) : q_H G = [] := by
  induction G with
  | nil => rfl
  | cons g G ih =>
    obtain ⟨b, l⟩ := g
    cases b with
    | false => cases h
    | true => exact ih h
theorem sE_len {S : List q_F} (h : q_sE S) : S.length = q_op S + 1 := by
  induction S with
  | nil => cases h
  | cons f R ih =>
    obtain ⟨k, ops⟩ := f
    rcases h with ⟨rfl, rfl, -⟩ | ⟨rfl, -, hR⟩
    · rfl
    · have := ih hR
      show R.length + 1 = q_op R + 1 + 1
      omega
theorem sA_len {bg : Bool} {S : List q_F} (h : q_sA bg S) : S.length ≤ q_op S + 2 := by
  induction S with
  | nil => cases h
  | cons f R ih =>
    obtain ⟨k, ops⟩ := f
    have e : q_op ((k, ops) :: R) = q_op R + (if k = -41 ∨ k = -51 ∨ k = -25 then 1 else 0) := rfl
    rw [e]
    show R.length + 1 ≤ _
    rcases h.2 with ⟨-, rfl, -⟩ | ⟨-, -, hR⟩ | ⟨hk, hR⟩ | ⟨hk, -, hR⟩
    · simp
    · have := sE_len hR; omega
    · have hk : k = -51 := hk
      have := ih hR; rw [if_pos (Or.inr (Or.inl hk))]; omega
    · have hk : k = -25 := hk
      have := ih hR; rw [if_pos (Or.inr (Or.inr hk))]; omega
theorem len_app {r : Nat} {E1 l E : List Int32} (h : (q_wk r l E).1 = []) : (q_wk r l E).2.length = l.length + E.length := by
  have := wk_len r l E
  rw [h] at this
  simpa using this
