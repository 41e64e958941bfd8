/-- reinjection of j records from s0 on, by the ring -/
def ms_fx (pe : Nat → Int32) (R : Nat) (rd rl : Nat → Nat) (a s0 : Nat) : Nat → Nat → Int32
  | 0 => pe
  | j + 1 => ms_ri (ms_fx pe R rd rl a s0 j) R (rd (a * 8 + (s0 + j) % 8)) (rl (a * 8 + (s0 + j) % 8))
/-- reinjection of the records of a among the first i rows, by the list -/
def ms_fy (pe : Nat → Int32) (R : Nat) (ysf yds yle : Nat → Nat) (a : Nat) : Nat → Nat → Int32
  | 0 => pe
  | i + 1 => if ysf i = a then ms_ri (ms_fy pe R ysf yds yle a i) R (yds i) (yle i) else ms_fy pe R ysf yds yle a i
theorem ms_fxp (pe : Nat → Int32) (R : Nat) (rd rl : Nat → Nat) (a s0 : Nat) : ∀ j, ms_pt (fun d => ∃ s, s0 ≤ s ∧ s < s0 + j ∧ R ≤ d ∧ rd (a * 8 + s % 8) ≤ d ∧ d < rd (a * 8 + s % 8) + rl (a * 8 + s % 8)) pe (ms_fx pe R rd rl a s0 j) := by
  intro j
  induction j with
  | zero =>
    refine ms_ptS (fun d => ⟨fun z => z.elim, ?_⟩) (ms_pt0 pe)
    rintro ⟨s, s1, s2, _⟩
    omega
  | succ j ih =>
    refine ms_ptS (fun d => ⟨?_, ?_⟩) (ms_ptR (R := R) (d := rd (a * 8 + (s0 + j) % 8)) (l := rl (a * 8 + (s0 + j) % 8)) ih)
    · rintro (⟨s, s1, s2, s3⟩ | ⟨q1, q2, q3⟩)
      · exact ⟨s, s1, by omega, s3⟩
      · exact ⟨s0 + j, by omega, by omega, q1, q2, q3⟩
    · rintro ⟨s, s1, s2, s3⟩
      by_cases e : s = s0 + j
      · subst e
        exact Or.inr s3
      · exact Or.inl ⟨s, s1, by omega, s3⟩
theorem ms_fyp (pe : Nat → Int32) (R : Nat) (ysf yds yle : Nat → Nat) (a : Nat) : ∀ i, ms_pt (fun d => ∃ j, j < i ∧ ysf j = a ∧ R ≤ d ∧ yds j ≤ d ∧ d < yds j + yle j) pe (ms_fy pe R ysf yds yle a i) := by
  intro i
  induction i with
  | zero =>
    refine ms_ptS (fun d => ⟨fun z => z.elim, ?_⟩) (ms_pt0 pe)
    rintro ⟨s, s1, _⟩
    omega
  | succ i ih =>
    unfold ms_fy
    by_cases c : ysf i = a
    · rw [if_pos c]
      refine ms_ptS (fun d => ⟨?_, ?_⟩) (ms_ptR (R := R) (d := yds i) (l := yle i) ih)
      · rintro (⟨s, s1, s2⟩ | ⟨q1, q2, q3⟩)
        · exact ⟨s, by omega, s2⟩
        · exact ⟨i, by omega, c, q1, q2, q3⟩
      · rintro ⟨s, s1, s2, s3⟩
        by_cases e : s = i
        · subst e
          exact Or.inr s3
        · exact Or.inl ⟨s, by omega, s2, s3⟩
    · rw [if_neg c]
      refine ms_ptS (fun d => ⟨?_, ?_⟩) ih
      · rintro ⟨s, s1, s2⟩
        exact ⟨s, by omega, s2⟩
      · rintro ⟨s, s1, s2, s3⟩
        have e : s ≠ i := by
          intro e
          subst e
          exact c s2
        exact ⟨s, by omega, s2, s3⟩
theorem ms_fxy {W R a N : Nat} {es : Nat → Int32} {una high rd rl ysf yss yds yle : Nat → Nat} (pe : Nat → Int32) (hrc : ms_rc W es una high rd rl N ysf yss yds yle) (ha : a < 3) (he : es a = 1) (hu : una a ≤ high a) : ms_fx pe R rd rl a (una a) (high a - una a) = ms_fy pe R ysf yds yle a N := by
  have e : una a + (high a - una a) = high a := by omega
  have h1 := ms_fxp pe R rd rl a (una a) (high a - una a)
  rw [e] at h1
  exact ms_ptU (ms_k_cov hrc ha he) h1 (ms_fyp pe R ysf yds yle a N)
theorem ms_fxw {W R a N : Nat} {es pe he : Nat → Int32} {una high rd rl ysf yss yds yle : Nat → Nat} (hf : ms_fg R W pe he) (hrc : ms_rc W es una high rd rl N ysf yss yds yle) : ms_fg R W (ms_fy pe R ysf yds yle a N) he := by
  refine ms_k_pt hf (ms_fyp pe R ysf yds yle a N) ?_
  rintro d ⟨j, j1, _, j3, j4, j5⟩
  have := (ms_k_in hrc j1).2.2.2.2
  exact ⟨j3, by omega⟩
/-- the ring's live records -/
def ms_xr (W : Nat) (es : Nat → Int32) (una high rd rl : Nat → Nat) : Prop := ∀ a b, a < 3 → es a = 1 → una a ≤ b → b < high a → 1 ≤ rl (a * 8 + b % 8) ∧ rl (a * 8 + b % 8) ≤ 4 ∧ rd (a * 8 + b % 8) + rl (a * 8 + b % 8) ≤ W
theorem ms_xrE {W N : Nat} {es : Nat → Int32} {una high rd rl ysf yss yds yle : Nat → Nat} (hrc : ms_rc W es una high rd rl N ysf yss yds yle) : ms_xr W es una high rd rl := fun a b h1 h2 h3 h4 => (hrc.2.2.2 a b h1 h2 h3 h4).2
