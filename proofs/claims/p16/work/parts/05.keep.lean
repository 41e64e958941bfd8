section
variable {h W R a N : Nat} {pe he es rn : Nat → Int32} {cw rt una nxt high cn cs cd cl rd rl ysf yss yds yle : Nat → Nat}
theorem ms_k_write (hf : ms_fg R W pe he) (hW : W < 256) : ms_fg R (W + 1) (upd pe W 1) he := by
  obtain ⟨h1, h2, h3, h4⟩ := hf
  refine ⟨by omega, by omega, fun d hd => ?_, fun d hd => ?_⟩
  · by_cases e : d = W
    · omega
    · rw [pk_un e] at hd
      have := h3 d hd
      omega
  · have := h4 d hd
    omega
theorem ms_k_cl (hf : ms_fg R W pe he) (x y : Nat) : ms_fg R W (ms_cl pe x y) he := by
  obtain ⟨h1, h2, h3, h4⟩ := hf
  refine ⟨h1, h2, fun d hd => ?_, h4⟩
  by_cases c : x ≤ d ∧ d < y
  · exact absurd (ms_cli c.1 c.2) hd
  · rw [ms_clo c] at hd
    exact h3 d hd
theorem ms_k_pf {m : Nat} {h2 : Nat → Int32} (hf : ms_fg R W pe he) (hw : ∀ d, ¬ h2 d = 0 → d < W) (hp : ms_px h2 R m) : ms_fg (R + m) W (ms_cl pe R (R + m)) (ms_cl h2 R (R + m)) := by
  obtain ⟨g1, g2, g3, _⟩ := hf
  refine ⟨ms_pxW hp hw g1, g2, fun d hd => ?_, fun d hd => ?_⟩
  · by_cases c : R ≤ d ∧ d < R + m
    · exact absurd (ms_cli c.1 c.2) hd
    · rw [ms_clo c] at hd
      have := g3 d hd
      omega
  · by_cases c : R ≤ d ∧ d < R + m
    · exact absurd (ms_cli c.1 c.2) hd
    · rw [ms_clo c] at hd
      exact hw d hd
/-- clearing all below is clearing the new ones -/
theorem ms_k_low {m : Nat} (hf : ms_fg R W pe he) : ms_cl pe 0 (R + m) = ms_cl pe R (R + m) := by
  obtain ⟨_, _, g3, _⟩ := hf
  funext d
  by_cases c : R ≤ d ∧ d < R + m
  · rw [ms_cli c.1 c.2, ms_cli (Nat.zero_le d) c.2]
  · rw [ms_clo c]
    by_cases c2 : d < R + m
    · rw [ms_cli (Nat.zero_le d) c2]
      by_cases z : pe d = 0
      · exact z.symm
      · have := g3 d z
        omega
    · rw [ms_clo (by omega)]
theorem ms_k_pt {S : Nat → Prop} {p2 : Nat → Int32} (hf : ms_fg R W pe he) (hp : ms_pt S pe p2) (hS : ∀ d, S d → R ≤ d ∧ d < W) : ms_fg R W p2 he := by
  obtain ⟨h1, h2, h3, h4⟩ := hf
  refine ⟨h1, h2, fun d hd => ?_, h4⟩
  by_cases c : S d
  · exact hS d c
  · rw [(hp d).2 c] at hd
    exact h3 d hd
theorem ms_k_send (H : ms_ct h es una nxt high rn) (ha : nxt a < high a) : ms_ct h es una (ms_un nxt a (nxt a + 1)) high rn := by
  intro i hi
  obtain ⟨h1, h2, h3, h4, h5⟩ := H i hi
  by_cases e : i = a
  · subst e
    rw [ms_us]
    exact ⟨by omega, by omega, h3, h4, h5⟩
  · rw [ms_uo e]
    exact ⟨h1, h2, h3, h4, h5⟩
theorem ms_k_new (H : ms_ct h es una nxt high rn) (ha : nxt a = high a) (hr : high a < una a + 8) : ms_ct (h + 1) es una (ms_un nxt a (nxt a + 1)) (ms_un high a (high a + 1)) rn := by
  intro i hi
  obtain ⟨h1, h2, h3, h4, h5⟩ := H i hi
  by_cases e : i = a
  · subst e
    rw [ms_us, ms_us]
    exact ⟨by omega, by omega, by omega, by omega, h5⟩
  · rw [ms_uo e, ms_uo e]
    exact ⟨h1, h2, h3, by omega, h5⟩
theorem ms_k_to (H : ms_ct h es una nxt high rn) : ms_ct h es una (ms_un nxt a (una a)) high rn := by
  intro i hi
  obtain ⟨h1, h2, h3, h4, h5⟩ := H i hi
  by_cases e : i = a
  · subst e
    rw [ms_us]
    exact ⟨Nat.le_refl _, by omega, h3, h4, h5⟩
  · rw [ms_uo e]
    exact ⟨h1, h2, h3, h4, h5⟩
theorem ms_k_rn {x : Int32} (H : ms_ct h es una nxt high rn) (he : ¬ es a = 1) : ms_ct h es una nxt high (upd rn a x) := by
  intro i hi
  obtain ⟨h1, h2, h3, h4, h5⟩ := H i hi
  refine ⟨h1, h2, h3, h4, fun q => ?_⟩
  by_cases e : i = a
  · subst e
    exact absurd q he
  · rw [pk_un e]
    exact h5 q
theorem ms_k_ack (H : ms_ct h es una nxt high rn) (hu : una a < high a) {n2 : Nat → Nat} (hn : (nxt a < una a + 1 ∧ n2 = ms_un nxt a (una a + 1)) ∨ (una a + 1 ≤ nxt a ∧ n2 = nxt)) : ms_ct h es (ms_un una a (una a + 1)) n2 high (upd rn a (nI (una a + 1))) := by
  intro i hi
  obtain ⟨h1, h2, h3, h4, h5⟩ := H i hi
  by_cases e : i = a
  · subst e
    rw [ms_us, pk_us]
    rcases hn with ⟨c, rfl⟩ | ⟨c, rfl⟩
    · rw [ms_us]
      exact ⟨by omega, by omega, by omega, h4, fun _ => rfl⟩
    · exact ⟨by omega, by omega, by omega, h4, fun _ => rfl⟩
  · rw [ms_uo e, pk_un e]
    rcases hn with ⟨c, rfl⟩ | ⟨c, rfl⟩
    · rw [ms_uo e]
      exact ⟨h1, h2, h3, h4, h5⟩
    · exact ⟨h1, h2, h3, h4, h5⟩
theorem ms_k_es {z : Int32} (hz : z ≠ 1) (H : ms_ct h es una nxt high rn) : ms_ct h (upd es a z) una nxt high rn := by
  intro i hi
  obtain ⟨h1, h2, h3, h4, h5⟩ := H i hi
  refine ⟨h1, h2, h3, h4, fun q => ?_⟩
  by_cases e : i = a
  · subst e
    rw [pk_us] at q
    exact absurd q hz
  · rw [pk_un e] at q
    exact h5 q
theorem ms_k_wd {c : Nat} (H : ms_wd cw rt) (h1 : 256 ≤ c) (h2 : c ≤ 4096) : ms_wd (ms_un cw a c) rt := by
  intro i hi
  obtain ⟨g1, g2, g3⟩ := H i hi
  by_cases e : i = a
  · subst e
    rw [ms_us]
    exact ⟨h1, h2, g3⟩
  · rw [ms_uo e]
    exact ⟨g1, g2, g3⟩
theorem ms_k_hi (H : ms_ct h es una nxt high rn) : ∀ i, i < 3 → una i ≤ high i ∧ high i ≤ una i + 8 := by
  intro i hi
  obtain ⟨h1, h2, h3, _⟩ := H i hi
  exact ⟨by omega, h3⟩
theorem ms_k_le (a : Nat) : ∀ i, i < 3 → high i ≤ ms_un high a (high a + 1) i := by
  intro i _
  by_cases e : i = a
  · subst e
    rw [ms_us]
    omega
  · rw [ms_uo e]
    exact Nat.le_refl _
end
/-- reinjection of j records from s0 on, by the ring -/
def ms_fx (pe : Nat → Int32) (R : Nat) (rd rl : Nat → Nat) (a s0 : Nat) : Nat → Nat → Int32
  | 0 => pe
  | j + 1 => ms_ri (ms_fx pe R rd rl a s0 j) R (rd (a * 8 + (s0 + j) % 8)) (rl (a * 8 + (s0 + j) % 8))
theorem ms_fxp (pe : Nat → Int32) (R : Nat) (rd rl : Nat → Nat) (a s0 : Nat) : ∀ j, ms_pt (fun d => ∃ s, s0 ≤ s ∧ s < s0 + j ∧ R ≤ d ∧ rd (a * 8 + s % 8) ≤ d ∧ d < rd (a * 8 + s % 8) + rl (a * 8 + s % 8)) pe (ms_fx pe R rd rl a s0 j) := by
  intro j
  induction j with
  | zero =>
    refine ms_ptS (fun d => ⟨fun z => z.elim, ?_⟩) (ms_pt0 pe)
    rintro ⟨s, s1, s2, _⟩
    omega
  | succ j ih =>
    refine ms_ptS (fun d => ⟨?_, ?_⟩) (ms_ptR (R := R) (d := rd (a * 8 + (s0 + j) % 8)) (l := rl (a * 8 + (s0 + j) % 8)) ih)
    · rintro (⟨s, s1, s2, s3⟩ | ⟨q1, q2, q3⟩)
      · exact ⟨s, s1, by omega, s3⟩
      · exact ⟨s0 + j, by omega, by omega, q1, q2, q3⟩
    · rintro ⟨s, s1, s2, s3⟩
      by_cases e : s = s0 + j
      · subst e
        exact Or.inr s3
      · exact Or.inl ⟨s, s1, by omega, s3⟩
/-- the ring's live records -/
def ms_xr (W : Nat) (es : Nat → Int32) (una high rd rl : Nat → Nat) : Prop := ∀ a b, a < 3 → es a = 1 → una a ≤ b → b < high a → 1 ≤ rl (a * 8 + b % 8) ∧ rl (a * 8 + b % 8) ≤ 4 ∧ rd (a * 8 + b % 8) + rl (a * 8 + b % 8) ≤ W
