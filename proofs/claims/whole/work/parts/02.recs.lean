/-- the reference's list of records holds this row -/
def ms_row (N : Nat) (sf ss ds le : Nat → Nat) (a b c d : Nat) : Prop := ∃ j, j < N ∧ sf j = a ∧ ss j = b ∧ ds j = c ∧ le j = d
/-- no two rows speak of the same segment -/
def ms_uq (N : Nat) (sf ss : Nat → Nat) : Prop := ∀ i j, i < N → j < N → sf i = sf j → ss i = ss j → i = j
/-- the list and the ring hold the same records -/
def ms_rc (W : Nat) (es : Nat → Int32) (una high rd rl : Nat → Nat) (N : Nat) (sf ss ds le : Nat → Nat) : Prop :=
  N ≤ 24 ∧ ms_uq N sf ss ∧
  (∀ a b c d, ms_row N sf ss ds le a b c d → a < 3 ∧ es a = 1 ∧ una a ≤ b ∧ b < high a ∧ c = rd (a * 8 + b % 8) ∧ d = rl (a * 8 + b % 8)) ∧
  (∀ a b, a < 3 → es a = 1 → una a ≤ b → b < high a → ms_row N sf ss ds le a b (rd (a * 8 + b % 8)) (rl (a * 8 + b % 8)) ∧ 1 ≤ rl (a * 8 + b % 8) ∧ rl (a * 8 + b % 8) ≤ 4 ∧ rd (a * 8 + b % 8) + rl (a * 8 + b % 8) ≤ W)
theorem ms_rcW {W W' : Nat} {es : Nat → Int32} {una high rd rl : Nat → Nat} {N : Nat} {sf ss ds le : Nat → Nat} (hW : W ≤ W') (h : ms_rc W es una high rd rl N sf ss ds le) : ms_rc W' es una high rd rl N sf ss ds le := by
  obtain ⟨h1, h2, h3, h4⟩ := h
  refine ⟨h1, h2, h3, fun a b ha he hu hh => ?_⟩
  obtain ⟨g1, g2, g3, g4⟩ := h4 a b ha he hu hh
  exact ⟨g1, g2, g3, Nat.le_trans g4 hW⟩
theorem ms_row_un {N : Nat} {sf ss ds le : Nat → Nat} {x y z w a b c d : Nat} : ms_row (N + 1) (ms_un sf N x) (ms_un ss N y) (ms_un ds N z) (ms_un le N w) a b c d ↔ (ms_row N sf ss ds le a b c d ∨ (x = a ∧ y = b ∧ z = c ∧ w = d)) := by
  constructor
  · rintro ⟨j, hj, h1, h2, h3, h4⟩
    by_cases e : j = N
    · subst e
      rw [ms_us] at h1 h2 h3 h4
      exact Or.inr ⟨h1, h2, h3, h4⟩
    · rw [ms_uo e] at h1 h2 h3 h4
      exact Or.inl ⟨j, by omega, h1, h2, h3, h4⟩
  · rintro (⟨j, hj, h1, h2, h3, h4⟩ | ⟨h1, h2, h3, h4⟩)
    · have e : j ≠ N := by omega
      exact ⟨j, by omega, by rw [ms_uo e]; exact h1, by rw [ms_uo e]; exact h2, by rw [ms_uo e]; exact h3, by rw [ms_uo e]; exact h4⟩
    · exact ⟨N, by omega, by rw [ms_us]; exact h1, by rw [ms_us]; exact h2, by rw [ms_us]; exact h3, by rw [ms_us]; exact h4⟩
/-- two slots of the ring differ -/
theorem ms_slot {a b a0 b0 : Nat} (h : ¬ (a = a0 ∧ b % 8 = b0 % 8)) : a * 8 + b % 8 ≠ a0 * 8 + b0 % 8 := by
  intro e
  apply h
  omega
/-- a list that agrees with the ring has room where a window has room -/
theorem ms_room {W : Nat} {es : Nat → Int32} {una high rd rl : Nat → Nat} {N : Nat} {sf ss ds le : Nat → Nat} (h : ms_rc W es una high rd rl N sf ss ds le) (hc : ∀ i, i < 3 → una i ≤ high i ∧ high i ≤ una i + 8) {a0 : Nat} (ha : a0 < 3) (hr : high a0 < una a0 + 8) : N + 1 ≤ 24 := by
  obtain ⟨_, hu, h3, _⟩ := h
  have g : ∀ j, j < N → sf j < 3 ∧ una (sf j) ≤ ss j ∧ ss j < high (sf j) := by
    intro j hj
    obtain ⟨q1, _, q3, q4, _, _⟩ := h3 _ _ _ _ ⟨j, hj, rfl, rfl, rfl, rfl⟩
    exact ⟨q1, q3, q4⟩
  refine ms_pig 24 (N + 1) (fun j => if j < N then sf j * 8 + ss j % 8 else a0 * 8 + high a0 % 8) ?_ ?_
  · intro j hj
    show (if j < N then sf j * 8 + ss j % 8 else a0 * 8 + high a0 % 8) < 24
    split
    · rename_i hjN
      have := (g j hjN).1
      omega
    · omega
  · intro i j hi hj e
    have e' : (if i < N then sf i * 8 + ss i % 8 else a0 * 8 + high a0 % 8) = (if j < N then sf j * 8 + ss j % 8 else a0 * 8 + high a0 % 8) := e
    have key : ∀ m, m < N → sf m * 8 + ss m % 8 ≠ a0 * 8 + high a0 % 8 := by
      intro m hm
      apply ms_slot
      rintro ⟨q1, q2⟩
      obtain ⟨_, w2, w3⟩ := g m hm
      rw [q1] at w2 w3
      omega
    by_cases ci : i < N
    · rw [if_pos ci] at e'
      by_cases cj : j < N
      · rw [if_pos cj] at e'
        have gi := g i ci
        have gj := g j cj
        have s1 : sf i = sf j := by omega
        have s2 : ss i % 8 = ss j % 8 := by omega
        rw [s1] at gi
        have hcj := hc (sf j) gj.1
        exact hu i j ci cj s1 (by omega)
      · rw [if_neg cj] at e'
        exact absurd e' (key i ci)
    · rw [if_neg ci] at e'
      by_cases cj : j < N
      · rw [if_pos cj] at e'
        exact absurd e'.symm (key j cj)
      · omega
/-- a new record -/
theorem ms_rc_new {W : Nat} {es : Nat → Int32} {una high rd rl : Nat → Nat} {N : Nat} {sf ss ds le : Nat → Nat} (h : ms_rc W es una high rd rl N sf ss ds le) (hc : ∀ i, i < 3 → una i ≤ high i ∧ high i ≤ una i + 8) {a0 : Nat} (ha : a0 < 3) (he : es a0 = 1) (hr : high a0 < una a0 + 8) {d l : Nat} (hl1 : 1 ≤ l) (hl4 : l ≤ 4) (hW : d + l ≤ W) :
    ms_rc W es una (ms_un high a0 (high a0 + 1)) (ms_un rd (a0 * 8 + high a0 % 8) d) (ms_un rl (a0 * 8 + high a0 % 8) l) (N + 1) (ms_un sf N a0) (ms_un ss N (high a0)) (ms_un ds N d) (ms_un le N l) := by
  have hroom := ms_room h hc ha hr
  obtain ⟨_, hu, h3, h4⟩ := h
  have key : ∀ a b, a < 3 → una a ≤ b → b < high a → a * 8 + b % 8 ≠ a0 * 8 + high a0 % 8 := by
    intro a b _ w2 w3
    apply ms_slot
    rintro ⟨q1, q2⟩
    rw [q1] at w2 w3
    omega
  refine ⟨hroom, ?_, ?_, ?_⟩
  · intro i j hi hj e1 e2
    have g : ∀ m, m < N → ¬ (sf m = a0 ∧ ss m = high a0) := by
      rintro m hm ⟨q1, q2⟩
      obtain ⟨_, _, _, w4, _, _⟩ := h3 _ _ _ _ ⟨m, hm, rfl, rfl, rfl, rfl⟩
      rw [q1, q2] at w4
      omega
    by_cases ci : i = N
    · by_cases cj : j = N
      · omega
      · rw [ci, ms_us, ms_uo cj] at e1 e2
        exact absurd ⟨e1.symm, e2.symm⟩ (g j (by omega))
    · by_cases cj : j = N
      · rw [cj, ms_us, ms_uo ci] at e1 e2
        exact absurd ⟨e1, e2⟩ (g i (by omega))
      · rw [ms_uo ci, ms_uo cj] at e1 e2
        exact hu i j (by omega) (by omega) e1 e2
  · intro a b c d' hrow
    rcases ms_row_un.mp hrow with hold | ⟨q1, q2, q3, q4⟩
    · obtain ⟨w1, w2, w3, w4, w5, w6⟩ := h3 a b c d' hold
      have hk := key a b w1 w3 w4
      refine ⟨w1, w2, w3, ?_, ?_, ?_⟩
      · by_cases e : a = a0
        · rw [e, ms_us]; rw [e] at w4; omega
        · rw [ms_uo e]; exact w4
      · rw [ms_uo hk]; exact w5
      · rw [ms_uo hk]; exact w6
    · subst q1 q2 q3 q4
      have := hc a0 ha
      refine ⟨ha, he, this.1, ?_, ?_, ?_⟩
      · rw [ms_us]; omega
      · rw [ms_us]
      · rw [ms_us]
  · intro a b w1 w2 w3 w4
    by_cases e : a = a0 ∧ b = high a0
    · obtain ⟨q1, q2⟩ := e
      subst q1 q2
      rw [ms_us, ms_us]
      exact ⟨ms_row_un.mpr (Or.inr ⟨rfl, rfl, rfl, rfl⟩), hl1, hl4, hW⟩
    · have w4' : b < high a := by
        by_cases ea : a = a0
        · subst ea
          rw [ms_us] at w4
          have : b ≠ high a := fun eb => e ⟨rfl, eb⟩
          omega
        · rw [ms_uo ea] at w4; exact w4
      have hk := key a b w1 w3 w4'
      obtain ⟨g1, g2⟩ := h4 a b w1 w2 w3 w4'
      rw [ms_uo hk, ms_uo hk]
      exact ⟨ms_row_un.mpr (Or.inl g1), g2⟩
/-- what the loop that removes rows keeps: rows from i on are through -/
def ms_fi (p : Nat → Nat → Prop) (N0 : Nat) (sf0 ss0 ds0 le0 : Nat → Nat) (i N : Nat) (sf ss ds le : Nat → Nat) : Prop :=
  N ≤ N0 ∧ ms_uq N sf ss ∧ (∀ j, i ≤ j → j < N → ¬ p (sf j) (ss j)) ∧
  (∀ a b c d, ms_row N sf ss ds le a b c d → ms_row N0 sf0 ss0 ds0 le0 a b c d) ∧
  (∀ a b c d, ms_row N0 sf0 ss0 ds0 le0 a b c d → ¬ p a b → ms_row N sf ss ds le a b c d)
theorem ms_fi0 {p : Nat → Nat → Prop} {N : Nat} {sf ss ds le : Nat → Nat} (hN : N ≤ 24) (hu : ms_uq N sf ss) : ms_fi p N sf ss ds le 24 N sf ss ds le :=
  ⟨Nat.le_refl N, hu, fun j h1 h2 => absurd h2 (by omega), fun _ _ _ _ h => h, fun _ _ _ _ h _ => h⟩
theorem ms_fik {p : Nat → Nat → Prop} {N0 : Nat} {sf0 ss0 ds0 le0 : Nat → Nat} {i N : Nat} {sf ss ds le : Nat → Nat} (h : ms_fi p N0 sf0 ss0 ds0 le0 (i + 1) N sf ss ds le) (hp : i < N → ¬ p (sf i) (ss i)) : ms_fi p N0 sf0 ss0 ds0 le0 i N sf ss ds le := by
  obtain ⟨h1, h2, h3, h4, h5⟩ := h
  refine ⟨h1, h2, fun j g1 g2 => ?_, h4, h5⟩
  by_cases e : j = i
  · subst e; exact hp g2
  · exact h3 j (by omega) g2
theorem ms_shv {f : Nat → Nat} {i M j : Nat} (h : j < M) : ms_sh f i M j = f (if j < i then j else j + 1) := by
  by_cases c : j < i
  · rw [if_pos c, ms_sho (by omega)]
  · rw [if_neg c, ms_shi (by omega) h]
theorem ms_fir {p : Nat → Nat → Prop} {N0 : Nat} {sf0 ss0 ds0 le0 : Nat → Nat} {i N : Nat} {sf ss ds le : Nat → Nat} (h : ms_fi p N0 sf0 ss0 ds0 le0 (i + 1) N sf ss ds le) (hi : i < N) (hp : p (sf i) (ss i)) : ms_fi p N0 sf0 ss0 ds0 le0 i (N - 1) (ms_sh sf i (N - 1)) (ms_sh ss i (N - 1)) (ms_sh ds i (N - 1)) (ms_sh le i (N - 1)) := by
  obtain ⟨h1, h2, h3, h4, h5⟩ := h
  have up : ∀ j, j < N - 1 → (if j < i then j else j + 1) < N ∧ (if j < i then j else j + 1) ≠ i := by
    intro j hj
    split <;> omega
  refine ⟨by omega, ?_, ?_, ?_, ?_⟩
  · intro x y hx hy e1 e2
    rw [ms_shv hx, ms_shv hy] at e1 e2
    have := h2 _ _ (up x hx).1 (up y hy).1 e1 e2
    split at this <;> split at this <;> omega
  · intro j g1 g2
    rw [ms_shv g2, ms_shv g2, if_neg (by omega)]
    exact h3 (j + 1) (by omega) (by omega)
  · rintro a b c d ⟨j, hj, q1, q2, q3, q4⟩
    rw [ms_shv hj] at q1 q2 q3 q4
    exact h4 a b c d ⟨_, (up j hj).1, q1, q2, q3, q4⟩
  · intro a b c d hr hn
    obtain ⟨j, hj, q1, q2, q3, q4⟩ := h5 a b c d hr hn
    have hji : j ≠ i := by
      intro e
      subst e
      rw [q1, q2] at hp
      exact hn hp
    have e : (if (if j < i then j else j - 1) < i then (if j < i then j else j - 1) else (if j < i then j else j - 1) + 1) = j := by
      by_cases c : j < i
      · simp only [c, if_true]
      · have c2 : ¬ j - 1 < i := by omega
        simp only [c, c2, if_false]
        omega
    have hb : (if j < i then j else j - 1) < N - 1 := by split <;> omega
    exact ⟨_, hb, by rw [ms_shv hb, e]; exact q1, by rw [ms_shv hb, e]; exact q2, by rw [ms_shv hb, e]; exact q3, by rw [ms_shv hb, e]; exact q4⟩
/-- the acknowledged record is dropped -/
theorem ms_rc_ack {W : Nat} {es : Nat → Int32} {una high rd rl : Nat → Nat} {N0 : Nat} {sf0 ss0 ds0 le0 : Nat → Nat} (h : ms_rc W es una high rd rl N0 sf0 ss0 ds0 le0) {a0 : Nat} {N : Nat} {sf ss ds le : Nat → Nat} (hf : ms_fi (fun a b => a = a0 ∧ b < una a0 + 1) N0 sf0 ss0 ds0 le0 0 N sf ss ds le) : ms_rc W es (ms_un una a0 (una a0 + 1)) high rd rl N sf ss ds le := by
  obtain ⟨h1, _, h3, h4⟩ := h
  obtain ⟨f1, f2, f3, f4, f5⟩ := hf
  refine ⟨by omega, f2, ?_, ?_⟩
  · intro a b c d hr
    obtain ⟨w1, w2, w3, w4, w5, w6⟩ := h3 a b c d (f4 a b c d hr)
    refine ⟨w1, w2, ?_, w4, w5, w6⟩
    obtain ⟨j, hj, q1, q2, _, _⟩ := hr
    have hn := f3 j (Nat.zero_le j) hj
    rw [q1, q2] at hn
    by_cases e : a = a0
    · subst e
      rw [ms_us]
      have : ¬ b < una a + 1 := fun hb => hn ⟨rfl, hb⟩
      omega
    · rw [ms_uo e]; exact w3
  · intro a b w1 w2 w3 w4
    have hu : una a ≤ b ∧ ¬ (a = a0 ∧ b < una a0 + 1) := by
      by_cases e : a = a0
      · subst e
        rw [ms_us] at w3
        refine ⟨by omega, ?_⟩
        rintro ⟨_, q⟩
        omega
      · rw [ms_uo e] at w3
        exact ⟨w3, fun q => e q.1⟩
    obtain ⟨g1, g2⟩ := h4 a b w1 w2 hu.1 w4
    exact ⟨f5 _ _ _ _ g1 hu.2, g2⟩
/-- the records of a failed subflow are dropped -/
theorem ms_rc_fail {W : Nat} {es : Nat → Int32} {una high rd rl : Nat → Nat} {N0 : Nat} {sf0 ss0 ds0 le0 : Nat → Nat} (h : ms_rc W es una high rd rl N0 sf0 ss0 ds0 le0) {a0 : Nat} {N : Nat} {sf ss ds le : Nat → Nat} {z : Int32} (hz : z ≠ 1) (hf : ms_fi (fun a _ => a = a0) N0 sf0 ss0 ds0 le0 0 N sf ss ds le) : ms_rc W (upd es a0 z) una high rd rl N sf ss ds le := by
  obtain ⟨h1, _, h3, h4⟩ := h
  obtain ⟨f1, f2, f3, f4, f5⟩ := hf
  have same : ∀ a, a ≠ a0 → upd es a0 z a = es a := by
    intro a ha
    unfold upd
    rw [if_neg ha]
  refine ⟨by omega, f2, ?_, ?_⟩
  · intro a b c d hr
    obtain ⟨w1, w2, w3⟩ := h3 a b c d (f4 a b c d hr)
    obtain ⟨j, hj, q1, _⟩ := hr
    have hn := f3 j (Nat.zero_le j) hj
    have ha : a ≠ a0 := by rw [← q1]; exact hn
    exact ⟨w1, by rw [same a ha]; exact w2, w3⟩
  · intro a b w1 w2 w3 w4
    have ha : a ≠ a0 := by
      intro e
      subst e
      unfold upd at w2
      rw [if_pos rfl] at w2
      exact hz w2
    rw [same a ha] at w2
    obtain ⟨g1, g2⟩ := h4 a b w1 w2 w3 w4
    exact ⟨f5 _ _ _ _ g1 ha, g2⟩
