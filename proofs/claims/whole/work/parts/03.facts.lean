/-- channels: at most eight segments, each of a number already made, its bytes written -/
def ms_ch (W : Nat) (high cn cs cd cl : Nat → Nat) : Prop := ∀ i, i < 3 → cn i ≤ 8 ∧ ∀ j, j < cn i → cs (i * 8 + j) < high i ∧ cd (i * 8 + j) + cl (i * 8 + j) ≤ W
/-- counters -/
def ms_ct (h : Nat) (es : Nat → Int32) (una nxt high : Nat → Nat) (rn : Nat → Int32) : Prop := ∀ i, i < 3 → una i ≤ nxt i ∧ nxt i ≤ high i ∧ high i ≤ una i + 8 ∧ high i ≤ h ∧ (es i = 1 → rn i = nI (una i))
/-- windows and round-trip times -/
def ms_wd (cw rt : Nat → Nat) : Prop := ∀ i, i < 3 → 256 ≤ cw i ∧ cw i ≤ 4096 ∧ 1 ≤ rt i ∧ rt i ≤ 4
/-- flags -/
def ms_fg (R W : Nat) (pe he : Nat → Int32) : Prop := R ≤ W ∧ W ≤ 256 ∧ (∀ d, ¬ pe d = 0 → R ≤ d ∧ d < W) ∧ (∀ d, ¬ he d = 0 → d < W)
theorem ms_chW {W W' : Nat} {high high' cn cs cd cl : Nat → Nat} (hW : W ≤ W') (hh : ∀ i, i < 3 → high i ≤ high' i) (h : ms_ch W high cn cs cd cl) : ms_ch W' high' cn cs cd cl := by
  intro i hi
  obtain ⟨h1, h2⟩ := h i hi
  refine ⟨h1, fun j hj => ?_⟩
  obtain ⟨g1, g2⟩ := h2 j hj
  exact ⟨Nat.lt_of_lt_of_le g1 (hh i hi), Nat.le_trans g2 hW⟩
theorem ms_ch_push {W : Nat} {high cn cs cd cl : Nat → Nat} (h : ms_ch W high cn cs cd cl) {a s d l : Nat} (ha : a < 3) (hr : cn a < 8) (hs : s < high a) (hd : d + l ≤ W) : ms_ch W high (ms_un cn a (cn a + 1)) (ms_un cs (a * 8 + cn a) s) (ms_un cd (a * 8 + cn a) d) (ms_un cl (a * 8 + cn a) l) := by
  intro i hi
  obtain ⟨h1, h2⟩ := h i hi
  by_cases e : i = a
  · subst e
    rw [ms_us]
    refine ⟨by omega, fun j hj => ?_⟩
    by_cases ej : j = cn i
    · subst ej
      rw [ms_us, ms_us, ms_us]
      exact ⟨hs, hd⟩
    · have n1 : i * 8 + j ≠ i * 8 + cn i := by omega
      rw [ms_uo n1, ms_uo n1, ms_uo n1]
      exact h2 j (by omega)
  · rw [ms_uo e]
    refine ⟨h1, fun j hj => ?_⟩
    have n1 : i * 8 + j ≠ a * 8 + cn a := by omega
    rw [ms_uo n1, ms_uo n1, ms_uo n1]
    exact h2 j hj
theorem ms_ch_pop {W : Nat} {high cn cs cd cl : Nat → Nat} (h : ms_ch W high cn cs cd cl) {a : Nat} (ha : a < 3) (h0 : 0 < cn a) : ms_ch W high (ms_un cn a (cn a - 1)) (ms_sh cs (a * 8) (a * 8 + (cn a - 1))) (ms_sh cd (a * 8) (a * 8 + (cn a - 1))) (ms_sh cl (a * 8) (a * 8 + (cn a - 1))) := by
  intro i hi
  obtain ⟨h1, h2⟩ := h i hi
  have h8 := (h a ha).1
  by_cases e : i = a
  · subst e
    rw [ms_us]
    refine ⟨by omega, fun j hj => ?_⟩
    rw [ms_shi (by omega) (by omega), ms_shi (by omega) (by omega), ms_shi (by omega) (by omega)]
    exact h2 (j + 1) (by omega)
  · rw [ms_uo e]
    refine ⟨h1, fun j hj => ?_⟩
    rw [ms_sho (by omega), ms_sho (by omega), ms_sho (by omega)]
    exact h2 j hj
theorem ms_ctH {h h' : Nat} {es : Nat → Int32} {una nxt high : Nat → Nat} {rn : Nat → Int32} (hh : h ≤ h') (H : ms_ct h es una nxt high rn) : ms_ct h' es una nxt high rn := by
  intro i hi
  obtain ⟨h1, h2, h3, h4, h5⟩ := H i hi
  exact ⟨h1, h2, h3, Nat.le_trans h4 hh, h5⟩
