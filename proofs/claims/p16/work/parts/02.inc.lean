def ms_P (cw rt : Nat → Nat) (j : Nat) : Nat := cw j * 144 / (rt j * rt j)
def ms_Q (cw rt : Nat → Nat) (j : Nat) : Nat := cw j * 12 / rt j
def ms_M (es : Nat → Int32) (cw rt : Nat → Nat) : Nat → Nat
  | 0 => 0
  | j + 1 => if es j = 1 then (if ms_M es cw rt j < ms_P cw rt j then ms_P cw rt j else ms_M es cw rt j) else ms_M es cw rt j
def ms_S (es : Nat → Int32) (cw rt : Nat → Nat) : Nat → Nat
  | 0 => 0
  | j + 1 => if es j = 1 then ms_S es cw rt j + ms_Q cw rt j else ms_S es cw rt j
theorem ms_Pb {cw rt : Nat → Nat} (h : ms_wd cw rt) {j : Nat} (hj : j < 3) : ms_P cw rt j ≤ 589824 := by
  have := h j hj
  have h1 : cw j * 144 / (rt j * rt j) ≤ cw j * 144 := Nat.div_le_self _ _
  unfold ms_P
  omega
theorem ms_Qb {cw rt : Nat → Nat} (h : ms_wd cw rt) {j : Nat} (hj : j < 3) : 768 ≤ ms_Q cw rt j ∧ ms_Q cw rt j ≤ 49152 := by
  have := h j hj
  have h1 : cw j * 12 / rt j ≤ cw j * 12 := Nat.div_le_self _ _
  have h2 : 768 ≤ cw j * 12 / rt j := (Nat.le_div_iff_mul_le (by omega)).mpr (by omega)
  unfold ms_Q
  omega
theorem ms_Mb {es : Nat → Int32} {cw rt : Nat → Nat} (h : ms_wd cw rt) : ∀ j, j ≤ 3 → ms_M es cw rt j ≤ 589824 := by
  intro j
  induction j with
  | zero => intro _; exact Nat.zero_le _
  | succ j ih =>
    intro hj
    have h1 := ih (by omega)
    have h2 := ms_Pb h (j := j) (by omega)
    unfold ms_M
    split
    · split
      · exact h2
      · exact h1
    · exact h1
theorem ms_Sb {es : Nat → Int32} {cw rt : Nat → Nat} (h : ms_wd cw rt) : ∀ j, j ≤ 3 → ms_S es cw rt j ≤ 49152 * j := by
  intro j
  induction j with
  | zero => intro _; exact Nat.zero_le _
  | succ j ih =>
    intro hj
    have h1 := ih (by omega)
    have h2 := ms_Qb h (j := j) (by omega)
    unfold ms_S
    split
    · omega
    · omega
theorem ms_Sp {es : Nat → Int32} {cw rt : Nat → Nat} (h : ms_wd cw rt) {i : Nat} (hi : i < 3) (he : es i = 1) : ∀ j, j ≤ 3 → i < j → 768 ≤ ms_S es cw rt j := by
  intro j
  induction j with
  | zero => intro _ h0; exact absurd h0 (Nat.not_lt_zero _)
  | succ j ih =>
    intro hj hij
    have h2 := ms_Qb h (j := j) (by omega)
    unfold ms_S
    by_cases e : i = j
    · subst e
      rw [if_pos he]
      omega
    · have h1 := ih (by omega) (by omega)
      split
      · omega
      · exact h1
def ms_in (M S c : Nat) : Nat := if 65536 * M / (S * S) < 65536 / c then 65536 * M / (S * S) else 65536 / c
def ms_i1 (M S c : Nat) : Nat := if ms_in M S c < 1 then 1 else ms_in M S c
def ms_nc (M S c : Nat) : Nat := if 4096 < c + ms_i1 M S c then 4096 else c + ms_i1 M S c
theorem ms_inb {M S c : Nat} (_ : 256 ≤ c) : ms_in M S c ≤ 65536 := by
  have h2 : 65536 / c ≤ 65536 := Nat.div_le_self _ _
  unfold ms_in
  split
  · omega
  · exact h2
theorem ms_i1b {M S c : Nat} (h : 256 ≤ c) : 1 ≤ ms_i1 M S c ∧ ms_i1 M S c ≤ 65536 := by
  have := ms_inb (M := M) (S := S) h
  unfold ms_i1
  split <;> omega
theorem ms_ncb {M S c : Nat} (h : 256 ≤ c) (_ : c ≤ 4096) : 256 ≤ ms_nc M S c ∧ ms_nc M S c ≤ 4096 := by
  have := ms_i1b (M := M) (S := S) h
  unfold ms_nc
  split <;> omega
