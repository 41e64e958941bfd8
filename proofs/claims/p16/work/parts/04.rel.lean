abbrev ms_X (B : Int32) (W R : Nat) (sent disc : Int32) (st pe he es : Nat → Int32) (cw rt una nxt high : Nat → Nat) (rn : Nat → Int32) (cn cs cd cl rd rl : Nat → Nat) : St2 :=
  (B, nI W, nI R, sent, disc, st, pe, he, es, ms_im cw, ms_im rt, ms_im una, ms_im nxt, ms_im high, rn, ms_im cn, ms_im cs, ms_im cd, ms_im cl, ms_im rd, ms_im rl)
theorem ms_at {f : Nat → Nat} {k : Nat} (h : k < 2 ^ 31) : ms_im f (nI k).toNatClampNeg = nI (f k) := by
  rw [nI_clamp h]
  rfl
theorem ms_up {f : Nat → Nat} {k v : Nat} (h : k < 2 ^ 31) : upd (ms_im f) (nI k).toNatClampNeg (nI v) = ms_im (ms_un f k v) := by
  rw [nI_clamp h]
  exact ms_imu f k v
theorem ms_cu {p : Nat → Int32} {k : Nat} {x : Int32} (h : k < 2 ^ 31) : upd p (nI k).toNatClampNeg x = upd p k x := by rw [nI_clamp h]
theorem ms_m8 (a : Nat) : nI a * 8 = nI (a * 8) := pk_mul a 8
theorem ms_sl (a b : Nat) : nI a * 8 + nI b = nI (a * 8 + b) := by rw [ms_m8, nI_add]
theorem ms_rs (a : Nat) {b : Nat} (hb : b < 2 ^ 31) : nI a * 8 + (nI b - nI b / 8 * 8) = nI (a * 8 + b % 8) := by
  have h : nI b - nI b / 8 * 8 = nI (b % 8) := pk_rem (a := b) (d := 8) hb (by decide) (by decide)
  rw [h, ms_sl]
theorem ms_bd (x : Int32) : (x < 0 ∨ (3 : Int32) ≤ x) ∨ ∃ j : Nat, j < 3 ∧ x = nI j := by
  rcases pk_ix x (n := 3) (by decide) with h | h | h
  · exact Or.inl (Or.inl h)
  · exact Or.inl (Or.inr h)
  · exact Or.inr h
theorem ms_nm1 {b : Nat} (h : b < 2 ^ 31) : ¬ nI b = -1 := fun e => nI_pos h (by rw [e]; decide)
theorem ms_lle {x y : Int64} {A B : Prop} (a b : Nat) (f : a ≤ b → A) (g : b < a → B) (hx : x = lN a) (hy : y = lN b) (ha : a < 2 ^ 63) (hb : b < 2 ^ 63) : (x ≤ y → A) ∧ (¬ x ≤ y → B) := by
  subst hx hy
  rw [pk_lLE ha hb]
  exact ⟨f, fun z => g (by omega)⟩
theorem ms_llt {x y : Int64} {A B : Prop} (a b : Nat) (f : a < b → A) (g : b ≤ a → B) (hx : x = lN a) (hy : y = lN b) (ha : a < 2 ^ 63) (hb : b < 2 ^ 63) : (x < y → A) ∧ (¬ x < y → B) := by
  subst hx hy
  rw [pk_lLT ha hb]
  exact ⟨f, fun z => g (by omega)⟩
theorem ms_lne {b : Nat} (h0 : 0 < b) (hb : b < 2 ^ 63) : ¬ lN b = 0 := fun e => by
  have := (pk_lEQ hb (show 0 < 2 ^ 63 by decide)).mp e
  omega
/-- between two bounds -/
def ms_cp (x lo hi : Int32) : Int32 := if x < lo then lo else if hi < x then hi else x
theorem ms_cpr (x : Int32) : ∃ r : Nat, 1 ≤ r ∧ r ≤ 4 ∧ ms_cp x 1 4 = nI r := by
  unfold ms_cp
  by_cases h : x < 1
  · exact ⟨1, by omega, by omega, by rw [if_pos h]; rfl⟩
  · rw [if_neg h]
    by_cases h2 : (4 : Int32) < x
    · exact ⟨4, by omega, by omega, by rw [if_pos h2]; rfl⟩
    · rw [if_neg h2]
      have h0 : ¬ x < 0 := fun z => h (Int32.lt_trans z (by decide))
      obtain ⟨j, hj, rfl⟩ := nI_of h0
      have g1 : ¬ j < 1 := fun z => h (nI_lt (b := 1) z (by decide))
      have g2 : ¬ 4 < j := fun z => h2 (nI_lt (a := 4) z hj)
      exact ⟨j, by omega, by omega, rfl⟩
theorem ms_ic {f : Nat → Nat} {k : Nat} (h : k < 2 ^ 31) : upd (ms_im f) (nI k).toNatClampNeg (ms_im f (nI k).toNatClampNeg + 1) = ms_im (ms_un f k (f k + 1)) := by rw [ms_at h, nI_1, ms_up h]
theorem ms_ic2 {f : Nat → Nat} {k : Nat} (h : k < 2 ^ 31) : upd (ms_im f) (nI k).toNatClampNeg (nI (f k) + 1) = ms_im (ms_un f k (f k + 1)) := by rw [nI_1, ms_up h]
theorem ms_ic0 {f : Nat → Nat} {k : Nat} : upd (ms_im f) k (ms_im f k + 1) = ms_im (ms_un f k (f k + 1)) := by
  show upd (ms_im f) k (nI (f k) + 1) = _
  rw [nI_1]
  exact ms_imu f k (f k + 1)
