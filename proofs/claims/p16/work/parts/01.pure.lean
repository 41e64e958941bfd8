/-- an array of naturals as the class keeps it -/
def ms_im (f : Nat → Nat) : Nat → Int32 := fun i => nI (f i)
/-- one cell of an array of naturals -/
def ms_un (f : Nat → Nat) (k v : Nat) : Nat → Nat := fun i => if i = k then v else f i
theorem ms_us {f : Nat → Nat} {k v : Nat} : ms_un f k v k = v := by simp [ms_un]
theorem ms_uo {f : Nat → Nat} {k v j : Nat} (h : j ≠ k) : ms_un f k v j = f j := by simp [ms_un, h]
theorem ms_imu (f : Nat → Nat) (k v : Nat) : upd (ms_im f) k (nI v) = ms_im (ms_un f k v) := by
  funext j
  unfold upd ms_im ms_un
  by_cases h : j = k
  · simp [h]
  · simp [h]
theorem ms_im0 : (fun _ => 0 : Nat → Int32) = ms_im (fun _ => 0) := rfl
/-- flags cleared from a up to b -/
def ms_cl (p : Nat → Int32) (a b : Nat) : Nat → Int32 := fun j => if a ≤ j ∧ j < b then 0 else p j
theorem ms_cl0 (p : Nat → Int32) (a : Nat) : ms_cl p a a = p := by
  funext j
  unfold ms_cl
  have h : ¬ (a ≤ j ∧ j < a) := by omega
  simp [h]
theorem ms_clS (p : Nat → Int32) {a b : Nat} (h : a ≤ b) : upd (ms_cl p a b) b 0 = ms_cl p a (b + 1) := by
  funext j
  unfold upd ms_cl
  by_cases e : j = b
  · have h1 : a ≤ j ∧ j < b + 1 := by omega
    simp [e, h]
  · by_cases c : a ≤ j ∧ j < b
    · have h1 : a ≤ j ∧ j < b + 1 := by omega
      simp [e, c, h1]
    · have h1 : ¬ (a ≤ j ∧ j < b + 1) := by omega
      simp only [e, c, h1, if_false]
theorem ms_cli {p : Nat → Int32} {a b j : Nat} (h : a ≤ j) (h2 : j < b) : ms_cl p a b j = 0 := by
  unfold ms_cl
  simp [h, h2]
theorem ms_clo {p : Nat → Int32} {a b j : Nat} (h : ¬ (a ≤ j ∧ j < b)) : ms_cl p a b j = p j := by
  unfold ms_cl
  simp only [h, if_false]
/-- cells a up to b moved down by one -/
def ms_sh (f : Nat → Nat) (a b : Nat) : Nat → Nat := fun j => if a ≤ j ∧ j < b then f (j + 1) else f j
theorem ms_sh0 (f : Nat → Nat) (a : Nat) : ms_sh f a a = f := by
  funext j
  unfold ms_sh
  have h : ¬ (a ≤ j ∧ j < a) := by omega
  simp only [h, if_false]
theorem ms_shi {f : Nat → Nat} {a b j : Nat} (h : a ≤ j) (h2 : j < b) : ms_sh f a b j = f (j + 1) := by
  unfold ms_sh
  simp [h, h2]
theorem ms_sho {f : Nat → Nat} {a b j : Nat} (h : ¬ (a ≤ j ∧ j < b)) : ms_sh f a b j = f j := by
  unfold ms_sh
  simp only [h, if_false]
theorem ms_shS (f : Nat → Nat) {a b : Nat} (h : a ≤ b) : ms_un (ms_sh f a b) b (ms_sh f a b (b + 1)) = ms_sh f a (b + 1) := by
  funext j
  unfold ms_un
  by_cases e : j = b
  · subst e
    rw [if_pos rfl, ms_sho (by omega), ms_shi h (by omega)]
  · rw [if_neg e]
    by_cases c : a ≤ j ∧ j < b
    · rw [ms_shi c.1 c.2, ms_shi c.1 (by omega)]
    · rw [ms_sho c, ms_sho (by omega)]
/-- an injection of N places into M places -/
theorem ms_pig : ∀ (M N : Nat) (f : Nat → Nat), (∀ j, j < N → f j < M) → (∀ i j, i < N → j < N → f i = f j → i = j) → N ≤ M := by
  intro M
  induction M with
  | zero =>
    intro N f hb _
    cases N with
    | zero => exact Nat.le_refl 0
    | succ N => exact absurd (hb 0 (by omega)) (by omega)
  | succ M ih =>
    intro N f hb hi
    by_cases h : ∃ j, j < N ∧ f j = M
    · obtain ⟨j0, hj0, e0⟩ := h
      have hN : N - 1 ≤ M := by
        refine ih (N - 1) (fun j => f (if j < j0 then j else j + 1)) ?_ ?_
        · intro j hj
          have h1 : (if j < j0 then j else j + 1) < N := by split <;> omega
          have h2 := hb _ h1
          have h3 : f (if j < j0 then j else j + 1) ≠ M := by
            intro e
            have := hi _ _ h1 hj0 (e.trans e0.symm)
            split at this <;> omega
          show f (if j < j0 then j else j + 1) < M
          omega
        · intro i j hi' hj' e
          have h1 : (if i < j0 then i else i + 1) < N := by split <;> omega
          have h2 : (if j < j0 then j else j + 1) < N := by split <;> omega
          have := hi _ _ h1 h2 e
          split at this <;> split at this <;> omega
      omega
    · have : N ≤ M := by
        refine ih N f ?_ hi
        intro j hj
        have h1 := hb j hj
        have h2 : f j ≠ M := fun e => h ⟨j, hj, e⟩
        omega
      omega
/-- two slots of the ring differ -/
theorem ms_slot {a b a0 b0 : Nat} (h : ¬ (a = a0 ∧ b % 8 = b0 % 8)) : a * 8 + b % 8 ≠ a0 * 8 + b0 % 8 := by
  intro e
  apply h
  omega
/-- channels: at most eight segments, each of a number already made, its bytes written -/
def ms_ch (W : Nat) (high cn cs cd cl : Nat → Nat) : Prop := ∀ i, i < 3 → cn i ≤ 8 ∧ ∀ j, j < cn i → cs (i * 8 + j) < high i ∧ cd (i * 8 + j) + cl (i * 8 + j) ≤ W
/-- counters -/
def ms_ct (h : Nat) (es : Nat → Int32) (una nxt high : Nat → Nat) (rn : Nat → Int32) : Prop := ∀ i, i < 3 → una i ≤ nxt i ∧ nxt i ≤ high i ∧ high i ≤ una i + 8 ∧ high i ≤ h ∧ (es i = 1 → rn i = nI (una i))
/-- windows and round-trip times -/
def ms_wd (cw rt : Nat → Nat) : Prop := ∀ i, i < 3 → 256 ≤ cw i ∧ cw i ≤ 4096 ∧ 1 ≤ rt i ∧ rt i ≤ 4
/-- flags -/
def ms_fg (R W : Nat) (pe he : Nat → Int32) : Prop := R ≤ W ∧ W ≤ 256 ∧ (∀ d, ¬ pe d = 0 → R ≤ d ∧ d < W) ∧ (∀ d, ¬ he d = 0 → d < W)
theorem ms_chW {W W' : Nat} {high high' cn cs cd cl : Nat → Nat} (hW : W ≤ W') (hh : ∀ i, i < 3 → high i ≤ high' i) (h : ms_ch W high cn cs cd cl) : ms_ch W' high' cn cs cd cl := by
  intro i hi
  obtain ⟨h1, h2⟩ := h i hi
  refine ⟨h1, fun j hj => ?_⟩
  obtain ⟨g1, g2⟩ := h2 j hj
  exact ⟨Nat.lt_of_lt_of_le g1 (hh i hi), Nat.le_trans g2 hW⟩
theorem ms_ch_push {W : Nat} {high cn cs cd cl : Nat → Nat} (h : ms_ch W high cn cs cd cl) {a s d l : Nat} (ha : a < 3) (hr : cn a < 8) (hs : s < high a) (hd : d + l ≤ W) : ms_ch W high (ms_un cn a (cn a + 1)) (ms_un cs (a * 8 + cn a) s) (ms_un cd (a * 8 + cn a) d) (ms_un cl (a * 8 + cn a) l) := by
  intro i hi
  obtain ⟨h1, h2⟩ := h i hi
  by_cases e : i = a
  · subst e
    rw [ms_us]
    refine ⟨by omega, fun j hj => ?_⟩
    by_cases ej : j = cn i
    · subst ej
      rw [ms_us, ms_us, ms_us]
      exact ⟨hs, hd⟩
    · have n1 : i * 8 + j ≠ i * 8 + cn i := by omega
      rw [ms_uo n1, ms_uo n1, ms_uo n1]
      exact h2 j (by omega)
  · rw [ms_uo e]
    refine ⟨h1, fun j hj => ?_⟩
    have n1 : i * 8 + j ≠ a * 8 + cn a := by omega
    rw [ms_uo n1, ms_uo n1, ms_uo n1]
    exact h2 j hj
theorem ms_ch_pop {W : Nat} {high cn cs cd cl : Nat → Nat} (h : ms_ch W high cn cs cd cl) {a : Nat} (ha : a < 3) (h0 : 0 < cn a) : ms_ch W high (ms_un cn a (cn a - 1)) (ms_sh cs (a * 8) (a * 8 + (cn a - 1))) (ms_sh cd (a * 8) (a * 8 + (cn a - 1))) (ms_sh cl (a * 8) (a * 8 + (cn a - 1))) := by
  intro i hi
  obtain ⟨h1, h2⟩ := h i hi
  have h8 := (h a ha).1
  by_cases e : i = a
  · subst e
    rw [ms_us]
    refine ⟨by omega, fun j hj => ?_⟩
    rw [ms_shi (by omega) (by omega), ms_shi (by omega) (by omega), ms_shi (by omega) (by omega)]
    exact h2 (j + 1) (by omega)
  · rw [ms_uo e]
    refine ⟨h1, fun j hj => ?_⟩
    rw [ms_sho (by omega), ms_sho (by omega), ms_sho (by omega)]
    exact h2 j hj
theorem ms_ctH {h h' : Nat} {es : Nat → Int32} {una nxt high : Nat → Nat} {rn : Nat → Int32} (hh : h ≤ h') (H : ms_ct h es una nxt high rn) : ms_ct h' es una nxt high rn := by
  intro i hi
  obtain ⟨h1, h2, h3, h4, h5⟩ := H i hi
  exact ⟨h1, h2, h3, Nat.le_trans h4 hh, h5⟩
