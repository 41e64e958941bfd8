section
/-- an array of naturals as the class keeps it -/
def ms_im (f : Nat → Nat) : Nat → Int32 := fun i => nI (f i)
/-- one cell of an array of naturals -/
def ms_un (f : Nat → Nat) (k v : Nat) : Nat → Nat := fun i => if i = k then v else f i
theorem ms_us {f : Nat → Nat} {k v : Nat} : ms_un f k v k = v := by simp [ms_un]
theorem ms_uo {f : Nat → Nat} {k v j : Nat} (h : j ≠ k) : ms_un f k v j = f j := by simp [ms_un, h]
theorem ms_imu (f : Nat → Nat) (k v : Nat) : upd (ms_im f) k (nI v) = ms_im (ms_un f k v) := by
  funext j
  unfold upd ms_im ms_un
  by_cases h : j = k
  · simp [h]
  · simp [h]
theorem ms_im0 : (fun _ => 0 : Nat → Int32) = ms_im (fun _ => 0) := rfl
/-- flags cleared from a up to b -/
def ms_cl (p : Nat → Int32) (a b : Nat) : Nat → Int32 := fun j => if a ≤ j ∧ j < b then 0 else p j
theorem ms_cl0 (p : Nat → Int32) (a : Nat) : ms_cl p a a = p := by
  funext j
  unfold ms_cl
  have h : ¬ (a ≤ j ∧ j < a) := by omega
  simp [h]
theorem ms_clS (p : Nat → Int32) {a b : Nat} (h : a ≤ b) : upd (ms_cl p a b) b 0 = ms_cl p a (b + 1) := by
  funext j
  unfold upd ms_cl
  by_cases e : j = b
  · have h1 : a ≤ j ∧ j < b + 1 := by omega
    simp [e, h]
  · by_cases c : a ≤ j ∧ j < b
    · have h1 : a ≤ j ∧ j < b + 1 := by omega
      simp [e, c, h1]
    · have h1 : ¬ (a ≤ j ∧ j < b + 1) := by omega
      simp only [e, c, h1, if_false]
theorem ms_cli {p : Nat → Int32} {a b j : Nat} (h : a ≤ j) (h2 : j < b) : ms_cl p a b j = 0 := by
  unfold ms_cl
  simp [h, h2]
theorem ms_clo {p : Nat → Int32} {a b j : Nat} (h : ¬ (a ≤ j ∧ j < b)) : ms_cl p a b j = p j := by
  unfold ms_cl
  simp only [h, if_false]
/-- cells a up to b moved down by one -/
def ms_sh (f : Nat → Nat) (a b : Nat) : Nat → Nat := fun j => if a ≤ j ∧ j < b then f (j + 1) else f j
theorem ms_sh0 (f : Nat → Nat) (a : Nat) : ms_sh f a a = f := by
  funext j
  unfold ms_sh
  have h : ¬ (a ≤ j ∧ j < a) := by omega
  simp only [h, if_false]
theorem ms_shi {f : Nat → Nat} {a b j : Nat} (h : a ≤ j) (h2 : j < b) : ms_sh f a b j = f (j + 1) := by
  unfold ms_sh
  simp [h, h2]
theorem ms_sho {f : Nat → Nat} {a b j : Nat} (h : ¬ (a ≤ j ∧ j < b)) : ms_sh f a b j = f j := by
  unfold ms_sh
  simp only [h, if_false]
theorem ms_shS (f : Nat → Nat) {a b : Nat} (h : a ≤ b) : ms_un (ms_sh f a b) b (ms_sh f a b (b + 1)) = ms_sh f a (b + 1) := by
  funext j
  unfold ms_un
  by_cases e : j = b
  · subst e
    rw [if_pos rfl, ms_sho (by omega), ms_shi h (by omega)]
  · rw [if_neg e]
    by_cases c : a ≤ j ∧ j < b
    · rw [ms_shi c.1 c.2, ms_shi c.1 (by omega)]
    · rw [ms_sho c, ms_sho (by omega)]
/-- an injection of N places into M places -/
theorem ms_pig : ∀ (M N : Nat) (f : Nat → Nat), (∀ j, j < N → f j < M) → (∀ i j, i < N → j < N → f i = f j → i = j) → N ≤ M := by
  intro M
  induction M with
  | zero =>
    intro N f hb _
    cases N with
    | zero => exact Nat.le_refl 0
    | succ N => exact absurd (hb 0 (by omega)) (by omega)
  | succ M ih =>
    intro N f hb hi
    by_cases h : ∃ j, j < N ∧ f j = M
    · obtain ⟨j0, hj0, e0⟩ := h
      have hN : N - 1 ≤ M := by
        refine ih (N - 1) (fun j => f (if j < j0 then j else j + 1)) ?_ ?_
        · intro j hj
          have h1 : (if j < j0 then j else j + 1) < N := by split <;> omega
          have h2 := hb _ h1
          have h3 : f (if j < j0 then j else j + 1) ≠ M := by
            intro e
            have := hi _ _ h1 hj0 (e.trans e0.symm)
            split at this <;> omega
          show f (if j < j0 then j else j + 1) < M
          omega
        · intro i j hi' hj' e
          have h1 : (if i < j0 then i else i + 1) < N := by split <;> omega
          have h2 : (if j < j0 then j else j + 1) < N := by split <;> omega
          have := hi _ _ h1 h2 e
          split at this <;> split at this <;> omega
      omega
    · have : N ≤ M := by
        refine ih N f ?_ hi
        intro j hj
        have h1 := hb j hj
        have h2 : f j ≠ M := fun e => h ⟨j, hj, e⟩
        omega
      omega
/-- two slots of the ring differ -/
theorem ms_slot {a b a0 b0 : Nat} (h : ¬ (a = a0 ∧ b % 8 = b0 % 8)) : a * 8 + b % 8 ≠ a0 * 8 + b0 % 8 := by
  intro e
  apply h
  omega
/-- channels: at most eight segments, each of a number already made, its bytes written -/
def ms_ch (W : Nat) (high cn cs cd cl : Nat → Nat) : Prop := ∀ i, i < 3 → cn i ≤ 8 ∧ ∀ j, j < cn i → cs (i * 8 + j) < high i ∧ cd (i * 8 + j) + cl (i * 8 + j) ≤ W
/-- counters -/
def ms_ct (h : Nat) (es : Nat → Int32) (una nxt high : Nat → Nat) (rn : Nat → Int32) : Prop := ∀ i, i < 3 → una i ≤ nxt i ∧ nxt i ≤ high i ∧ high i ≤ una i + 8 ∧ high i ≤ h ∧ (es i = 1 → rn i = nI (una i))
/-- windows and round-trip times -/
def ms_wd (cw rt : Nat → Nat) : Prop := ∀ i, i < 3 → 256 ≤ cw i ∧ cw i ≤ 4096 ∧ 1 ≤ rt i ∧ rt i ≤ 4
/-- flags -/
def ms_fg (R W : Nat) (pe he : Nat → Int32) : Prop := R ≤ W ∧ W ≤ 256 ∧ (∀ d, ¬ pe d = 0 → R ≤ d ∧ d < W) ∧ (∀ d, ¬ he d = 0 → d < W)
theorem ms_chW {W W' : Nat} {high high' cn cs cd cl : Nat → Nat} (hW : W ≤ W') (hh : ∀ i, i < 3 → high i ≤ high' i) (h : ms_ch W high cn cs cd cl) : ms_ch W' high' cn cs cd cl := by
  intro i hi
  obtain ⟨h1, h2⟩ := h i hi
  refine ⟨h1, fun j hj => ?_⟩
  obtain ⟨g1, g2⟩ := h2 j hj
  exact ⟨Nat.lt_of_lt_of_le g1 (hh i hi), Nat.le_trans g2 hW⟩
theorem ms_ch_push {W : Nat} {high cn cs cd cl : Nat → Nat} (h : ms_ch W high cn cs cd cl) {a s d l : Nat} (ha : a < 3) (hr : cn a < 8) (hs : s < high a) (hd : d + l ≤ W) : ms_ch W high (ms_un cn a (cn a + 1)) (ms_un cs (a * 8 + cn a) s) (ms_un cd (a * 8 + cn a) d) (ms_un cl (a * 8 + cn a) l) := by
  intro i hi
  obtain ⟨h1, h2⟩ := h i hi
  by_cases e : i = a
  · subst e
    rw [ms_us]
    refine ⟨by omega, fun j hj => ?_⟩
    by_cases ej : j = cn i
    · subst ej
      rw [ms_us, ms_us, ms_us]
      exact ⟨hs, hd⟩
    · have n1 : i * 8 + j ≠ i * 8 + cn i := by omega
      rw [ms_uo n1, ms_uo n1, ms_uo n1]
      exact h2 j (by omega)
  · rw [ms_uo e]
    refine ⟨h1, fun j hj => ?_⟩
    have n1 : i * 8 + j ≠ a * 8 + cn a := by omega
    rw [ms_uo n1, ms_uo n1, ms_uo n1]
    exact h2 j hj
theorem ms_ch_pop {W : Nat} {high cn cs cd cl : Nat → Nat} (h : ms_ch W high cn cs cd cl) {a : Nat} (ha : a < 3) (h0 : 0 < cn a) : ms_ch W high (ms_un cn a (cn a - 1)) (ms_sh cs (a * 8) (a * 8 + (cn a - 1))) (ms_sh cd (a * 8) (a * 8 + (cn a - 1))) (ms_sh cl (a * 8) (a * 8 + (cn a - 1))) := by
  intro i hi
  obtain ⟨h1, h2⟩ := h i hi
  have h8 := (h a ha).1
  by_cases e : i = a
  · subst e
    rw [ms_us]
    refine ⟨by omega, fun j hj => ?_⟩
    rw [ms_shi (by omega) (by omega), ms_shi (by omega) (by omega), ms_shi (by omega) (by omega)]
    exact h2 (j + 1) (by omega)
  · rw [ms_uo e]
    refine ⟨h1, fun j hj => ?_⟩
    rw [ms_sho (by omega), ms_sho (by omega), ms_sho (by omega)]
    exact h2 j hj
theorem ms_ctH {h h' : Nat} {es : Nat → Int32} {una nxt high : Nat → Nat} {rn : Nat → Int32} (hh : h ≤ h') (H : ms_ct h es una nxt high rn) : ms_ct h' es una nxt high rn := by
  intro i hi
  obtain ⟨h1, h2, h3, h4, h5⟩ := H i hi
  exact ⟨h1, h2, h3, Nat.le_trans h4 hh, h5⟩
end
section
def ms_P (cw rt : Nat → Nat) (j : Nat) : Nat := cw j * 144 / (rt j * rt j)
def ms_Q (cw rt : Nat → Nat) (j : Nat) : Nat := cw j * 12 / rt j
def ms_M (es : Nat → Int32) (cw rt : Nat → Nat) : Nat → Nat
  | 0 => 0
  | j + 1 => if es j = 1 then (if ms_M es cw rt j < ms_P cw rt j then ms_P cw rt j else ms_M es cw rt j) else ms_M es cw rt j
def ms_S (es : Nat → Int32) (cw rt : Nat → Nat) : Nat → Nat
  | 0 => 0
  | j + 1 => if es j = 1 then ms_S es cw rt j + ms_Q cw rt j else ms_S es cw rt j
theorem ms_Pb {cw rt : Nat → Nat} (h : ms_wd cw rt) {j : Nat} (hj : j < 3) : ms_P cw rt j ≤ 589824 := by
  have := h j hj
  have h1 : cw j * 144 / (rt j * rt j) ≤ cw j * 144 := Nat.div_le_self _ _
  unfold ms_P
  omega
theorem ms_Qb {cw rt : Nat → Nat} (h : ms_wd cw rt) {j : Nat} (hj : j < 3) : 768 ≤ ms_Q cw rt j ∧ ms_Q cw rt j ≤ 49152 := by
  have := h j hj
  have h1 : cw j * 12 / rt j ≤ cw j * 12 := Nat.div_le_self _ _
  have h2 : 768 ≤ cw j * 12 / rt j := (Nat.le_div_iff_mul_le (by omega)).mpr (by omega)
  unfold ms_Q
  omega
theorem ms_Mb {es : Nat → Int32} {cw rt : Nat → Nat} (h : ms_wd cw rt) : ∀ j, j ≤ 3 → ms_M es cw rt j ≤ 589824 := by
  intro j
  induction j with
  | zero => intro _; exact Nat.zero_le _
  | succ j ih =>
    intro hj
    have h1 := ih (by omega)
    have h2 := ms_Pb h (j := j) (by omega)
    unfold ms_M
    split
    · split
      · exact h2
      · exact h1
    · exact h1
theorem ms_Sb {es : Nat → Int32} {cw rt : Nat → Nat} (h : ms_wd cw rt) : ∀ j, j ≤ 3 → ms_S es cw rt j ≤ 49152 * j := by
  intro j
  induction j with
  | zero => intro _; exact Nat.zero_le _
  | succ j ih =>
    intro hj
    have h1 := ih (by omega)
    have h2 := ms_Qb h (j := j) (by omega)
    unfold ms_S
    split
    · omega
    · omega
theorem ms_Sp {es : Nat → Int32} {cw rt : Nat → Nat} (h : ms_wd cw rt) {i : Nat} (hi : i < 3) (he : es i = 1) : ∀ j, j ≤ 3 → i < j → 768 ≤ ms_S es cw rt j := by
  intro j
  induction j with
  | zero => intro _ h0; exact absurd h0 (Nat.not_lt_zero _)
  | succ j ih =>
    intro hj hij
    have h2 := ms_Qb h (j := j) (by omega)
    unfold ms_S
    by_cases e : i = j
    · subst e
      rw [if_pos he]
      omega
    · have h1 := ih (by omega) (by omega)
      split
      · omega
      · exact h1
def ms_in (M S c : Nat) : Nat := if 65536 * M / (S * S) < 65536 / c then 65536 * M / (S * S) else 65536 / c
def ms_i1 (M S c : Nat) : Nat := if ms_in M S c < 1 then 1 else ms_in M S c
def ms_nc (M S c : Nat) : Nat := if 4096 < c + ms_i1 M S c then 4096 else c + ms_i1 M S c
theorem ms_inb {M S c : Nat} (_ : 256 ≤ c) : ms_in M S c ≤ 65536 := by
  have h2 : 65536 / c ≤ 65536 := Nat.div_le_self _ _
  unfold ms_in
  split
  · omega
  · exact h2
theorem ms_i1b {M S c : Nat} (h : 256 ≤ c) : 1 ≤ ms_i1 M S c ∧ ms_i1 M S c ≤ 65536 := by
  have := ms_inb (M := M) (S := S) h
  unfold ms_i1
  split <;> omega
theorem ms_ncb {M S c : Nat} (h : 256 ≤ c) (_ : c ≤ 4096) : 256 ≤ ms_nc M S c ∧ ms_nc M S c ≤ 4096 := by
  have := ms_i1b (M := M) (S := S) h
  unfold ms_nc
  split <;> omega
end
section
/-- how far flags stand from d on, at most m -/
theorem ms_run (p : Nat → Int32) (d : Nat) : ∀ m, ∃ l, l ≤ m ∧ (∀ j, j < l → ¬ p (d + j) = 0) ∧ (l = m ∨ p (d + l) = 0) := by
  intro m
  induction m with
  | zero => exact ⟨0, Nat.le_refl 0, fun j hj => absurd hj (Nat.not_lt_zero j), Or.inl rfl⟩
  | succ m ih =>
    obtain ⟨l, h1, h2, h3⟩ := ih
    rcases h3 with h3 | h3
    · subst h3
      by_cases c : p (d + l) = 0
      · exact ⟨l, by omega, h2, Or.inr c⟩
      · refine ⟨l + 1, by omega, fun j hj => ?_, Or.inl rfl⟩
        by_cases e : j = l
        · subst e; exact c
        · exact h2 j (by omega)
    · exact ⟨l, by omega, h2, Or.inr h3⟩
/-- the least flag from R on, or R + m -/
theorem ms_lst (p : Nat → Int32) (R : Nat) : ∀ m, ∃ e, R ≤ e ∧ e ≤ R + m ∧ (∀ j, R ≤ j → j < e → p j = 0) ∧ (e < R + m → ¬ p e = 0) := by
  intro m
  induction m with
  | zero => exact ⟨R, Nat.le_refl R, Nat.le_refl _, fun j h1 h2 => absurd h2 (by omega), fun h => absurd h (by omega)⟩
  | succ m ih =>
    obtain ⟨e, h1, h2, h3, h4⟩ := ih
    by_cases c : e < R + m
    · exact ⟨e, h1, by omega, h3, fun _ => h4 c⟩
    · have ee : e = R + m := by omega
      subst ee
      by_cases z : p (R + m) = 0
      · refine ⟨R + (m + 1), by omega, Nat.le_refl _, fun j g1 g2 => ?_, fun h => absurd h (by omega)⟩
        by_cases ej : j = R + m
        · subst ej; exact z
        · exact h3 j g1 (by omega)
      · exact ⟨R + m, h1, by omega, h3, fun _ => z⟩
/-- e is the least pending offset, or W -/
def ms_lp (p : Nat → Int32) (R W e : Nat) : Prop := R ≤ e ∧ e ≤ W ∧ (∀ j, R ≤ j → j < e → p j = 0) ∧ (e < W → ¬ p e = 0)
theorem ms_lpE (p : Nat → Int32) {R W : Nat} (h : R ≤ W) : ∃ e, ms_lp p R W e := by
  obtain ⟨e, h1, h2, h3, h4⟩ := ms_lst p R (W - R)
  have hh : R + (W - R) = W := by omega
  rw [hh] at h2 h4
  exact ⟨e, h1, h2, h3, h4⟩
theorem ms_lpU {p : Nat → Int32} {R W e f : Nat} (h : ms_lp p R W e) (g : ms_lp p R W f) : e = f := by
  obtain ⟨h1, h2, h3, h4⟩ := h
  obtain ⟨g1, g2, g3, g4⟩ := g
  by_cases c : e < f
  · exact absurd (g3 e h1 c) (h4 (by omega))
  · by_cases c2 : f < e
    · exact absurd (h3 f g1 c2) (g4 (by omega))
    · omega
/-- l is the length of the run of flags at d, at most four, below W -/
def ms_ln (p : Nat → Int32) (W d l : Nat) : Prop := l ≤ 4 ∧ d + l ≤ W ∧ (∀ j, j < l → ¬ p (d + j) = 0) ∧ (l = 4 ∨ d + l = W ∨ p (d + l) = 0)
theorem ms_lnE (p : Nat → Int32) {W d : Nat} (h : d ≤ W) : ∃ l, ms_ln p W d l := by
  obtain ⟨l, h1, h2, h3⟩ := ms_run p d (min 4 (W - d))
  refine ⟨l, by omega, by omega, h2, ?_⟩
  rcases h3 with h3 | h3
  · by_cases c : 4 ≤ W - d
    · left; omega
    · right; left; omega
  · exact Or.inr (Or.inr h3)
theorem ms_ln1 {p : Nat → Int32} {W d l : Nat} (h : ms_ln p W d l) (hd : d < W) (hp : ¬ p d = 0) : 1 ≤ l := by
  obtain ⟨h1, h2, h3, h4⟩ := h
  by_cases c : l = 0
  · subst c
    rcases h4 with h4 | h4 | h4
    · omega
    · omega
    · exact absurd h4 hp
  · omega
/-- m offsets come next -/
def ms_px (p : Nat → Int32) (R m : Nat) : Prop := R + m ≤ 256 ∧ (∀ j, j < m → ¬ p (R + j) = 0) ∧ (R + m = 256 ∨ p (R + m) = 0)
theorem ms_pxE (p : Nat → Int32) {R : Nat} (h : R ≤ 256) : ∃ m, ms_px p R m := by
  obtain ⟨l, h1, h2, h3⟩ := ms_run p R (256 - R)
  refine ⟨l, by omega, h2, ?_⟩
  rcases h3 with h3 | h3
  · left; omega
  · exact Or.inr h3
theorem ms_pxW {p : Nat → Int32} {R W m : Nat} (h : ms_px p R m) (hW : ∀ d, ¬ p d = 0 → d < W) (hR : R ≤ W) : R + m ≤ W := by
  obtain ⟨_, h2, _⟩ := h
  by_cases c : m = 0
  · omega
  · have := hW _ (h2 (m - 1) (by omega))
    omega
/-- what hold does with j offsets from d on -/
def ms_hd (R : Nat) (B : Int32) (d : Nat) (q : Int32) (p : Nat → Int32) : Nat → Int32 × (Nat → Int32)
  | 0 => (q, p)
  | j + 1 => if nI (d + j) < nI R ∨ nI R + B ≤ nI (d + j) ∨ ¬ (ms_hd R B d q p j).2 (d + j) = 0 then ((ms_hd R B d q p j).1 + 1, (ms_hd R B d q p j).2) else ((ms_hd R B d q p j).1, upd (ms_hd R B d q p j).2 (d + j) 1)
theorem ms_hd1 {R : Nat} {B : Int32} {d : Nat} {q : Int32} {p : Nat → Int32} {j : Nat} (h : nI (d + j) < nI R ∨ nI R + B ≤ nI (d + j) ∨ ¬ (ms_hd R B d q p j).2 (d + j) = 0) : ms_hd R B d q p (j + 1) = ((ms_hd R B d q p j).1 + 1, (ms_hd R B d q p j).2) := if_pos h
theorem ms_hd2 {R : Nat} {B : Int32} {d : Nat} {q : Int32} {p : Nat → Int32} {j : Nat} (h : ¬ (nI (d + j) < nI R ∨ nI R + B ≤ nI (d + j) ∨ ¬ (ms_hd R B d q p j).2 (d + j) = 0)) : ms_hd R B d q p (j + 1) = ((ms_hd R B d q p j).1, upd (ms_hd R B d q p j).2 (d + j) 1) := if_neg h
theorem ms_hdW {R : Nat} {B : Int32} {d : Nat} {q : Int32} {p : Nat → Int32} {W : Nat} (hp : ∀ i, ¬ p i = 0 → i < W) : ∀ j, d + j ≤ W → ∀ i, ¬ (ms_hd R B d q p j).2 i = 0 → i < W := by
  intro j
  induction j with
  | zero => intro _; exact hp
  | succ j ih =>
    intro hj i
    have h := ih (by omega) i
    by_cases c : nI (d + j) < nI R ∨ nI R + B ≤ nI (d + j) ∨ ¬ (ms_hd R B d q p j).2 (d + j) = 0
    · rw [ms_hd1 c]
      exact h
    · rw [ms_hd2 c]
      by_cases e : i = d + j
      · intro _; omega
      · show ¬ upd (ms_hd R B d q p j).2 (d + j) 1 i = 0 → i < W
        rw [pk_un e]
        exact h
/-- what reinjection does with a record's offsets -/
def ms_ri (p : Nat → Int32) (R d l : Nat) : Nat → Int32 := fun j => if R ≤ j ∧ d ≤ j ∧ j < d + l then 1 else p j
theorem ms_ri0 (p : Nat → Int32) (R d : Nat) : ms_ri p R d 0 = p := by
  funext j
  unfold ms_ri
  rw [if_neg (by omega)]
theorem ms_riS (p : Nat → Int32) {R d l : Nat} (h : R ≤ d + l) : upd (ms_ri p R d l) (d + l) 1 = ms_ri p R d (l + 1) := by
  funext j
  by_cases e : j = d + l
  · subst e
    rw [pk_us]
    unfold ms_ri
    rw [if_pos (by omega)]
  · rw [pk_un e]
    unfold ms_ri
    by_cases c : R ≤ j ∧ d ≤ j ∧ j < d + l
    · rw [if_pos c, if_pos (by omega)]
    · rw [if_neg c, if_neg (by omega)]
theorem ms_riK (p : Nat → Int32) {R d l : Nat} (h : d + l < R) : ms_ri p R d l = ms_ri p R d (l + 1) := by
  funext j
  unfold ms_ri
  by_cases c : R ≤ j ∧ d ≤ j ∧ j < d + l
  · rw [if_pos c, if_pos (by omega)]
  · rw [if_neg c, if_neg (by omega)]
/-- p' is p with ones at S -/
def ms_pt (S : Nat → Prop) (p p' : Nat → Int32) : Prop := ∀ d, (S d → p' d = 1) ∧ (¬ S d → p' d = p d)
theorem ms_ptU {S T : Nat → Prop} {p p' p'' : Nat → Int32} (hS : ∀ d, S d ↔ T d) (h : ms_pt S p p') (g : ms_pt T p p'') : p' = p'' := by
  funext d
  by_cases c : S d
  · rw [(h d).1 c, (g d).1 ((hS d).mp c)]
  · rw [(h d).2 c, (g d).2 (fun t => c ((hS d).mpr t))]
theorem ms_pt0 (p : Nat → Int32) : ms_pt (fun _ => False) p p := fun _ => ⟨fun h => h.elim, fun _ => rfl⟩
theorem ms_ptS {S T : Nat → Prop} {p p' : Nat → Int32} (hS : ∀ d, S d ↔ T d) (h : ms_pt S p p') : ms_pt T p p' :=
  fun d => ⟨fun t => (h d).1 ((hS d).mpr t), fun t => (h d).2 (fun s => t ((hS d).mp s))⟩
theorem ms_ptR {S : Nat → Prop} {p p' : Nat → Int32} {R d l : Nat} (h : ms_pt S p p') : ms_pt (fun j => S j ∨ (R ≤ j ∧ d ≤ j ∧ j < d + l)) p (ms_ri p' R d l) := by
  intro j
  unfold ms_ri
  refine ⟨fun t => ?_, fun t => ?_⟩
  · by_cases c : R ≤ j ∧ d ≤ j ∧ j < d + l
    · rw [if_pos c]
    · rw [if_neg c]
      rcases t with t | t
      · exact (h j).1 t
      · exact absurd t c
  · rw [if_neg (fun c => t (Or.inr c))]
    exact (h j).2 (fun s => t (Or.inl s))
/-- flags counted from s on -/
def ms_cf (p : Nat → Int32) (s : Nat) : Nat → Nat
  | 0 => 0
  | l + 1 => if p (s + l) = 0 then ms_cf p s l else ms_cf p s l + 1
theorem ms_cfb (p : Nat → Int32) (s : Nat) : ∀ l, ms_cf p s l ≤ l := by
  intro l
  induction l with
  | zero => exact Nat.le_refl 0
  | succ l ih => unfold ms_cf; split <;> omega
theorem ms_cfa (p : Nat → Int32) (s a : Nat) : ∀ b, ms_cf p s (a + b) = ms_cf p s a + ms_cf p (s + a) b := by
  intro b
  induction b with
  | zero => rfl
  | succ b ih =>
    show ms_cf p s (a + b + 1) = _
    rw [ms_cf, ms_cf, ih, Nat.add_assoc s a b]
    split
    · rfl
    · omega
theorem ms_cf0 {p : Nat → Int32} {s : Nat} : ∀ l, (∀ j, s ≤ j → j < s + l → p j = 0) → ms_cf p s l = 0 := by
  intro l
  induction l with
  | zero => intro _; rfl
  | succ l ih =>
    intro h
    rw [ms_cf, if_pos (h (s + l) (by omega) (by omega))]
    exact ih (fun j h1 h2 => h j h1 (by omega))
theorem ms_cfE {p : Nat → Int32} {R W : Nat} (hR : R ≤ W) (hW : W ≤ 256) (h : ∀ d, ¬ p d = 0 → R ≤ d ∧ d < W) : ms_cf p 0 256 = ms_cf p R (W - R) := by
  have hz : ∀ j, ¬ (R ≤ j ∧ j < W) → p j = 0 := by
    intro j hj
    by_cases c : p j = 0
    · exact c
    · exact absurd (h j c) hj
  have e1 : 256 = R + ((W - R) + (256 - W)) := by omega
  have e2 : ms_cf p 0 256 = ms_cf p 0 (R + ((W - R) + (256 - W))) := congrArg (ms_cf p 0) e1
  rw [e2, ms_cfa, ms_cfa, ms_cf0 R (fun j _ h2 => hz j (by omega)), ms_cf0 (256 - W) (fun j h1 _ => hz j (by omega))]
  rw [Nat.zero_add, Nat.zero_add, Nat.add_zero]
/-- windows -/
def ms_wi (c : Nat) : Nat := if 8 < c / 256 then 8 else c / 256
theorem ms_wib (c : Nat) : ms_wi c ≤ 8 := by unfold ms_wi; split <;> omega
/-- what send refuses: 0 is accepted -/
def ms_rf (es : Nat → Int32) (cw una nxt high cn : Nat → Nat) (e W a : Nat) : Int32 :=
  if ¬ es a = 1 then -2 else if ms_wi (cw a) ≤ nxt a - una a then -3 else if cn a = 8 then -4 else if nxt a = high a ∧ e = W then -5 else 0
theorem ms_rf0 {es : Nat → Int32} {cw una nxt high cn : Nat → Nat} {e W a : Nat} (h : ms_rf es cw una nxt high cn e W a = 0) : es a = 1 ∧ nxt a - una a < ms_wi (cw a) ∧ ¬ cn a = 8 ∧ (nxt a = high a → ¬ e = W) := by
  unfold ms_rf at h
  by_cases c1 : es a = 1
  · rw [if_neg (fun z => z c1)] at h
    by_cases c2 : ms_wi (cw a) ≤ nxt a - una a
    · rw [if_pos c2] at h; exact absurd h (by decide)
    · rw [if_neg c2] at h
      by_cases c3 : cn a = 8
      · rw [if_pos c3] at h; exact absurd h (by decide)
      · rw [if_neg c3] at h
        by_cases c4 : nxt a = high a ∧ e = W
        · rw [if_pos c4] at h; exact absurd h (by decide)
        · exact ⟨c1, by omega, c3, fun q r => c4 ⟨q, r⟩⟩
  · rw [if_pos c1] at h; exact absurd h (by decide)
theorem ms_rfA {es : Nat → Int32} {cw una nxt high cn : Nat → Nat} {e W a : Nat} (c1 : ¬ es a = 1) : ms_rf es cw una nxt high cn e W a = -2 := if_pos c1
theorem ms_rfB {es : Nat → Int32} {cw una nxt high cn : Nat → Nat} {e W a : Nat} (c1 : es a = 1) (c2 : ms_wi (cw a) ≤ nxt a - una a) : ms_rf es cw una nxt high cn e W a = -3 := (if_neg (fun z => z c1)).trans (if_pos c2)
theorem ms_rfC {es : Nat → Int32} {cw una nxt high cn : Nat → Nat} {e W a : Nat} (c1 : es a = 1) (c2 : ¬ ms_wi (cw a) ≤ nxt a - una a) (c3 : cn a = 8) : ms_rf es cw una nxt high cn e W a = -4 := (if_neg (fun z => z c1)).trans ((if_neg c2).trans (if_pos c3))
theorem ms_rfD {es : Nat → Int32} {cw una nxt high cn : Nat → Nat} {e W a : Nat} (c1 : es a = 1) (c2 : ¬ ms_wi (cw a) ≤ nxt a - una a) (c3 : ¬ cn a = 8) (c4 : nxt a = high a ∧ e = W) : ms_rf es cw una nxt high cn e W a = -5 := (if_neg (fun z => z c1)).trans ((if_neg c2).trans ((if_neg c3).trans (if_pos c4)))
theorem ms_rfE {es : Nat → Int32} {cw una nxt high cn : Nat → Nat} {e W a : Nat} (c1 : es a = 1) (c2 : ¬ ms_wi (cw a) ≤ nxt a - una a) (c3 : ¬ cn a = 8) (c4 : ¬ (nxt a = high a ∧ e = W)) : ms_rf es cw una nxt high cn e W a = 0 := (if_neg (fun z => z c1)).trans ((if_neg c2).trans ((if_neg c3).trans (if_neg c4)))
/-- places taken -/
def ms_sm (una nxt : Nat → Nat) : Nat := (nxt 0 - una 0) + (nxt 1 - una 1) + (nxt 2 - una 2)
theorem ms_smS {una nxt : Nat → Nat} {a : Nat} (ha : a < 3) (h : una a ≤ nxt a) : ms_sm una (ms_un nxt a (nxt a + 1)) = ms_sm una nxt + 1 := by
  have h3 : a = 0 ∨ a = 1 ∨ a = 2 := by omega
  rcases h3 with rfl | rfl | rfl
  · unfold ms_sm
    rw [ms_us, ms_uo (by decide), ms_uo (by decide)]
    omega
  · unfold ms_sm
    rw [ms_us, ms_uo (by decide), ms_uo (by decide)]
    omega
  · unfold ms_sm
    rw [ms_us, ms_uo (by decide), ms_uo (by decide)]
    omega
theorem ms_smF {es : Nat → Int32} {cw una nxt high cn : Nat → Nat} {e W : Nat} (hc : ∀ i, i < 3 → una i ≤ nxt i ∧ nxt i ≤ una i + 8) (h : 24 ≤ ms_sm una nxt) : ∀ i, i < 3 → ¬ ms_rf es cw una nxt high cn e W i = 0 := by
  intro i hi hr
  obtain ⟨_, h2, _, _⟩ := ms_rf0 hr
  have h8 := ms_wib (cw i)
  have g0 := hc 0 (by omega)
  have g1 := hc 1 (by omega)
  have g2 := hc 2 (by omega)
  unfold ms_sm at h
  have h3 : i = 0 ∨ i = 1 ∨ i = 2 := by omega
  rcases h3 with rfl | rfl | rfl <;> omega
/-- the fastest of those that are accepted among the first i; 3: none -/
def ms_bs (f : Nat → Int32) (rt : Nat → Nat) : Nat → Nat
  | 0 => 3
  | i + 1 => if f i = 0 ∧ (ms_bs f rt i = 3 ∨ rt i < rt (ms_bs f rt i)) then i else ms_bs f rt i
theorem ms_bsb {f : Nat → Int32} {rt : Nat → Nat} : ∀ i, ms_bs f rt i = 3 ∨ (ms_bs f rt i < i ∧ f (ms_bs f rt i) = 0) := by
  intro i
  induction i with
  | zero => exact Or.inl rfl
  | succ i ih =>
    unfold ms_bs
    split
    · rename_i h
      exact Or.inr ⟨by omega, h.1⟩
    · rcases ih with ih | ih
      · exact Or.inl ih
      · exact Or.inr ⟨by omega, ih.2⟩
theorem ms_bsn {f : Nat → Int32} {rt : Nat → Nat} (h : ∀ i, i < 3 → ¬ f i = 0) : ∀ i, i ≤ 3 → ms_bs f rt i = 3 := by
  intro i
  induction i with
  | zero => intro _; rfl
  | succ i ih =>
    intro hi
    rw [ms_bs, if_neg (fun c => h i (by omega) c.1)]
    exact ih (by omega)
/-- as an int: none is -1 -/
def ms_bi (b : Nat) : Int32 := if b = 3 then -1 else nI b
end
section
abbrev ms_X (B : Int32) (W R : Nat) (sent disc : Int32) (st pe he es : Nat → Int32) (cw rt una nxt high : Nat → Nat) (rn : Nat → Int32) (cn cs cd cl rd rl : Nat → Nat) : St2 :=
  (B, nI W, nI R, sent, disc, st, pe, he, es, ms_im cw, ms_im rt, ms_im una, ms_im nxt, ms_im high, rn, ms_im cn, ms_im cs, ms_im cd, ms_im cl, ms_im rd, ms_im rl)
theorem ms_at {f : Nat → Nat} {k : Nat} (h : k < 2 ^ 31) : ms_im f (nI k).toNatClampNeg = nI (f k) := by
  rw [nI_clamp h]
  rfl
theorem ms_up {f : Nat → Nat} {k v : Nat} (h : k < 2 ^ 31) : upd (ms_im f) (nI k).toNatClampNeg (nI v) = ms_im (ms_un f k v) := by
  rw [nI_clamp h]
  exact ms_imu f k v
theorem ms_cu {p : Nat → Int32} {k : Nat} {x : Int32} (h : k < 2 ^ 31) : upd p (nI k).toNatClampNeg x = upd p k x := by rw [nI_clamp h]
theorem ms_m8 (a : Nat) : nI a * 8 = nI (a * 8) := pk_mul a 8
theorem ms_sl (a b : Nat) : nI a * 8 + nI b = nI (a * 8 + b) := by rw [ms_m8, nI_add]
theorem ms_rs (a : Nat) {b : Nat} (hb : b < 2 ^ 31) : nI a * 8 + (nI b - nI b / 8 * 8) = nI (a * 8 + b % 8) := by
  have h : nI b - nI b / 8 * 8 = nI (b % 8) := pk_rem (a := b) (d := 8) hb (by decide) (by decide)
  rw [h, ms_sl]
theorem ms_bd (x : Int32) : (x < 0 ∨ (3 : Int32) ≤ x) ∨ ∃ j : Nat, j < 3 ∧ x = nI j := by
  rcases pk_ix x (n := 3) (by decide) with h | h | h
  · exact Or.inl (Or.inl h)
  · exact Or.inl (Or.inr h)
  · exact Or.inr h
theorem ms_nm1 {b : Nat} (h : b < 2 ^ 31) : ¬ nI b = -1 := fun e => nI_pos h (by rw [e]; decide)
theorem ms_lle {x y : Int64} {A B : Prop} (a b : Nat) (f : a ≤ b → A) (g : b < a → B) (hx : x = lN a) (hy : y = lN b) (ha : a < 2 ^ 63) (hb : b < 2 ^ 63) : (x ≤ y → A) ∧ (¬ x ≤ y → B) := by
  subst hx hy
  rw [pk_lLE ha hb]
  exact ⟨f, fun z => g (by omega)⟩
theorem ms_llt {x y : Int64} {A B : Prop} (a b : Nat) (f : a < b → A) (g : b ≤ a → B) (hx : x = lN a) (hy : y = lN b) (ha : a < 2 ^ 63) (hb : b < 2 ^ 63) : (x < y → A) ∧ (¬ x < y → B) := by
  subst hx hy
  rw [pk_lLT ha hb]
  exact ⟨f, fun z => g (by omega)⟩
theorem ms_lne {b : Nat} (h0 : 0 < b) (hb : b < 2 ^ 63) : ¬ lN b = 0 := fun e => by
  have := (pk_lEQ hb (show 0 < 2 ^ 63 by decide)).mp e
  omega
/-- between two bounds -/
def ms_cp (x lo hi : Int32) : Int32 := if x < lo then lo else if hi < x then hi else x
theorem ms_cpr (x : Int32) : ∃ r : Nat, 1 ≤ r ∧ r ≤ 4 ∧ ms_cp x 1 4 = nI r := by
  unfold ms_cp
  by_cases h : x < 1
  · exact ⟨1, by omega, by omega, by rw [if_pos h]; rfl⟩
  · rw [if_neg h]
    by_cases h2 : (4 : Int32) < x
    · exact ⟨4, by omega, by omega, by rw [if_pos h2]; rfl⟩
    · rw [if_neg h2]
      have h0 : ¬ x < 0 := fun z => h (Int32.lt_trans z (by decide))
      obtain ⟨j, hj, rfl⟩ := nI_of h0
      have g1 : ¬ j < 1 := fun z => h (nI_lt (b := 1) z (by decide))
      have g2 : ¬ 4 < j := fun z => h2 (nI_lt (a := 4) z hj)
      exact ⟨j, by omega, by omega, rfl⟩
theorem ms_ic {f : Nat → Nat} {k : Nat} (h : k < 2 ^ 31) : upd (ms_im f) (nI k).toNatClampNeg (ms_im f (nI k).toNatClampNeg + 1) = ms_im (ms_un f k (f k + 1)) := by rw [ms_at h, nI_1, ms_up h]
theorem ms_ic2 {f : Nat → Nat} {k : Nat} (h : k < 2 ^ 31) : upd (ms_im f) (nI k).toNatClampNeg (nI (f k) + 1) = ms_im (ms_un f k (f k + 1)) := by rw [nI_1, ms_up h]
theorem ms_ic0 {f : Nat → Nat} {k : Nat} : upd (ms_im f) k (ms_im f k + 1) = ms_im (ms_un f k (f k + 1)) := by
  show upd (ms_im f) k (nI (f k) + 1) = _
  rw [nI_1]
  exact ms_imu f k (f k + 1)
end
section
section
variable {h W R a N : Nat} {pe he es rn : Nat → Int32} {cw rt una nxt high cn cs cd cl rd rl ysf yss yds yle : Nat → Nat}
theorem ms_k_write (hf : ms_fg R W pe he) (hW : W < 256) : ms_fg R (W + 1) (upd pe W 1) he := by
  obtain ⟨h1, h2, h3, h4⟩ := hf
  refine ⟨by omega, by omega, fun d hd => ?_, fun d hd => ?_⟩
  · by_cases e : d = W
    · omega
    · rw [pk_un e] at hd
      have := h3 d hd
      omega
  · have := h4 d hd
    omega
theorem ms_k_cl (hf : ms_fg R W pe he) (x y : Nat) : ms_fg R W (ms_cl pe x y) he := by
  obtain ⟨h1, h2, h3, h4⟩ := hf
  refine ⟨h1, h2, fun d hd => ?_, h4⟩
  by_cases c : x ≤ d ∧ d < y
  · exact absurd (ms_cli c.1 c.2) hd
  · rw [ms_clo c] at hd
    exact h3 d hd
theorem ms_k_pf {m : Nat} {h2 : Nat → Int32} (hf : ms_fg R W pe he) (hw : ∀ d, ¬ h2 d = 0 → d < W) (hp : ms_px h2 R m) : ms_fg (R + m) W (ms_cl pe R (R + m)) (ms_cl h2 R (R + m)) := by
  obtain ⟨g1, g2, g3, _⟩ := hf
  refine ⟨ms_pxW hp hw g1, g2, fun d hd => ?_, fun d hd => ?_⟩
  · by_cases c : R ≤ d ∧ d < R + m
    · exact absurd (ms_cli c.1 c.2) hd
    · rw [ms_clo c] at hd
      have := g3 d hd
      omega
  · by_cases c : R ≤ d ∧ d < R + m
    · exact absurd (ms_cli c.1 c.2) hd
    · rw [ms_clo c] at hd
      exact hw d hd
/-- clearing all below is clearing the new ones -/
theorem ms_k_low {m : Nat} (hf : ms_fg R W pe he) : ms_cl pe 0 (R + m) = ms_cl pe R (R + m) := by
  obtain ⟨_, _, g3, _⟩ := hf
  funext d
  by_cases c : R ≤ d ∧ d < R + m
  · rw [ms_cli c.1 c.2, ms_cli (Nat.zero_le d) c.2]
  · rw [ms_clo c]
    by_cases c2 : d < R + m
    · rw [ms_cli (Nat.zero_le d) c2]
      by_cases z : pe d = 0
      · exact z.symm
      · have := g3 d z
        omega
    · rw [ms_clo (by omega)]
theorem ms_k_pt {S : Nat → Prop} {p2 : Nat → Int32} (hf : ms_fg R W pe he) (hp : ms_pt S pe p2) (hS : ∀ d, S d → R ≤ d ∧ d < W) : ms_fg R W p2 he := by
  obtain ⟨h1, h2, h3, h4⟩ := hf
  refine ⟨h1, h2, fun d hd => ?_, h4⟩
  by_cases c : S d
  · exact hS d c
  · rw [(hp d).2 c] at hd
    exact h3 d hd
theorem ms_k_send (H : ms_ct h es una nxt high rn) (ha : nxt a < high a) : ms_ct h es una (ms_un nxt a (nxt a + 1)) high rn := by
  intro i hi
  obtain ⟨h1, h2, h3, h4, h5⟩ := H i hi
  by_cases e : i = a
  · subst e
    rw [ms_us]
    exact ⟨by omega, by omega, h3, h4, h5⟩
  · rw [ms_uo e]
    exact ⟨h1, h2, h3, h4, h5⟩
theorem ms_k_new (H : ms_ct h es una nxt high rn) (ha : nxt a = high a) (hr : high a < una a + 8) : ms_ct (h + 1) es una (ms_un nxt a (nxt a + 1)) (ms_un high a (high a + 1)) rn := by
  intro i hi
  obtain ⟨h1, h2, h3, h4, h5⟩ := H i hi
  by_cases e : i = a
  · subst e
    rw [ms_us, ms_us]
    exact ⟨by omega, by omega, by omega, by omega, h5⟩
  · rw [ms_uo e, ms_uo e]
    exact ⟨h1, h2, h3, by omega, h5⟩
theorem ms_k_to (H : ms_ct h es una nxt high rn) : ms_ct h es una (ms_un nxt a (una a)) high rn := by
  intro i hi
  obtain ⟨h1, h2, h3, h4, h5⟩ := H i hi
  by_cases e : i = a
  · subst e
    rw [ms_us]
    exact ⟨Nat.le_refl _, by omega, h3, h4, h5⟩
  · rw [ms_uo e]
    exact ⟨h1, h2, h3, h4, h5⟩
theorem ms_k_rn {x : Int32} (H : ms_ct h es una nxt high rn) (he : ¬ es a = 1) : ms_ct h es una nxt high (upd rn a x) := by
  intro i hi
  obtain ⟨h1, h2, h3, h4, h5⟩ := H i hi
  refine ⟨h1, h2, h3, h4, fun q => ?_⟩
  by_cases e : i = a
  · subst e
    exact absurd q he
  · rw [pk_un e]
    exact h5 q
theorem ms_k_ack (H : ms_ct h es una nxt high rn) (hu : una a < high a) {n2 : Nat → Nat} (hn : (nxt a < una a + 1 ∧ n2 = ms_un nxt a (una a + 1)) ∨ (una a + 1 ≤ nxt a ∧ n2 = nxt)) : ms_ct h es (ms_un una a (una a + 1)) n2 high (upd rn a (nI (una a + 1))) := by
  intro i hi
  obtain ⟨h1, h2, h3, h4, h5⟩ := H i hi
  by_cases e : i = a
  · subst e
    rw [ms_us, pk_us]
    rcases hn with ⟨c, rfl⟩ | ⟨c, rfl⟩
    · rw [ms_us]
      exact ⟨by omega, by omega, by omega, h4, fun _ => rfl⟩
    · exact ⟨by omega, by omega, by omega, h4, fun _ => rfl⟩
  · rw [ms_uo e, pk_un e]
    rcases hn with ⟨c, rfl⟩ | ⟨c, rfl⟩
    · rw [ms_uo e]
      exact ⟨h1, h2, h3, h4, h5⟩
    · exact ⟨h1, h2, h3, h4, h5⟩
theorem ms_k_es {z : Int32} (hz : z ≠ 1) (H : ms_ct h es una nxt high rn) : ms_ct h (upd es a z) una nxt high rn := by
  intro i hi
  obtain ⟨h1, h2, h3, h4, h5⟩ := H i hi
  refine ⟨h1, h2, h3, h4, fun q => ?_⟩
  by_cases e : i = a
  · subst e
    rw [pk_us] at q
    exact absurd q hz
  · rw [pk_un e] at q
    exact h5 q
theorem ms_k_wd {c : Nat} (H : ms_wd cw rt) (h1 : 256 ≤ c) (h2 : c ≤ 4096) : ms_wd (ms_un cw a c) rt := by
  intro i hi
  obtain ⟨g1, g2, g3⟩ := H i hi
  by_cases e : i = a
  · subst e
    rw [ms_us]
    exact ⟨h1, h2, g3⟩
  · rw [ms_uo e]
    exact ⟨g1, g2, g3⟩
theorem ms_k_hi (H : ms_ct h es una nxt high rn) : ∀ i, i < 3 → una i ≤ high i ∧ high i ≤ una i + 8 := by
  intro i hi
  obtain ⟨h1, h2, h3, _⟩ := H i hi
  exact ⟨by omega, h3⟩
theorem ms_k_le (a : Nat) : ∀ i, i < 3 → high i ≤ ms_un high a (high a + 1) i := by
  intro i _
  by_cases e : i = a
  · subst e
    rw [ms_us]
    omega
  · rw [ms_uo e]
    exact Nat.le_refl _
end
/-- reinjection of j records from s0 on, by the ring -/
def ms_fx (pe : Nat → Int32) (R : Nat) (rd rl : Nat → Nat) (a s0 : Nat) : Nat → Nat → Int32
  | 0 => pe
  | j + 1 => ms_ri (ms_fx pe R rd rl a s0 j) R (rd (a * 8 + (s0 + j) % 8)) (rl (a * 8 + (s0 + j) % 8))
theorem ms_fxp (pe : Nat → Int32) (R : Nat) (rd rl : Nat → Nat) (a s0 : Nat) : ∀ j, ms_pt (fun d => ∃ s, s0 ≤ s ∧ s < s0 + j ∧ R ≤ d ∧ rd (a * 8 + s % 8) ≤ d ∧ d < rd (a * 8 + s % 8) + rl (a * 8 + s % 8)) pe (ms_fx pe R rd rl a s0 j) := by
  intro j
  induction j with
  | zero =>
    refine ms_ptS (fun d => ⟨fun z => z.elim, ?_⟩) (ms_pt0 pe)
    rintro ⟨s, s1, s2, _⟩
    omega
  | succ j ih =>
    refine ms_ptS (fun d => ⟨?_, ?_⟩) (ms_ptR (R := R) (d := rd (a * 8 + (s0 + j) % 8)) (l := rl (a * 8 + (s0 + j) % 8)) ih)
    · rintro (⟨s, s1, s2, s3⟩ | ⟨q1, q2, q3⟩)
      · exact ⟨s, s1, by omega, s3⟩
      · exact ⟨s0 + j, by omega, by omega, q1, q2, q3⟩
    · rintro ⟨s, s1, s2, s3⟩
      by_cases e : s = s0 + j
      · subst e
        exact Or.inr s3
      · exact Or.inl ⟨s, s1, by omega, s3⟩
/-- the ring's live records -/
def ms_xr (W : Nat) (es : Nat → Int32) (una high rd rl : Nat → Nat) : Prop := ∀ a b, a < 3 → es a = 1 → una a ≤ b → b < high a → 1 ≤ rl (a * 8 + b % 8) ∧ rl (a * 8 + b % 8) ≤ 4 ∧ rd (a * 8 + b % 8) + rl (a * 8 + b % 8) ≤ W
end
section
theorem ms_d1 {c : Nat} (h : 0 < c) : nI c - 1 = nI (c - 1) := pk_sub (a := c) (b := 1) h
theorem ms_shU {f : Nat → Nat} {b i : Nat} (h : b ≤ i) (hi : i < 1000) : upd (ms_im (ms_sh f b i)) (nI i).toNatClampNeg (ms_im (ms_sh f b i) (nI i + 1).toNatClampNeg) = ms_im (ms_sh f b (i + 1)) := by
  rw [nI_1, ms_at (by omega), ms_up (by omega), ms_shS f h]
section
variable {B : Int32} {W R : Nat} {sent disc : Int32} {st pe he es : Nat → Int32} {cw rt una nxt high : Nat → Nat} {rn : Nat → Int32} {cn cs cd cl rd rl : Nat → Nat} {a : Nat}
theorem ms_x_sub {post : Int32 → Prop} (ha : a < 3) (hp : post 1) : wpX_isSubflow post () (nI a) :=
  br_f (nI_pos (by omega)) (br_f (nI_ge (b := 3) ha (by decide)) hp)
theorem ms_x_nsb {post : Int32 → Prop} {x : Int32} (hx : x < 0 ∨ (3 : Int32) ≤ x) (hp : post 0) : wpX_isSubflow post () x := by
  by_cases h : x < 0
  · exact br_t h hp
  · rcases hx with hx | hx
    · exact absurd hx h
    · exact br_f h (br_t hx hp)
theorem ms_x_est {post : Int32 → Prop} (ha : a < 3) (hp : post (if es a = 1 then 1 else 0)) : wpX_isEstablished post (ms_X B W R sent disc st pe he es cw rt una nxt high rn cn cs cd cl rd rl) (nI a) := by
  refine ⟨pk_in a 3 ha, ?_⟩
  rw [nI_clamp (by omega)]
  by_cases h : es a = 1
  · rw [if_pos h] at hp
    exact br_t h hp
  · rw [if_neg h] at hp
    exact br_f h hp
theorem ms_x_win {post : Int32 → Prop} (ha : a < 3) (hc : cw a ≤ 4096) (hp : post (nI (ms_wi (cw a)))) : wpX_window post (ms_X B W R sent disc st pe he es cw rt una nxt high rn cn cs cd cl rd rl) (nI a) := by
  refine ⟨pk_in a 3 ha, by decide, ?_⟩
  refine nm_r (e' := nI (cw a / 256)) ?_ ?_
  · rw [ms_at (by omega)]
    exact pk_div (d := 256) (by omega) (by decide) (by decide)
  · unfold ms_wi at hp
    have h8 : cw a / 256 < 2 ^ 31 := by omega
    refine pk_le (cw a / 256) 8 (fun z => ?_) (fun z => ?_)
    · rw [if_neg (by omega)] at hp
      exact hp
    · rw [if_pos z] at hp
      exact hp
theorem ms_x_lp {post : Int32 → Prop} {e : Nat} (hW : W ≤ 256) (hl : ms_lp pe R W e) (hp : post (nI e)) : wpX_leastPending post (ms_X B W R sent disc st pe he es cw rt una nxt high rn cn cs cd cl rd rl) := by
  obtain ⟨h1, h2, h3, h4⟩ := hl
  refine pk_loop (σ := Unit) (fun n i _ => wX_leastPending_5 post B (nI W) (nI R) sent disc st pe he es (ms_im cw) (ms_im rt) (ms_im una) (ms_im nxt) (ms_im high) rn (ms_im cn) (ms_im cs) (ms_im cd) (ms_im cl) (ms_im rd) (ms_im rl) n (nI i)) (fun i _ => R ≤ i) e R () h1 (Nat.le_refl R) ?_ ?_
  · intro n _ _
    refine pk_le W e (fun z => ?_) (fun z => ⟨pk_in e 256 (by omega), br_f (by rw [nI_clamp (by omega)]; exact h4 z) hp⟩)
    rw [show W = e by omega]
    exact hp
  · intro n i _ hi hr hw
    exact pk_le W i (fun z => absurd z (by omega)) (fun z => ⟨pk_in i 256 (by omega), br_t (by rw [nI_clamp (by omega)]; exact h3 i hr hi) (nm_r (nI_1 i) (hw () (by omega)))⟩)
theorem ms_x_slot {post : Int32 → Prop} {b : Nat} (hb : b < 2 ^ 31) (hp : post (nI (a * 8 + b % 8))) : wpX_recordSlot post () (nI a) (nI b) := by
  rw [← ms_rs a hb] at hp
  exact ⟨by decide, hp⟩
theorem ms_x_app {post : St2 → Prop} {s d l : Nat} (ha : a < 3) (hn : cn a < 8) (hp : post (ms_X B W R sent disc st pe he es cw rt una nxt high rn (ms_un cn a (cn a + 1)) (ms_un cs (a * 8 + cn a) s) (ms_un cd (a * 8 + cn a) d) (ms_un cl (a * 8 + cn a) l) rd rl)) : wpX_append post (ms_X B W R sent disc st pe he es cw rt una nxt high rn cn cs cd cl rd rl) (nI a) (nI s) (nI d) (nI l) :=
  ⟨pk_in a 3 ha, nm_r (e' := nI (a * 8 + cn a)) (by rw [ms_at (by omega)]; exact ms_sl a (cn a)) ⟨pk_in (a * 8 + cn a) 24 (by omega), nm_r (ms_up (by omega)) ⟨pk_in (a * 8 + cn a) 24 (by omega), nm_r (ms_up (by omega)) ⟨pk_in (a * 8 + cn a) 24 (by omega), nm_r (ms_up (by omega)) ⟨pk_in a 3 ha, pk_in a 3 ha, nm_r (ms_ic (by omega)) hp⟩⟩⟩⟩⟩
theorem ms_x_popl {post : St2 → Prop} (ha : a < 3) (h0 : 0 < cn a) (h8 : cn a ≤ 8) (hp : post (ms_X B W R sent disc st pe he es cw rt una nxt high rn (ms_un cn a (cn a - 1)) (ms_sh cs (a * 8) (a * 8 + (cn a - 1))) (ms_sh cd (a * 8) (a * 8 + (cn a - 1))) (ms_sh cl (a * 8) (a * 8 + (cn a - 1))) rd rl)) : ∀ d i, i + d = a * 8 + (cn a - 1) → a * 8 ≤ i → wX_removeHead_19 post (nI a) (nI (a * 8 + (cn a - 1))) B (nI W) (nI R) sent disc (d + 1) (nI i) st pe he es (ms_im cw) (ms_im rt) (ms_im una) (ms_im nxt) (ms_im high) rn (ms_im cn) (ms_im (ms_sh cs (a * 8) i)) (ms_im (ms_sh cd (a * 8) i)) (ms_im (ms_sh cl (a * 8) i)) (ms_im rd) (ms_im rl) := by
  intro d
  induction d with
  | zero =>
    intro i hi hl
    have e : i = a * 8 + (cn a - 1) := by omega
    subst e
    exact pk_le (a * 8 + (cn a - 1)) (a * 8 + (cn a - 1)) (fun _ => ⟨pk_in a 3 ha, pk_in a 3 ha, nm_r (by rw [ms_at (by omega), ms_d1 h0]; exact ms_up (by omega)) hp⟩) (fun z => absurd z (by omega))
  | succ d ih =>
    intro i hi hl
    exact pk_le (a * 8 + (cn a - 1)) i (fun z => absurd z (by omega)) (fun _ => ⟨pk_in (i + 1) 24 (by omega) (nI_1 i), pk_in i 24 (by omega), nm_r (ms_shU hl (by omega)) ⟨pk_in (i + 1) 24 (by omega) (nI_1 i), pk_in i 24 (by omega), nm_r (ms_shU hl (by omega)) ⟨pk_in (i + 1) 24 (by omega) (nI_1 i), pk_in i 24 (by omega), nm_r (ms_shU hl (by omega)) (nm_r (nI_1 i) (ih (i + 1) (by omega) (by omega)))⟩⟩⟩)
theorem ms_x_pop {post : St2 → Prop} (ha : a < 3) (h0 : 0 < cn a) (h8 : cn a ≤ 8) (hp : post (ms_X B W R sent disc st pe he es cw rt una nxt high rn (ms_un cn a (cn a - 1)) (ms_sh cs (a * 8) (a * 8 + (cn a - 1))) (ms_sh cd (a * 8) (a * 8 + (cn a - 1))) (ms_sh cl (a * 8) (a * 8 + (cn a - 1))) rd rl)) : wpX_removeHead post (ms_X B W R sent disc st pe he es cw rt una nxt high rn cn cs cd cl rd rl) (nI a) := by
  have h := ms_x_popl ha h0 h8 hp (cn a - 1) (a * 8) rfl (Nat.le_refl _)
  rw [ms_sh0, ms_sh0, ms_sh0] at h
  refine nm_r (ms_m8 a) ⟨pk_in a 3 ha, nm_r (e' := nI (a * 8 + (cn a - 1))) ?_ ⟨_, h⟩⟩
  rw [ms_at (by omega), nI_add, ms_d1 (by omega), show a * 8 + cn a - 1 = a * 8 + (cn a - 1) by omega]
theorem ms_x_holdl {post : St2 → Prop} {d l : Nat} (hd : d + l ≤ 256) (hp : post (ms_X B W R sent ((ms_hd R B d disc he l).1) st pe ((ms_hd R B d disc he l).2) es cw rt una nxt high rn cn cs cd cl rd rl)) : ∀ m j, j + m = l → wX_hold_2 post (nI d) (nI l) B (nI W) (nI R) sent (m + 1) (nI (d + j)) (ms_hd R B d disc he j).1 st pe ((ms_hd R B d disc he j).2) es (ms_im cw) (ms_im rt) (ms_im una) (ms_im nxt) (ms_im high) rn (ms_im cn) (ms_im cs) (ms_im cd) (ms_im cl) (ms_im rd) (ms_im rl) := by
  intro m
  induction m with
  | zero =>
    intro j hj
    have e : j = l := by omega
    subst e
    exact pk_le (d + j) (d + j) (fun _ => hp) (fun z => absurd z (by omega)) (nI_add d j)
  | succ m ih =>
    intro j hj
    have g := ih (j + 1) (by omega)
    refine pk_le (d + l) (d + j) (fun z => absurd z (by omega)) (fun _ => ?_) (nI_add d l)
    by_cases c1 : nI (d + j) < nI R
    · rw [ms_hd1 (Or.inl c1)] at g
      exact br_t c1 (nm_e (nm_r (nI_1 (d + j)) g))
    · refine br_f c1 ?_
      by_cases c2 : nI R + B ≤ nI (d + j)
      · rw [ms_hd1 (Or.inr (Or.inl c2))] at g
        exact br_t c2 (nm_e (nm_r (nI_1 (d + j)) g))
      · refine br_f c2 ⟨pk_in (d + j) 256 (by omega), ?_⟩
        by_cases c3 : (ms_hd R B d disc he j).2 (d + j) = 0
        · rw [ms_hd2 (by rintro (z | z | z); exact c1 z; exact c2 z; exact z c3)] at g
          exact br_t (by rw [nI_clamp (by omega)]; exact c3) ⟨pk_in (d + j) 256 (by omega), nm_r (by rw [nI_clamp (by omega)]) (nm_r (nI_1 (d + j)) g)⟩
        · rw [ms_hd1 (Or.inr (Or.inr c3))] at g
          exact br_f (by rw [nI_clamp (by omega)]; exact c3) (nm_e (nm_r (nI_1 (d + j)) g))
theorem ms_x_hold {post : St2 → Prop} {d l : Nat} (hd : d + l ≤ 256) (hp : post (ms_X B W R sent ((ms_hd R B d disc he l).1) st pe ((ms_hd R B d disc he l).2) es cw rt una nxt high rn cn cs cd cl rd rl)) : wpX_hold post (ms_X B W R sent disc st pe he es cw rt una nxt high rn cn cs cd cl rd rl) (nI d) (nI l) :=
  ⟨_, ms_x_holdl hd hp l 0 (Nat.zero_add l)⟩
theorem ms_x_prel {post : Int32 → St2 → Prop} {m : Nat} (hm : ms_px he R m) (hp : post (nI m) (ms_X B W (R + m) sent disc st (ms_cl pe R (R + m)) (ms_cl he R (R + m)) es cw rt una nxt high rn cn cs cd cl rd rl)) : ∀ k j, j + k = m → wX_deliverPrefix_2 post B (nI W) sent disc (k + 1) (nI j) (nI (R + j)) st (ms_cl pe R (R + j)) (ms_cl he R (R + j)) es (ms_im cw) (ms_im rt) (ms_im una) (ms_im nxt) (ms_im high) rn (ms_im cn) (ms_im cs) (ms_im cd) (ms_im cl) (ms_im rd) (ms_im rl) := by
  obtain ⟨h1, h2, h3⟩ := hm
  intro k
  induction k with
  | zero =>
    intro j hj
    have e : j = m := by omega
    subst e
    refine pk_le 256 (R + j) (fun _ => hp) (fun z => ⟨pk_in (R + j) 256 (by omega), br_t ?_ hp⟩)
    rw [nI_clamp (by omega), ms_clo (by omega)]
    rcases h3 with h3 | h3
    · omega
    · exact h3
  | succ k ih =>
    intro j hj
    have g := ih (j + 1) (by omega)
    rw [← Nat.add_assoc, ← ms_clS pe (Nat.le_add_right R j), ← ms_clS he (Nat.le_add_right R j)] at g
    refine pk_le 256 (R + j) (fun z => absurd z (by omega)) (fun z => ⟨pk_in (R + j) 256 (by omega), br_f ?_ ⟨pk_in (R + j) 256 (by omega), nm_r (by rw [nI_clamp (by omega)]) ⟨pk_in (R + j) 256 (by omega), nm_r (by rw [nI_clamp (by omega)]) (nm_r (nI_1 (R + j)) (nm_r (nI_1 j) g))⟩⟩⟩)
    rw [nI_clamp (by omega), ms_clo (by omega)]
    exact h2 j (by omega)
theorem ms_x_pre {post : Int32 → St2 → Prop} {m : Nat} (hm : ms_px he R m) (hp : post (nI m) (ms_X B W (R + m) sent disc st (ms_cl pe R (R + m)) (ms_cl he R (R + m)) es cw rt una nxt high rn cn cs cd cl rd rl)) : wpX_deliverPrefix post (ms_X B W R sent disc st pe he es cw rt una nxt high rn cn cs cd cl rd rl) := by
  have h := ms_x_prel hm hp m 0 (Nat.zero_add m)
  rw [Nat.add_zero R, ms_cl0, ms_cl0] at h
  exact ⟨_, h⟩
theorem ms_x_ril {post : St2 → Prop} {d l : Nat} (hd : d + l ≤ 256) (hR : R ≤ 256) (hp : post (ms_X B W R sent disc st (ms_ri pe R d l) he es cw rt una nxt high rn cn cs cd cl rd rl)) : ∀ m j, j + m = l → wX_reinject_2 post (nI d) (nI l) B (nI W) (nI R) sent disc (m + 1) (nI (d + j)) st (ms_ri pe R d j) he es (ms_im cw) (ms_im rt) (ms_im una) (ms_im nxt) (ms_im high) rn (ms_im cn) (ms_im cs) (ms_im cd) (ms_im cl) (ms_im rd) (ms_im rl) := by
  intro m
  induction m with
  | zero =>
    intro j hj
    have e : j = l := by omega
    subst e
    exact pk_le (d + j) (d + j) (fun _ => hp) (fun z => absurd z (by omega)) (nI_add d j)
  | succ m ih =>
    intro j hj
    have g := ih (j + 1) (by omega)
    refine pk_le (d + l) (d + j) (fun z => absurd z (by omega)) (fun _ => ?_) (nI_add d l)
    refine pk_lt (d + j) R (fun z => ?_) (fun z => ⟨pk_in (d + j) 256 (by omega), nm_r (by rw [nI_clamp (by omega), ms_riS pe z]) (nm_r (nI_1 (d + j)) g)⟩)
    rw [← ms_riK pe z] at g
    exact nm_r (nI_1 (d + j)) g
theorem ms_x_ri {post : St2 → Prop} {d l : Nat} (hd : d + l ≤ 256) (hR : R ≤ 256) (hp : post (ms_X B W R sent disc st (ms_ri pe R d l) he es cw rt una nxt high rn cn cs cd cl rd rl)) : wpX_reinject post (ms_X B W R sent disc st pe he es cw rt una nxt high rn cn cs cd cl rd rl) (nI d) (nI l) := by
  have h := ms_x_ril hd hR hp l 0 (Nat.zero_add l)
  rw [ms_ri0] at h
  exact ⟨_, h⟩
end
end
section
section
variable {B : Int32} {W R : Nat} {sent disc : Int32} {st pe he es : Nat → Int32} {cw rt una nxt high : Nat → Nat} {rn : Nat → Int32} {cn cs cd cl rd rl : Nat → Nat} {a : Nat}
theorem ms_x_ref {post : Int32 → Prop} {e : Nat} (ha : a < 3) (hW : W ≤ 256) (hl : ms_lp pe R W e) (h1 : una a ≤ nxt a) (h2 : nxt a ≤ high a) (h3 : high a < 2 ^ 31) (hc : cw a ≤ 4096) (hn : cn a ≤ 8) (hp : post (ms_rf es cw una nxt high cn e W a)) : wpX_refusalOfSend post (ms_X B W R sent disc st pe he es cw rt una nxt high rn cn cs cd cl rd rl) (nI a) := by
  unfold ms_rf at hp
  have hw := ms_wib (cw a)
  have he2 := hl.2.1
  unfold wpX_refusalOfSend
  refine ms_x_sub ha ?_
  refine br_f (by decide) ?_
  refine ms_x_est ha ?_
  by_cases c1 : es a = 1
  · rw [if_pos c1]
    rw [if_neg (fun z => z c1)] at hp
    refine br_f (by decide) ⟨pk_in a 3 ha, pk_in a 3 ha, ms_x_win ha hc ?_⟩
    refine pk_lt (nxt a - una a) (ms_wi (cw a)) (fun c2 => ?_) (fun c2 => ?_) (by rw [ms_at (by omega), ms_at (by omega), pk_sub h1])
    · rw [if_neg (by omega)] at hp
      refine ⟨pk_in a 3 ha, pk_eq (cn a) 8 (fun c3 => ?_) (fun c3 => ?_) (ms_at (by omega))⟩
      · rw [if_pos c3] at hp
        exact hp
      · rw [if_neg c3] at hp
        refine ⟨pk_in a 3 ha, pk_in a 3 ha, pk_eq (nxt a) (high a) (fun c4 => ?_) (fun c4 => ?_) (ms_at (by omega)) (ms_at (by omega))⟩
        · refine ms_x_lp hW hl (pk_eq e W (fun c5 => ?_) (fun c5 => ?_))
          · rw [if_pos ⟨c4, c5⟩] at hp
            exact hp
          · rw [if_neg (fun z => c5 z.2)] at hp
            exact hp
        · rw [if_neg (fun z => c4 z.1)] at hp
          exact hp
    · rw [if_pos c2] at hp
      exact hp
  · rw [if_neg c1]
    rw [if_pos c1] at hp
    exact br_t rfl hp
theorem ms_x_mkx {post : St2 → Prop} {e l : Nat} (ha : a < 3) (hh : high a < 2 ^ 30) (hp : post (ms_X B W R sent disc st pe he es cw rt una nxt (ms_un high a (high a + 1)) rn cn cs cd cl (ms_un rd (a * 8 + high a % 8) e) (ms_un rl (a * 8 + high a % 8) l))) : wX_makeRecord_48 post (nI a) (nI e) (nI l) B (nI W) (nI R) sent disc st pe he es (ms_im cw) (ms_im rt) (ms_im una) (ms_im nxt) (ms_im high) rn (ms_im cn) (ms_im cs) (ms_im cd) (ms_im cl) (ms_im rd) (ms_im rl) := by
  refine ⟨pk_in a 3 ha, ?_⟩
  rw [ms_at (by omega)]
  refine ms_x_slot (by omega) ?_
  exact ⟨pk_in (a * 8 + high a % 8) 24 (by omega), nm_r (ms_up (by omega)) ⟨pk_in (a * 8 + high a % 8) 24 (by omega), nm_r (ms_up (by omega)) ⟨pk_in a 3 ha, pk_in a 3 ha, nm_r (ms_ic2 (by omega)) hp⟩⟩⟩
theorem ms_x_mkl {post : St2 → Prop} {e l : Nat} (ha : a < 3) (hh : high a < 2 ^ 30) (hW : W ≤ 256) (hl : ms_ln pe W e l) (hp : post (ms_X B W R sent disc st (ms_cl pe e (e + l)) he es cw rt una nxt (ms_un high a (high a + 1)) rn cn cs cd cl (ms_un rd (a * 8 + high a % 8) e) (ms_un rl (a * 8 + high a % 8) l))) : ∀ k j, j + k = l → wX_makeRecord_7 post (nI a) (nI e) B (nI W) (nI R) sent disc (k + 1) (nI j) st (ms_cl pe e (e + j)) he es (ms_im cw) (ms_im rt) (ms_im una) (ms_im nxt) (ms_im high) rn (ms_im cn) (ms_im cs) (ms_im cd) (ms_im cl) (ms_im rd) (ms_im rl) := by
  obtain ⟨h1, h2, h3, h4⟩ := hl
  have E : wX_makeRecord_48 post (nI a) (nI e) (nI l) B (nI W) (nI R) sent disc st (ms_cl pe e (e + l)) he es (ms_im cw) (ms_im rt) (ms_im una) (ms_im nxt) (ms_im high) rn (ms_im cn) (ms_im cs) (ms_im cd) (ms_im cl) (ms_im rd) (ms_im rl) := ms_x_mkx ha hh hp
  intro k
  induction k with
  | zero =>
    intro j hj
    have e0 : j = l := by omega
    subst e0
    refine pk_le 4 j (fun _ => E) (fun z => pk_le W (e + j) (fun _ => E) (fun z2 => ⟨pk_in (e + j) 256 (by omega) (nI_add e j), br_t ?_ E⟩) rfl (nI_add e j))
    rw [nI_add, nI_clamp (by omega), ms_clo (by omega)]
    rcases h4 with h4 | h4 | h4
    · omega
    · omega
    · exact h4
  | succ k ih =>
    intro j hj
    have g := ih (j + 1) (by omega)
    rw [← Nat.add_assoc, ← ms_clS pe (Nat.le_add_right e j)] at g
    refine pk_le 4 j (fun z => absurd z (by omega)) (fun z => pk_le W (e + j) (fun z => absurd z (by omega)) (fun z2 => ⟨pk_in (e + j) 256 (by omega) (nI_add e j), br_f ?_ ⟨pk_in (e + j) 256 (by omega) (nI_add e j), nm_r (by rw [nI_add, nI_clamp (by omega)]) (nm_r (nI_1 j) g)⟩⟩) rfl (nI_add e j))
    rw [nI_add, nI_clamp (by omega), ms_clo (by omega)]
    exact h3 j (by omega)
theorem ms_x_mk {post : St2 → Prop} {e l : Nat} (ha : a < 3) (hh : high a < 2 ^ 30) (hW : W ≤ 256) (hlp : ms_lp pe R W e) (hl : ms_ln pe W e l) (hp : post (ms_X B W R sent disc st (ms_cl pe e (e + l)) he es cw rt una nxt (ms_un high a (high a + 1)) rn cn cs cd cl (ms_un rd (a * 8 + high a % 8) e) (ms_un rl (a * 8 + high a % 8) l))) : wpX_makeRecord post (ms_X B W R sent disc st pe he es cw rt una nxt high rn cn cs cd cl rd rl) (nI a) := by
  have h := ms_x_mkl ha hh hW hl hp l 0 (Nat.zero_add l)
  rw [Nat.add_zero e, ms_cl0] at h
  exact ms_x_lp hW hlp ⟨_, h⟩
theorem ms_x_nj {post : Int32 → St2 → Prop} (ha : a < 3) (hh : nxt a < 2 ^ 30) (hn : cn a < 8) (hp : post (nI (rl (a * 8 + nxt a % 8))) (ms_X B W R (sent + 1) disc st pe he es cw rt una (ms_un nxt a (nxt a + 1)) high rn (ms_un cn a (cn a + 1)) (ms_un cs (a * 8 + cn a) (nxt a)) (ms_un cd (a * 8 + cn a) (rd (a * 8 + nxt a % 8))) (ms_un cl (a * 8 + cn a) (rl (a * 8 + nxt a % 8))) rd rl)) : wX_sendNext_20 post (nI a) B (nI W) (nI R) sent disc st pe he es (ms_im cw) (ms_im rt) (ms_im una) (ms_im nxt) (ms_im high) rn (ms_im cn) (ms_im cs) (ms_im cd) (ms_im cl) (ms_im rd) (ms_im rl) := by
  refine ⟨pk_in a 3 ha, nm_r (ms_at (by omega)) (ms_x_slot (by omega) ⟨pk_in (a * 8 + nxt a % 8) 24 (by omega), pk_in (a * 8 + nxt a % 8) 24 (by omega), ?_⟩)⟩
  rw [ms_at (by omega), ms_at (by omega)]
  refine ms_x_app ha hn ⟨pk_in a 3 ha, pk_in a 3 ha, nm_r (ms_ic (by omega)) (nm_e ⟨pk_in (a * 8 + nxt a % 8) 24 (by omega), ?_⟩)⟩
  rw [ms_at (by omega)]
  exact hp
theorem ms_x_next1 {post : Int32 → St2 → Prop} (ha : a < 3) (hh : nxt a < 2 ^ 30) (hh2 : high a < 2 ^ 30) (hne : nxt a ≠ high a) (hn : cn a < 8) (hp : post (nI (rl (a * 8 + nxt a % 8))) (ms_X B W R (sent + 1) disc st pe he es cw rt una (ms_un nxt a (nxt a + 1)) high rn (ms_un cn a (cn a + 1)) (ms_un cs (a * 8 + cn a) (nxt a)) (ms_un cd (a * 8 + cn a) (rd (a * 8 + nxt a % 8))) (ms_un cl (a * 8 + cn a) (rl (a * 8 + nxt a % 8))) rd rl)) : wpX_sendNext post (ms_X B W R sent disc st pe he es cw rt una nxt high rn cn cs cd cl rd rl) (nI a) :=
  ⟨pk_in a 3 ha, pk_in a 3 ha, pk_eq (nxt a) (high a) (fun z => absurd z hne) (fun _ => ms_x_nj ha hh hn hp) (ms_at (by omega)) (ms_at (by omega))⟩
theorem ms_x_next2 {post : Int32 → St2 → Prop} {e l : Nat} (ha : a < 3) (hh : high a < 2 ^ 30) (hne : nxt a = high a) (hn : cn a < 8) (hW : W ≤ 256) (hlp : ms_lp pe R W e) (hl : ms_ln pe W e l) (hp : post (nI l) (ms_X B W R (sent + 1) disc st (ms_cl pe e (e + l)) he es cw rt una (ms_un nxt a (nxt a + 1)) (ms_un high a (high a + 1)) rn (ms_un cn a (cn a + 1)) (ms_un cs (a * 8 + cn a) (high a)) (ms_un cd (a * 8 + cn a) e) (ms_un cl (a * 8 + cn a) l) (ms_un rd (a * 8 + high a % 8) e) (ms_un rl (a * 8 + high a % 8) l))) : wpX_sendNext post (ms_X B W R sent disc st pe he es cw rt una nxt high rn cn cs cd cl rd rl) (nI a) := by
  refine ⟨pk_in a 3 ha, pk_in a 3 ha, pk_eq (nxt a) (high a) (fun _ => ms_x_mk ha hh hW hlp hl (ms_x_nj ha (by omega) hn ?_)) (fun z => absurd hne z) (ms_at (by omega)) (ms_at (by omega))⟩
  rw [hne, ms_us, ms_us]
  rw [hne] at hp
  exact hp
end
end
section
section
variable {B : Int32} {W R : Nat} {sent disc : Int32} {st pe he es : Nat → Int32} {cw rt una nxt high : Nat → Nat} {rn : Nat → Int32} {cn cs cd cl rd rl : Nat → Nat} {a h c : Nat}
/-- the fastest, by the class -/
theorem ms_x_fel {post : Int32 → Prop} {e : Nat} (hW : W ≤ 256) (hlp : ms_lp pe R W e) (hct : ms_ct h es una nxt high rn) (hwd : ms_wd cw rt) (hch : ms_ch W high cn cs cd cl) (hh : h < 2 ^ 29) (hp : post (ms_bi (ms_bs (ms_rf es cw una nxt high cn e W) rt 3))) : ∀ k i, i + k = 3 → wX_fastestEligible_4 post B (nI W) (nI R) sent disc st pe he es (ms_im cw) (ms_im rt) (ms_im una) (ms_im nxt) (ms_im high) rn (ms_im cn) (ms_im cs) (ms_im cd) (ms_im cl) (ms_im rd) (ms_im rl) (k + 1) (ms_bi (ms_bs (ms_rf es cw una nxt high cn e W) rt i)) (nI i) := by
  intro k
  induction k with
  | zero =>
    intro i hi
    have e0 : i = 3 := by omega
    subst e0
    exact pk_le 3 3 (fun _ => hp) (fun z => absurd z (by omega))
  | succ k ih =>
    intro i hi
    have g := ih (i + 1) (by omega)
    obtain ⟨c1, c2, c3, c4, _⟩ := hct i (by omega)
    obtain ⟨_, d2, d3, d4⟩ := hwd i (by omega)
    obtain ⟨k8, _⟩ := hch i (by omega)
    refine pk_le 3 i (fun z => absurd z (by omega)) (fun _ => ms_x_ref (by omega) hW hlp c1 c2 (by omega) d2 k8 ?_)
    have hb := ms_bsb (f := ms_rf es cw una nxt high cn e W) (rt := rt) i
    rw [ms_bs] at g
    generalize ms_bs (ms_rf es cw una nxt high cn e W) rt i = b at g hb ⊢
    by_cases q1 : ms_rf es cw una nxt high cn e W i = 0
    · refine br_t q1 ?_
      by_cases q2 : b = 3
      · rw [if_pos ⟨q1, Or.inl q2⟩] at g
        refine br_t (by rw [q2]; exact if_pos rfl) (nm_r (nI_1 i) ?_)
        unfold ms_bi at g
        rw [if_neg (by omega)] at g
        exact g
      · have hb3 : b < 3 := by omega
        have hb' : ms_bi b = nI b := by unfold ms_bi; rw [if_neg q2]
        obtain ⟨_, _, e3, e4⟩ := hwd b hb3
        rw [hb']
        refine br_f (ms_nm1 (by omega)) ⟨pk_in i 3 (by omega), pk_in b 3 hb3, pk_le (rt b) (rt i) (fun z => ?_) (fun z => ?_) (ms_at (by omega)) (ms_at (by omega))⟩
        · rw [if_neg (by omega), hb'] at g
          exact nm_r (nI_1 i) g
        · rw [if_pos ⟨q1, Or.inr z⟩] at g
          unfold ms_bi at g
          rw [if_neg (by omega)] at g
          exact nm_r (nI_1 i) g
    · rw [if_neg (fun z => q1 z.1)] at g
      exact br_f q1 (nm_r (nI_1 i) g)
theorem ms_x_fe {post : Int32 → Prop} {e : Nat} (hW : W ≤ 256) (hlp : ms_lp pe R W e) (hct : ms_ct h es una nxt high rn) (hwd : ms_wd cw rt) (hch : ms_ch W high cn cs cd cl) (hh : h < 2 ^ 29) (hp : post (ms_bi (ms_bs (ms_rf es cw una nxt high cn e W) rt 3))) : wpX_fastestEligible post (ms_X B W R sent disc st pe he es cw rt una nxt high rn cn cs cd cl rd rl) :=
  ⟨4, ms_x_fel hW hlp hct hwd hch hh hp 3 0 rfl⟩
end
end
section
section
variable {B : Int32} {W R : Nat} {sent disc : Int32} {st pe he es : Nat → Int32} {cw rt una nxt high : Nat → Nat} {rn : Nat → Int32} {cn cs cd cl rd rl : Nat → Nat} {a h c : Nat}
theorem ms_x_quo {post : Int64 → Prop} {x y : Int64} (p q : Nat) (hx : x = lN p) (hy : y = lN q) (hp0 : p < 2 ^ 63) (h0 : 0 < q) (hq : q < 2 ^ 63) (hp : post (lN (p / q))) : wpX_quotient post () x y := by
  subst hx hy
  exact ms_lle 1 q (fun _ => ⟨ms_lne h0 hq, by rw [pk_lDiv hp0 h0 hq]; exact hp⟩) (fun z => absurd z (by omega)) rfl rfl (by decide) hq
theorem ms_SS {S : Nat} (h : S ≤ 147456) : S * S < 2 ^ 63 := Nat.lt_of_le_of_lt (Nat.mul_le_mul h h) (by decide)
theorem ms_rr {r : Nat} (h1 : 1 ≤ r) (h4 : r ≤ 4) : 0 < r * r ∧ r * r < 2 ^ 31 := ⟨Nat.mul_pos h1 h1, Nat.lt_of_le_of_lt (Nat.mul_le_mul h4 h4) (by decide)⟩
theorem ms_M1 {es : Nat → Int32} {cw rt : Nat → Nat} {j : Nat} (h : es j = 1) (c : ms_M es cw rt j < ms_P cw rt j) : ms_M es cw rt (j + 1) = ms_P cw rt j := by rw [ms_M, if_pos h, if_pos c]
theorem ms_M2 {es : Nat → Int32} {cw rt : Nat → Nat} {j : Nat} (h : es j = 1) (c : ¬ ms_M es cw rt j < ms_P cw rt j) : ms_M es cw rt (j + 1) = ms_M es cw rt j := by rw [ms_M, if_pos h, if_neg c]
theorem ms_M3 {es : Nat → Int32} {cw rt : Nat → Nat} {j : Nat} (h : ¬ es j = 1) : ms_M es cw rt (j + 1) = ms_M es cw rt j := by rw [ms_M, if_neg h]
theorem ms_S1 {es : Nat → Int32} {cw rt : Nat → Nat} {j : Nat} (h : es j = 1) : ms_S es cw rt (j + 1) = ms_S es cw rt j + ms_Q cw rt j := by rw [ms_S, if_pos h]
theorem ms_S3 {es : Nat → Int32} {cw rt : Nat → Nat} {j : Nat} (h : ¬ es j = 1) : ms_S es cw rt (j + 1) = ms_S es cw rt j := by rw [ms_S, if_neg h]
theorem ms_x_168 {post : St2 → Prop} {i : Nat} (ha : a < 3) (hc : cw a ≤ 4096) (hi : i ≤ 65536) (hp : post (ms_X B W R sent disc st pe he es (ms_un cw a (if 4096 < cw a + i then 4096 else cw a + i)) rt una nxt high rn cn cs cd cl rd rl)) : wX_increaseCoupled_168 post (nI a) (lN i) B (nI W) (nI R) sent disc st pe he es (ms_im cw) (ms_im rt) (ms_im una) (ms_im nxt) (ms_im high) rn (ms_im cn) (ms_im cs) (ms_im cd) (ms_im cl) (ms_im rd) (ms_im rl) := by
  refine ⟨pk_in a 3 ha, nm_r (e' := lN (cw a + i)) (by rw [ms_at (by omega), nI_l (by omega), lN_add]) ?_⟩
  refine ms_lle (cw a + i) 4096 (fun z => ?_) (fun z => ?_) rfl rfl (by omega) (by decide)
  · rw [if_neg (by omega)] at hp
    exact ⟨pk_in a 3 ha, nm_r (by rw [lN_i]; exact ms_up (by omega)) hp⟩
  · rw [if_pos z] at hp
    exact ⟨pk_in a 3 ha, nm_r (ms_up (v := 4096) (by omega)) hp⟩
theorem ms_x_153 {post : St2 → Prop} {i : Nat} (ha : a < 3) (hc : cw a ≤ 4096) (hi : i ≤ 65536) (hp : post (ms_X B W R sent disc st pe he es (ms_un cw a (if 4096 < cw a + (if i < 1 then 1 else i) then 4096 else cw a + (if i < 1 then 1 else i))) rt una nxt high rn cn cs cd cl rd rl)) : wX_increaseCoupled_153 post (nI a) (lN i) B (nI W) (nI R) sent disc st pe he es (ms_im cw) (ms_im rt) (ms_im una) (ms_im nxt) (ms_im high) rn (ms_im cn) (ms_im cs) (ms_im cd) (ms_im cl) (ms_im rd) (ms_im rl) := by
  refine ms_lle 1 i (fun z => ?_) (fun z => ?_) rfl rfl (by decide) (by omega)
  · rw [if_neg (show ¬ i < 1 by omega)] at hp
    exact ms_x_168 ha hc hi hp
  · rw [if_pos z] at hp
    exact ms_x_168 (i := 1) ha hc (by omega) hp
theorem ms_x_incl {post : St2 → Prop} (ha : a < 3) (hwd : ms_wd cw rt) (hes : es a = 1) (hp : post (ms_X B W R sent disc st pe he es (ms_un cw a (ms_nc (ms_M es cw rt 3) (ms_S es cw rt 3) (cw a))) rt una nxt high rn cn cs cd cl rd rl)) : ∀ k j, j + k = 3 → wX_increaseCoupled_8 post (nI a) B (nI W) (nI R) sent disc st pe he es (ms_im cw) (ms_im rt) (ms_im una) (ms_im nxt) (ms_im high) rn (ms_im cn) (ms_im cs) (ms_im cd) (ms_im cl) (ms_im rd) (ms_im rl) (k + 1) (lN (ms_M es cw rt j)) (lN (ms_S es cw rt j)) (nI j) := by
  obtain ⟨w1, w2, _, _⟩ := hwd a ha
  have hM := ms_Mb (es := es) hwd
  have hS := ms_Sb (es := es) hwd
  intro k
  induction k with
  | zero =>
    intro j hj
    have e3 : j = 3 := by omega
    subst e3
    have m3 := hM 3 (Nat.le_refl 3)
    have s3 := hS 3 (Nat.le_refl 3)
    have p3 := ms_Sp hwd ha hes 3 (Nat.le_refl 3) ha
    generalize ms_M es cw rt 3 = M at m3 hp ⊢
    generalize ms_S es cw rt 3 = S at s3 p3 hp ⊢
    unfold ms_nc ms_i1 ms_in at hp
    have hA : 65536 * M / (S * S) ≤ 65536 * M := Nat.div_le_self _ _
    have hB : 65536 / cw a ≤ 65536 := Nat.div_le_self _ _
    refine pk_le 3 3 (fun _ => ?_) (fun z => absurd z (by omega))
    refine ms_x_quo (65536 * M) (S * S) (lN_mul 65536 M) (lN_mul S S) (by omega) (Nat.mul_pos (by omega) (by omega)) (ms_SS (by omega)) ⟨pk_in a 3 ha, ?_⟩
    refine ms_x_quo 65536 (cw a) rfl (by rw [ms_at (by omega), nI_l (by omega)]) (by decide) (by omega) (by omega) ?_
    generalize 65536 * M / (S * S) = A at hA hp ⊢
    generalize 65536 / cw a = D at hB hp ⊢
    refine ms_lle D A (fun z => ?_) (fun z => ?_) rfl rfl (by omega) (by omega)
    · rw [if_neg (show ¬ A < D by omega)] at hp
      exact ms_x_153 ha w2 hB hp
    · rw [if_pos z] at hp
      exact ms_x_153 ha w2 (by omega) hp
  | succ k ih =>
    intro j hj
    have g := ih (j + 1) (by omega)
    obtain ⟨q1, q2, q3, q4⟩ := hwd j (by omega)
    have mj := hM j (by omega)
    have pj := ms_Pb hwd (j := j) (by omega)
    refine pk_le 3 j (fun z => absurd z (by omega)) (fun _ => ms_x_est (by omega) ?_)
    by_cases c : es j = 1
    · rw [if_pos c]
      rw [ms_S1 c] at g
      refine br_f (by decide) ⟨pk_in j 3 (by omega), pk_in j 3 (by omega), pk_in j 3 (by omega), ?_⟩
      refine ms_x_quo (cw j * 144) (rt j * rt j) (by rw [ms_at (by omega), nI_l (by omega)]; exact lN_mul _ 144) (by rw [ms_at (by omega), pk_mul, nI_l (ms_rr q3 q4).2]) (by omega) (ms_rr q3 q4).1 (Nat.lt_trans (ms_rr q3 q4).2 (by decide)) ⟨pk_in j 3 (by omega), pk_in j 3 (by omega), ?_⟩
      refine ms_x_quo (cw j * 12) (rt j) (by rw [ms_at (by omega), nI_l (by omega)]; exact lN_mul _ 12) (by rw [ms_at (by omega), nI_l (by omega)]) (by omega) (by omega) (by omega) ?_
      refine ms_lle (ms_P cw rt j) (ms_M es cw rt j) (fun z => ?_) (fun z => ?_) rfl rfl (by omega) (by omega)
      · rw [ms_M2 c (by omega)] at g
        exact nm_r (lN_add _ _) (nm_r (nI_1 j) g)
      · rw [ms_M1 c z] at g
        exact nm_r (lN_add _ _) (nm_r (nI_1 j) g)
    · rw [if_neg c]
      rw [ms_S3 c, ms_M3 c] at g
      exact br_t rfl (nm_r (nI_1 j) g)
theorem ms_x_inc {post : St2 → Prop} (ha : a < 3) (hwd : ms_wd cw rt) (hes : es a = 1) (hp : post (ms_X B W R sent disc st pe he es (ms_un cw a (ms_nc (ms_M es cw rt 3) (ms_S es cw rt 3) (cw a))) rt una nxt high rn cn cs cd cl rd rl)) : wpX_increaseCoupled post (ms_X B W R sent disc st pe he es cw rt una nxt high rn cn cs cd cl rd rl) (nI a) :=
  ⟨_, ms_x_incl ha hwd hes hp 3 0 rfl⟩
theorem ms_x_ack {post : St2 → Prop} {b : Nat} (ha : a < 3) (hwd : ms_wd cw rt) (hes : es a = 1) (hrn : rn a = nI b) (hb : b < 2 ^ 30) (hx : nxt a < 2 ^ 30) (hp : ∀ n2 : Nat → Nat, ((nxt a < b ∧ n2 = ms_un nxt a b) ∨ (b ≤ nxt a ∧ n2 = nxt)) → post (ms_X B W R sent disc st pe he es (ms_un cw a (ms_nc (ms_M es cw rt 3) (ms_S es cw rt 3) (cw a))) rt (ms_un una a b) n2 high rn cn cs cd cl rd rl)) : wpX_acknowledge post (ms_X B W R sent disc st pe he es cw rt una nxt high rn cn cs cd cl rd rl) (nI a) := by
  refine ⟨pk_in a 3 ha, pk_in a 3 ha, nm_r (e' := ms_im (ms_un una a b)) (by rw [nI_clamp (show a < 2 ^ 31 by omega), hrn]; exact ms_imu _ _ _) ⟨pk_in a 3 ha, pk_in a 3 ha, ?_⟩⟩
  refine pk_le b (nxt a) (fun z => ms_x_inc ha hwd hes (hp nxt (Or.inr ⟨z, rfl⟩))) (fun z => ⟨pk_in a 3 ha, pk_in a 3 ha, nm_r (by rw [ms_at (by omega), ms_us]; exact ms_up (by omega)) (ms_x_inc ha hwd hes (hp _ (Or.inl ⟨z, rfl⟩)))⟩) (by rw [ms_at (by omega), ms_us]) (ms_at (by omega))
end
end
section
section
variable {B : Int32} {W R : Nat} {sent disc : Int32} {st pe he es : Nat → Int32} {cw rt una nxt high : Nat → Nat} {rn : Nat → Int32} {cn cs cd cl rd rl : Nat → Nat} {a h c : Nat}
/-- the class's deliver: another number -/
theorem ms_x_dn {post : Int32 → St2 → Prop} (ha : a < 3) (h0 : 0 < cn a) (h8 : cn a ≤ 8) (hne : ¬ nI (cs (a * 8)) = rn a) (hp : post 0 (ms_X B W R sent disc st pe he es cw rt una nxt high rn (ms_un cn a (cn a - 1)) (ms_sh cs (a * 8) (a * 8 + (cn a - 1))) (ms_sh cd (a * 8) (a * 8 + (cn a - 1))) (ms_sh cl (a * 8) (a * 8 + (cn a - 1))) rd rl)) : wpX_deliver post (ms_X B W R sent disc st pe he es cw rt una nxt high rn cn cs cd cl rd rl) (nI a) := by
  unfold wpX_deliver
  refine ms_x_sub ha ?_
  refine br_f (by decide) ⟨pk_in a 3 ha, pk_eq (cn a) 0 (fun z => absurd z (by omega)) (fun _ => ?_) (ms_at (by omega))⟩
  refine nm_r (ms_m8 a) ⟨pk_in (a * 8) 24 (by omega), nm_r (ms_at (by omega)) ⟨pk_in (a * 8) 24 (by omega), nm_r (ms_at (by omega)) ⟨pk_in (a * 8) 24 (by omega), nm_r (ms_at (by omega)) ?_⟩⟩⟩
  refine ms_x_pop ha h0 h8 ⟨pk_in a 3 ha, ?_⟩
  rw [nI_clamp (show a < 2 ^ 31 by omega)]
  exact br_f hne hp
/-- the class's deliver: the next number, a failed subflow -/
theorem ms_x_df {post : Int32 → St2 → Prop} {m : Nat} (ha : a < 3) (h0 : 0 < cn a) (h8 : cn a ≤ 8) (heq : nI (cs (a * 8)) = rn a) (hes : ¬ es a = 1) (hd : cd (a * 8) + cl (a * 8) ≤ 256) (hm : ms_px (ms_hd R B (cd (a * 8)) disc he (cl (a * 8))).2 R m) (hp : post (nI m) (ms_X B W (R + m) sent ((ms_hd R B (cd (a * 8)) disc he (cl (a * 8))).1) st (ms_cl pe R (R + m)) (ms_cl (ms_hd R B (cd (a * 8)) disc he (cl (a * 8))).2 R (R + m)) es cw rt una nxt high (upd rn a (rn a + 1)) (ms_un cn a (cn a - 1)) (ms_sh cs (a * 8) (a * 8 + (cn a - 1))) (ms_sh cd (a * 8) (a * 8 + (cn a - 1))) (ms_sh cl (a * 8) (a * 8 + (cn a - 1))) rd rl)) : wpX_deliver post (ms_X B W R sent disc st pe he es cw rt una nxt high rn cn cs cd cl rd rl) (nI a) := by
  unfold wpX_deliver
  refine ms_x_sub ha ?_
  refine br_f (by decide) ⟨pk_in a 3 ha, pk_eq (cn a) 0 (fun z => absurd z (by omega)) (fun _ => ?_) (ms_at (by omega))⟩
  refine nm_r (ms_m8 a) ⟨pk_in (a * 8) 24 (by omega), nm_r (ms_at (by omega)) ⟨pk_in (a * 8) 24 (by omega), nm_r (ms_at (by omega)) ⟨pk_in (a * 8) 24 (by omega), nm_r (ms_at (by omega)) ?_⟩⟩⟩
  refine ms_x_pop ha h0 h8 ⟨pk_in a 3 ha, ?_⟩
  rw [nI_clamp (show a < 2 ^ 31 by omega)]
  refine br_t heq ⟨pk_in a 3 ha, pk_in a 3 ha, nm_e (ms_x_hold hd (ms_x_pre hm (ms_x_est ha ?_)))⟩
  rw [if_neg hes]
  exact br_t rfl hp
/-- the class's deliver: the next number, an established subflow -/
theorem ms_x_de {post : Int32 → St2 → Prop} {m b : Nat} (ha : a < 3) (h0 : 0 < cn a) (h8 : cn a ≤ 8) (heq : nI (cs (a * 8)) = rn a) (hes : es a = 1) (hwd : ms_wd cw rt) (hrn : rn a + 1 = nI b) (hb : b < 2 ^ 30) (hx : nxt a < 2 ^ 30) (hd : cd (a * 8) + cl (a * 8) ≤ 256) (hm : ms_px (ms_hd R B (cd (a * 8)) disc he (cl (a * 8))).2 R m) (hp : ∀ n2 : Nat → Nat, ((nxt a < b ∧ n2 = ms_un nxt a b) ∨ (b ≤ nxt a ∧ n2 = nxt)) → post (nI m) (ms_X B W (R + m) sent ((ms_hd R B (cd (a * 8)) disc he (cl (a * 8))).1) st (ms_cl pe R (R + m)) (ms_cl (ms_hd R B (cd (a * 8)) disc he (cl (a * 8))).2 R (R + m)) es (ms_un cw a (ms_nc (ms_M es cw rt 3) (ms_S es cw rt 3) (cw a))) rt (ms_un una a b) n2 high (upd rn a (rn a + 1)) (ms_un cn a (cn a - 1)) (ms_sh cs (a * 8) (a * 8 + (cn a - 1))) (ms_sh cd (a * 8) (a * 8 + (cn a - 1))) (ms_sh cl (a * 8) (a * 8 + (cn a - 1))) rd rl)) : wpX_deliver post (ms_X B W R sent disc st pe he es cw rt una nxt high rn cn cs cd cl rd rl) (nI a) := by
  unfold wpX_deliver
  refine ms_x_sub ha ?_
  refine br_f (by decide) ⟨pk_in a 3 ha, pk_eq (cn a) 0 (fun z => absurd z (by omega)) (fun _ => ?_) (ms_at (by omega))⟩
  refine nm_r (ms_m8 a) ⟨pk_in (a * 8) 24 (by omega), nm_r (ms_at (by omega)) ⟨pk_in (a * 8) 24 (by omega), nm_r (ms_at (by omega)) ⟨pk_in (a * 8) 24 (by omega), nm_r (ms_at (by omega)) ?_⟩⟩⟩
  refine ms_x_pop ha h0 h8 ⟨pk_in a 3 ha, ?_⟩
  rw [nI_clamp (show a < 2 ^ 31 by omega)]
  refine br_t heq ⟨pk_in a 3 ha, pk_in a 3 ha, nm_e (ms_x_hold hd (ms_x_pre hm (ms_x_est ha ?_)))⟩
  rw [if_pos hes]
  exact br_f (by decide) (ms_x_ack ha hwd hes (by rw [pk_us]; exact hrn) hb hx hp)
theorem ms_x_faill {post : Int32 → St2 → Prop} (ha : a < 3) (hes : es a = 1) (hu : una a ≤ high a) (hh : high a < 2 ^ 30) (hxr : ms_xr W es una high rd rl) (hW : W ≤ 256) (hR : R ≤ 256) (hp : post 1 (ms_X B W R sent disc st (ms_fx pe R rd rl a (una a) (high a - una a)) he (upd es a 2) cw rt una nxt high rn cn cs cd cl rd rl)) : ∀ k j, j + k = high a - una a → wX_fail_24 post (nI a) (k + 1) (nI (una a + j)) B (nI W) (nI R) sent disc st (ms_fx pe R rd rl a (una a) j) he es (ms_im cw) (ms_im rt) (ms_im una) (ms_im nxt) (ms_im high) rn (ms_im cn) (ms_im cs) (ms_im cd) (ms_im cl) (ms_im rd) (ms_im rl) := by
  intro k
  induction k with
  | zero =>
    intro j hj
    have e : j = high a - una a := by omega
    subst e
    exact ⟨pk_in a 3 ha, pk_le (high a) (una a + (high a - una a)) (fun _ => ⟨pk_in a 3 ha, nm_r (ms_cu (by omega)) hp⟩) (fun z => absurd z (by omega)) (ms_at (by omega))⟩
  | succ k ih =>
    intro j hj
    have g := ih (j + 1) (by omega)
    obtain ⟨r1, r2, r3⟩ := hxr a (una a + j) ha hes (by omega) (by omega)
    refine ⟨pk_in a 3 ha, pk_le (high a) (una a + j) (fun z => absurd z (by omega)) (fun _ => ms_x_slot (by omega) ⟨pk_in (a * 8 + (una a + j) % 8) 24 (by omega), pk_in (a * 8 + (una a + j) % 8) 24 (by omega), ?_⟩) (ms_at (by omega))⟩
    rw [ms_at (by omega), ms_at (by omega)]
    exact ms_x_ri (by omega) hR (nm_r (nI_1 (una a + j)) g)
theorem ms_x_fail {post : Int32 → St2 → Prop} (ha : a < 3) (hes : es a = 1) (hu : una a ≤ high a) (hh : high a < 2 ^ 30) (hxr : ms_xr W es una high rd rl) (hW : W ≤ 256) (hR : R ≤ 256) (hp : post 1 (ms_X B W R sent disc st (ms_fx pe R rd rl a (una a) (high a - una a)) he (upd es a 2) cw rt una nxt high rn cn cs cd cl rd rl)) : wpX_fail post (ms_X B W R sent disc st pe he es cw rt una nxt high rn cn cs cd cl rd rl) (nI a) := by
  unfold wpX_fail
  refine ms_x_sub ha ?_
  refine br_f (by decide) ?_
  refine ms_x_est ha ?_
  rw [if_pos hes]
  exact br_f (by decide) ⟨pk_in a 3 ha, nm_r (ms_at (by omega)) ⟨_, ms_x_faill ha hes hu hh hxr hW hR hp (high a - una a) 0 (Nat.zero_add _)⟩⟩
theorem ms_x_refb {post : Int32 → Prop} {x : Int32} (hx : x < 0 ∨ (3 : Int32) ≤ x) (hp : post (-1)) : wpX_refusalOfSend post (ms_X B W R sent disc st pe he es cw rt una nxt high rn cn cs cd cl rd rl) x := by
  unfold wpX_refusalOfSend
  refine ms_x_nsb hx ?_
  exact br_t rfl hp
theorem ms_x_60 {post : Int32 → St2 → Prop} {c : Nat} (ha : a < 3) (hp : post 1 (ms_X B W R sent disc st pe he es (ms_un cw a c) rt una (ms_un nxt a (una a)) high rn cn cs cd cl rd rl)) : wX_timeout_60 post (nI a) (nI c) (nI a) B (nI W) (nI R) sent disc st pe he es (ms_im cw) (ms_im rt) (ms_im una) (ms_im nxt) (ms_im high) rn (ms_im cn) (ms_im cs) (ms_im cd) (ms_im cl) (ms_im rd) (ms_im rl) :=
  ⟨pk_in a 3 ha, nm_r (ms_up (by omega)) ⟨pk_in a 3 ha, pk_in a 3 ha, nm_r (by rw [ms_at (by omega)]; exact ms_up (by omega)) hp⟩⟩
theorem ms_x_to {post : Int32 → St2 → Prop} (ha : a < 3) (hes : es a = 1) (hc : cw a ≤ 4096) (hh : high a < 2 ^ 30) (hu : una a < high a) (hp : post 1 (ms_X B W R sent disc st pe he es (ms_un cw a (if cw a / 2 < 256 then 256 else cw a / 2)) rt una (ms_un nxt a (una a)) high rn cn cs cd cl rd rl)) : wpX_timeout post (ms_X B W R sent disc st pe he es cw rt una nxt high rn cn cs cd cl rd rl) (nI a) := by
  unfold wpX_timeout
  refine ms_x_sub ha ?_
  refine br_f (by decide) ?_
  refine ms_x_est ha ?_
  rw [if_pos hes]
  refine br_f (by decide) ⟨pk_in a 3 ha, pk_in a 3 ha, pk_eq (high a) (una a) (fun z => absurd z (by omega)) (fun _ => ⟨pk_in a 3 ha, by decide, nm_r (e' := nI (cw a / 2)) ?_ ?_⟩) (ms_at (by omega)) (ms_at (by omega))⟩
  · rw [ms_at (by omega)]
    exact pk_div (d := 2) (by omega) (by decide) (by decide)
  · refine pk_le 256 (cw a / 2) (fun z => ?_) (fun z => ?_)
    · rw [if_neg (by omega)] at hp
      exact ms_x_60 ha hp
    · rw [if_pos z] at hp
      exact ms_x_60 ha hp
end
end
section
theorem ms_cpw (P : Int32 → Prop) (x lo hi : Int32) (h : P (ms_cp x lo hi)) : (lo ≤ x → ((x ≤ hi → P x) ∧ (¬ x ≤ hi → P hi))) ∧ (¬ lo ≤ x → P lo) := by
  unfold ms_cp at h
  by_cases c : x < lo
  · rw [if_pos c] at h
    exact br_f (fun z => (Int32.not_le.mpr c) z) h
  · rw [if_neg c] at h
    refine br_t (Int32.not_lt.mp c) ?_
    by_cases c2 : hi < x
    · rw [if_pos c2] at h
      exact br_f (fun z => (Int32.not_le.mpr c2) z) h
    · rw [if_neg c2] at h
      exact br_t (Int32.not_lt.mp c2) h
theorem ms_x_clp {post : Int32 → Prop} {x lo hi : Int32} (hp : post (ms_cp x lo hi)) : wpX_clamp post () x lo hi := ms_cpw post x lo hi hp
def ms_e : Nat → Nat → Int32
  | 0 => ms_im (fun _ => 0)
  | i + 1 => upd (ms_e i) i 1
def ms_c : Nat → Nat → Nat
  | 0 => fun _ => 0
  | i + 1 => ms_un (ms_c i) i 512
theorem ms_z0 (d : Nat) : ms_im (fun _ => 0) d = 0 := nI_0
end
section
def ms_I (h : Nat) (s : Nat → Int32) (W R : Nat) (u : St2) : Prop := ∃ (B sent disc : Int32) (st pe he es : Nat → Int32) (cw rt una nxt high : Nat → Nat) (rn : Nat → Int32) (cn cs cd cl rd rl : Nat → Nat),
  u = (ms_X B W R sent disc st pe he es cw rt una nxt high rn cn cs cd cl rd rl) ∧ ms_fg R W pe he ∧ ms_ct h es una nxt high rn ∧ ms_wd cw rt ∧ ms_ch W high cn cs cd cl ∧ ms_xr W es una high rd rl ∧ (∀ d, d < W → st d = s d)
section
variable {B : Int32} {W R : Nat} {sent disc : Int32} {st pe he es : Nat → Int32} {cw rt una nxt high : Nat → Nat} {rn : Nat → Int32} {cn cs cd cl rd rl : Nat → Nat} {a h : Nat} {s : Nat → Int32} {u : St2}
theorem ms_mI (h1 : ms_fg R W pe he) (h2 : ms_ct h es una nxt high rn) (h3 : ms_wd cw rt) (h4 : ms_ch W high cn cs cd cl) (h5 : ms_xr W es una high rd rl) (h6 : ∀ d, d < W → st d = s d) : ms_I h s W R (ms_X B W R sent disc st pe he es cw rt una nxt high rn cn cs cd cl rd rl) :=
  ⟨B, sent, disc, st, pe, he, es, cw, rt, una, nxt, high, rn, cn, cs, cd, cl, rd, rl, rfl, h1, h2, h3, h4, h5, h6⟩
theorem ms_Iup {h' : Nat} (hh : h ≤ h') (I : ms_I h s W R u) : ms_I h' s W R u := by
  obtain ⟨B, sent, disc, st, pe, he, es, cw, rt, una, nxt, high, rn, cn, cs, cd, cl, rd, rl, rfl, h1, h2, h3, h4, h5, h6⟩ := I
  exact ms_mI h1 (ms_ctH hh h2) h3 h4 h5 h6
theorem ms_IW (I : ms_I h s W R u) : R ≤ W ∧ W ≤ 256 := by
  obtain ⟨B, sent, disc, st, pe, he, es, cw, rt, una, nxt, high, rn, cn, cs, cd, cl, rd, rl, rfl, h1, h2, h3, h4, h5, h6⟩ := I
  exact ⟨h1.1, h1.2.1⟩
theorem ms_xrW {W' : Nat} (hW : W ≤ W') (H : ms_xr W es una high rd rl) : ms_xr W' es una high rd rl := by
  intro a b w1 w2 w3 w4
  obtain ⟨g1, g2, g3⟩ := H a b w1 w2 w3 w4
  exact ⟨g1, g2, by omega⟩
theorem ms_xr_ack (H : ms_xr W es una high rd rl) : ms_xr W es (ms_un una a (una a + 1)) high rd rl := by
  intro i b w1 w2 w3 w4
  refine H i b w1 w2 ?_ w4
  by_cases e : i = a
  · subst e
    rw [ms_us] at w3
    omega
  · rw [ms_uo e] at w3
    exact w3
theorem ms_xr_es {z : Int32} (hz : z ≠ 1) (H : ms_xr W es una high rd rl) : ms_xr W (upd es a z) una high rd rl := by
  intro i b w1 w2 w3 w4
  refine H i b w1 ?_ w3 w4
  by_cases e : i = a
  · subst e
    rw [pk_us] at w2
    exact absurd w2 hz
  · rw [pk_un e] at w2
    exact w2
theorem ms_xr_new (H : ms_xr W es una high rd rl) (hr : high a < una a + 8) {d l : Nat} (hl1 : 1 ≤ l) (hl4 : l ≤ 4) (hW : d + l ≤ W) : ms_xr W es una (ms_un high a (high a + 1)) (ms_un rd (a * 8 + high a % 8) d) (ms_un rl (a * 8 + high a % 8) l) := by
  intro i b w1 w2 w3 w4
  by_cases e : i = a ∧ b = high a
  · obtain ⟨q1, q2⟩ := e
    subst q1 q2
    rw [ms_us, ms_us]
    exact ⟨hl1, hl4, hW⟩
  · have w4' : b < high i := by
      by_cases ea : i = a
      · subst ea
        rw [ms_us] at w4
        have : b ≠ high i := fun eb => e ⟨rfl, eb⟩
        omega
      · rw [ms_uo ea] at w4
        exact w4
    have hk : i * 8 + b % 8 ≠ a * 8 + high a % 8 := by
      apply ms_slot
      rintro ⟨q1, q2⟩
      rw [q1] at w3 w4'
      omega
    rw [ms_uo hk, ms_uo hk]
    exact H i b w1 w2 w3 w4'
theorem ms_l_write {post : Int32 → St2 → Prop} {b : Int32} (I : ms_I h s W R u) (hs : W < 256 → b &&& 255 = s W) (hp : ∀ (r : Int32) (W' : Nat) (u' : St2), ms_I h s W' R u' → post r u') : wpX_write post u b := by
  have I0 := I
  obtain ⟨B, sent, disc, st, pe, he, es, cw, rt, una, nxt, high, rn, cn, cs, cd, cl, rd, rl, rfl, h1, h2, h3, h4, h5, h6⟩ := I
  have hW := h1.2.1
  refine pk_eq W 256 (fun z => hp _ _ _ I0) (fun z => ?_)
  by_cases c : nI W - nI R = B
  · exact br_t c (hp _ _ _ I0)
  · refine br_f c ⟨pk_in W 256 (by omega), nm_r (e' := upd st W (b &&& 255)) (ms_cu (by omega)) ⟨pk_in W 256 (by omega), nm_r (e' := upd pe W 1) (ms_cu (by omega)) (nm_r (nI_1 W) ?_)⟩⟩
    refine hp _ (W + 1) _ (ms_mI (ms_k_write h1 (by omega)) h2 h3 (ms_chW (by omega) (fun _ _ => Nat.le_refl _) h4) (ms_xrW (by omega) h5) (fun d hd => ?_))
    by_cases e : d = W
    · subst e
      rw [pk_us]
      exact hs (by omega)
    · rw [pk_un e]
      exact h6 d (by omega)
theorem ms_l_next {post : Int32 → St2 → Prop} {e : Nat} (ha : a < 3) (h1 : ms_fg R W pe he) (h2 : ms_ct h es una nxt high rn) (h3 : ms_wd cw rt) (h4 : ms_ch W high cn cs cd cl) (h5 : ms_xr W es una high rd rl) (h6 : ∀ d, d < W → st d = s d) (hh : h < 2 ^ 29) (hlp : ms_lp pe R W e) (h0 : ms_rf es cw una nxt high cn e W a = 0) (hp : ∀ (r : Int32) (u' : St2), ms_I (h + 1) s W R u' → post r u') : wpX_sendNext post (ms_X B W R sent disc st pe he es cw rt una nxt high rn cn cs cd cl rd rl) (nI a) := by
  obtain ⟨es1, w1, n8, enW⟩ := ms_rf0 h0
  obtain ⟨c1, c2, c3, c4, _⟩ := h2 a ha
  obtain ⟨k8, _⟩ := h4 a ha
  have f2 := h1.2.1
  have w8 := ms_wib (cw a)
  by_cases hx : nxt a = high a
  · have hl2 := hlp.2.1
    have heW : e < W := by
      have := enW hx
      omega
    obtain ⟨l, hl⟩ := ms_lnE pe (W := W) (d := e) hl2
    have l1 := ms_ln1 hl heW (hlp.2.2.2 heW)
    exact ms_x_next2 ha (by omega) hx (by omega) f2 hlp hl (hp _ _ (ms_mI (ms_k_cl h1 _ _) (ms_k_new h2 hx (by omega)) h3 (ms_ch_push (ms_chW (Nat.le_refl _) (ms_k_le a) h4) ha (by omega) (by rw [ms_us]; omega) hl.2.1) (ms_xr_new h5 (by omega) l1 hl.1 hl.2.1) h6))
  · have hlt : nxt a < high a := by omega
    obtain ⟨r1, r2, r3⟩ := h5 a (nxt a) ha es1 c1 hlt
    exact ms_x_next1 ha (by omega) (by omega) hx (by omega) (hp _ _ (ms_mI h1 (ms_ctH (by omega) (ms_k_send h2 hlt)) h3 (ms_ch_push h4 ha (by omega) hlt r3) h5 h6))
theorem ms_l_send {post : Int32 → St2 → Prop} (I : ms_I h s W R u) (hh : h < 2 ^ 29) (x : Int32) (hp : ∀ (r : Int32) (u' : St2), ms_I (h + 1) s W R u' → post r u') : wpX_send post u x := by
  have I0 : ms_I (h + 1) s W R u := ms_Iup (by omega) I
  obtain ⟨B, sent, disc, st, pe, he, es, cw, rt, una, nxt, high, rn, cn, cs, cd, cl, rd, rl, rfl, h1, h2, h3, h4, h5, h6⟩ := I
  rcases ms_bd x with hb | ⟨a, ha, rfl⟩
  · unfold wpX_send
    refine ms_x_refb hb ?_
    exact br_f (by decide) (hp _ _ I0)
  · obtain ⟨e, hlp⟩ := ms_lpE pe h1.1
    obtain ⟨c1, c2, c3, c4, _⟩ := h2 a ha
    obtain ⟨_, d2, _, _⟩ := h3 a ha
    obtain ⟨k8, _⟩ := h4 a ha
    unfold wpX_send
    refine ms_x_ref ha h1.2.1 hlp c1 c2 (by omega) d2 k8 ?_
    by_cases h0 : ms_rf es cw una nxt high cn e W a = 0
    · refine br_t h0 (ms_l_next ha h1 h2 h3 h4 h5 h6 hh hlp h0 (fun r u' J => ?_))
      have J2 := J
      obtain ⟨_, _, _, _, _, _, _, _, _, _, _, _, _, _, _, _, _, _, _, rfl, _⟩ := J
      exact hp r _ J2
    · exact br_f h0 (hp _ _ I0)
end
def ms_lX (post : Int32 → St2 → Prop) (n : Nat) (x : Int32) (u : St2) : Prop := match u with
  | (q0, q1, q2, q3, q4, q5, q6, q7, q8, q9, q10, q11, q12, q13, q14, q15, q16, q17, q18, q19, q20) => wX_sendAll_2 post n x q0 q1 q2 q3 q4 q5 q6 q7 q8 q9 q10 q11 q12 q13 q14 q15 q16 q17 q18 q19 q20
theorem ms_bi3 : ms_bi 3 = -1 := if_pos rfl
theorem ms_bin {b : Nat} (h : b < 3) : ms_bi b = nI b := if_neg (by omega)
theorem ms_l_all {post : Int32 → St2 → Prop} {s : Nat → Int32} {W R : Nat} : ∀ (m c h : Nat) (u : St2), c + m = 24 → h + m < 2 ^ 29 → ms_I h s W R u → (∀ (r : Int32) (u' : St2), ms_I (h + m) s W R u' → post r u') → ms_lX post (m + 1) (nI c) u := by
  intro m
  induction m with
  | zero =>
    intro c h u hc hh I hp
    have e24 : c = 24 := by omega
    subst e24
    have I0 := I
    obtain ⟨B, sent, disc, st, pe, he, es, cw, rt, una, nxt, high, rn, cn, cs, cd, cl, rd, rl, rfl, h1, h2, h3, h4, h5, h6⟩ := I
    exact pk_le 24 24 (fun _ => hp _ _ I0) (fun z => absurd z (by omega))
  | succ m ih =>
    intro c h u hc hh I hp
    have I0 : ms_I (h + (m + 1)) s W R u := ms_Iup (by omega) I
    obtain ⟨B, sent, disc, st, pe, he, es, cw, rt, una, nxt, high, rn, cn, cs, cd, cl, rd, rl, rfl, h1, h2, h3, h4, h5, h6⟩ := I
    obtain ⟨e, hlp⟩ := ms_lpE pe h1.1
    refine pk_le 24 c (fun z => absurd z (by omega)) (fun _ => ms_x_fe h1.2.1 hlp h2 h3 h4 (by omega) ?_)
    rcases ms_bsb (f := ms_rf es cw una nxt high cn e W) (rt := rt) 3 with hb | ⟨hb, h0⟩
    · rw [hb, ms_bi3]
      exact br_t rfl (hp _ _ I0)
    · rw [ms_bin hb]
      refine br_f (ms_nm1 (by omega)) (ms_l_next hb h1 h2 h3 h4 h5 h6 (by omega) hlp h0 (fun r u' J => ?_))
      have g := ih (c + 1) (h + 1) u' (by omega) (by omega) J (fun r2 u2 J2 => hp r2 u2 (by rw [show h + (m + 1) = h + 1 + m by omega]; exact J2))
      obtain ⟨_, _, _, _, _, _, _, _, _, _, _, _, _, _, _, _, _, _, _, rfl, _⟩ := J
      exact nm_r (nI_1 c) g
theorem ms_l_sendAll {post : Int32 → St2 → Prop} {s : Nat → Int32} {W R h : Nat} {u : St2} (I : ms_I h s W R u) (hh : h + 24 < 2 ^ 29) (hp : ∀ (r : Int32) (u' : St2), ms_I (h + 24) s W R u' → post r u') : wpX_sendAll post u := by
  have g := ms_l_all 24 0 h u rfl hh I hp
  obtain ⟨B, sent, disc, st, pe, he, es, cw, rt, una, nxt, high, rn, cn, cs, cd, cl, rd, rl, rfl, h1, h2, h3, h4, h5, h6⟩ := I
  rw [nI_0] at g
  unfold ms_lX at g
  exact ⟨25, g⟩
end
section
section
variable {B : Int32} {W R : Nat} {sent disc : Int32} {st pe he es : Nat → Int32} {cw rt una nxt high : Nat → Nat} {rn : Nat → Int32} {cn cs cd cl rd rl : Nat → Nat} {a h : Nat} {s : Nat → Int32} {u : St2}
theorem ms_l_drop {post : Int32 → St2 → Prop} (I : ms_I h s W R u) (x : Int32) (hp : ∀ (r : Int32) (u' : St2), ms_I h s W R u' → post r u') : wpX_drop post u x := by
  have I0 := I
  obtain ⟨B, sent, disc, st, pe, he, es, cw, rt, una, nxt, high, rn, cn, cs, cd, cl, rd, rl, rfl, h1, h2, h3, h4, h5, h6⟩ := I
  unfold wpX_drop
  rcases ms_bd x with hb | ⟨a, ha, rfl⟩
  · refine ms_x_nsb hb ?_
    exact br_t rfl (hp _ _ I0)
  · obtain ⟨k8, _⟩ := h4 a ha
    refine ms_x_sub ha ?_
    refine br_f (by decide) ⟨pk_in a 3 ha, pk_eq (cn a) 0 (fun z => hp _ _ I0) (fun z => ?_) (ms_at (by omega))⟩
    exact ms_x_pop ha (by omega) k8 (hp _ _ (ms_mI h1 h2 h3 (ms_ch_pop h4 ha (by omega)) h5 h6))
theorem ms_l_dup {post : Int32 → St2 → Prop} (I : ms_I h s W R u) (x : Int32) (hp : ∀ (r : Int32) (u' : St2), ms_I h s W R u' → post r u') : wpX_duplicate post u x := by
  have I0 := I
  obtain ⟨B, sent, disc, st, pe, he, es, cw, rt, una, nxt, high, rn, cn, cs, cd, cl, rd, rl, rfl, h1, h2, h3, h4, h5, h6⟩ := I
  unfold wpX_duplicate
  rcases ms_bd x with hb | ⟨a, ha, rfl⟩
  · refine ms_x_nsb hb ?_
    exact br_t rfl (hp _ _ I0)
  · obtain ⟨k8, hs⟩ := h4 a ha
    refine ms_x_sub ha ?_
    refine br_f (by decide) ⟨pk_in a 3 ha, pk_eq (cn a) 0 (fun z => hp _ _ I0) (fun z => ⟨pk_in a 3 ha, pk_eq (cn a) 8 (fun z2 => hp _ _ I0) (fun z2 => ?_) (ms_at (by omega))⟩) (ms_at (by omega))⟩
    have h0 := hs 0 (by omega)
    rw [Nat.add_zero (a * 8)] at h0
    refine nm_r (ms_m8 a) ⟨pk_in (a * 8) 24 (by omega), pk_in (a * 8) 24 (by omega), pk_in (a * 8) 24 (by omega), ?_⟩
    rw [ms_at (by omega), ms_at (by omega), ms_at (by omega)]
    exact ms_x_app ha (by omega) (hp _ _ (ms_mI h1 h2 h3 (ms_ch_push h4 ha (by omega) h0.1 h0.2) h5 h6))
theorem ms_l_to {post : Int32 → St2 → Prop} (I : ms_I h s W R u) (hh : h < 2 ^ 29) (x : Int32) (hp : ∀ (r : Int32) (u' : St2), ms_I h s W R u' → post r u') : wpX_timeout post u x := by
  have I0 := I
  obtain ⟨B, sent, disc, st, pe, he, es, cw, rt, una, nxt, high, rn, cn, cs, cd, cl, rd, rl, rfl, h1, h2, h3, h4, h5, h6⟩ := I
  rcases ms_bd x with hb | ⟨a, ha, rfl⟩
  · unfold wpX_timeout
    refine ms_x_nsb hb ?_
    exact br_t rfl (hp _ _ I0)
  · obtain ⟨c1, c2, c3, c4, _⟩ := h2 a ha
    obtain ⟨d1, d2, _, _⟩ := h3 a ha
    by_cases hes : es a = 1
    · by_cases hu : high a = una a
      · unfold wpX_timeout
        refine ms_x_sub ha ?_
        refine br_f (by decide) ?_
        refine ms_x_est ha ?_
        rw [if_pos hes]
        exact br_f (by decide) ⟨pk_in a 3 ha, pk_in a 3 ha, pk_eq (high a) (una a) (fun _ => hp _ _ I0) (fun z => absurd hu z) (ms_at (by omega)) (ms_at (by omega))⟩
      · have hb : 256 ≤ (if cw a / 2 < 256 then 256 else cw a / 2) ∧ (if cw a / 2 < 256 then 256 else cw a / 2) ≤ 4096 := by split <;> omega
        exact ms_x_to ha hes d2 (by omega) (by omega) (hp _ _ (ms_mI h1 (ms_k_to h2) (ms_k_wd h3 hb.1 hb.2) h4 h5 h6))
    · unfold wpX_timeout
      refine ms_x_sub ha ?_
      refine br_f (by decide) ?_
      refine ms_x_est ha ?_
      rw [if_neg hes]
      exact br_t rfl (hp _ _ I0)
theorem ms_l_fail {post : Int32 → St2 → Prop} (I : ms_I h s W R u) (hh : h < 2 ^ 29) (x : Int32) (hp : ∀ (r : Int32) (u' : St2), ms_I h s W R u' → post r u') : wpX_fail post u x := by
  have I0 := I
  obtain ⟨B, sent, disc, st, pe, he, es, cw, rt, una, nxt, high, rn, cn, cs, cd, cl, rd, rl, rfl, h1, h2, h3, h4, h5, h6⟩ := I
  rcases ms_bd x with hb | ⟨a, ha, rfl⟩
  · unfold wpX_fail
    refine ms_x_nsb hb ?_
    exact br_t rfl (hp _ _ I0)
  · obtain ⟨c1, c2, c3, c4, _⟩ := h2 a ha
    have hW := h1.2.1
    have hR := h1.1
    by_cases hes : es a = 1
    · refine ms_x_fail ha hes (by omega) (by omega) h5 hW (by omega) (hp _ _ (ms_mI (ms_k_pt h1 (ms_fxp pe R rd rl a (una a) (high a - una a)) ?_) (ms_k_es (by decide) h2) h3 h4 (ms_xr_es (by decide) h5) h6))
      rintro d ⟨q, q1, q2, q3, q4, q5⟩
      obtain ⟨r1, r2, r3⟩ := h5 a q ha hes q1 (by omega)
      exact ⟨q3, by omega⟩
    · unfold wpX_fail
      refine ms_x_sub ha ?_
      refine br_f (by decide) ?_
      refine ms_x_est ha ?_
      rw [if_neg hes]
      exact br_t rfl (hp _ _ I0)
theorem ms_l_del {post : Int32 → St2 → Prop} (I : ms_I h s W R u) (hh : h < 2 ^ 29) (x : Int32) (hp : ∀ (r : Int32) (m : Nat) (u' : St2), ms_I h s W (R + m) u' → (r < 0 ∨ r = nI m) → post r u') : wpX_deliver post u x := by
  have I0 := I
  obtain ⟨B, sent, disc, st, pe, he, es, cw, rt, una, nxt, high, rn, cn, cs, cd, cl, rd, rl, rfl, h1, h2, h3, h4, h5, h6⟩ := I
  rcases ms_bd x with hb | ⟨a, ha, rfl⟩
  · unfold wpX_deliver
    refine ms_x_nsb hb ?_
    exact br_t rfl (hp _ 0 _ I0 (Or.inl (by decide)))
  · obtain ⟨k8, hsg⟩ := h4 a ha
    by_cases hc0 : cn a = 0
    · unfold wpX_deliver
      refine ms_x_sub ha ?_
      exact br_f (by decide) ⟨pk_in a 3 ha, pk_eq (cn a) 0 (fun _ => hp _ 0 _ I0 (Or.inl (by decide))) (fun z => absurd hc0 z) (ms_at (by omega))⟩
    · have h0 := hsg 0 (by omega)
      rw [Nat.add_zero (a * 8)] at h0
      have hch := ms_ch_pop h4 ha (by omega)
      have hW := h1.2.1
      have hRW := h1.1
      obtain ⟨c1, c2, c3, c4, c5⟩ := h2 a ha
      have hd : cd (a * 8) + cl (a * 8) ≤ 256 := by omega
      by_cases hs : nI (cs (a * 8)) = rn a
      · obtain ⟨m, hm⟩ := ms_pxE (ms_hd R B (cd (a * 8)) disc he (cl (a * 8))).2 (R := R) (by omega)
        have hw := ms_hdW (R := R) (B := B) (d := cd (a * 8)) (q := disc) (p := he) h1.2.2.2 (cl (a * 8)) h0.2
        have hfg := ms_k_pf h1 hw hm
        by_cases hes : es a = 1
        · have rn1 := c5 hes
          have ern : rn a + 1 = nI (una a + 1) := by rw [rn1, nI_1]
          have su : cs (a * 8) = una a := by
            rw [rn1] at hs
            exact (nI_eq (by omega) (by omega)).mp hs
          refine ms_x_de (b := una a + 1) ha (by omega) k8 hs hes h3 ern (by omega) (by omega) hd hm (fun n2 hn2 => ?_)
          rw [ern]
          have hnc := ms_ncb (M := ms_M es cw rt 3) (S := ms_S es cw rt 3) (h3 a ha).1 (h3 a ha).2.1
          exact hp _ m _ (ms_mI hfg (ms_k_ack h2 (by omega) hn2) (ms_k_wd h3 hnc.1 hnc.2) hch (ms_xr_ack h5) h6) (Or.inr rfl)
        · exact ms_x_df ha (by omega) k8 hs hes hd hm (hp _ m _ (ms_mI hfg (ms_k_rn h2 hes) h3 hch h5 h6) (Or.inr rfl))
      · exact ms_x_dn ha (by omega) k8 hs (hp _ 0 _ (ms_mI h1 h2 h3 hch h5 h6) (Or.inr rfl))
theorem ms_l_conn2 {post : Int32 → Prop} (I : ms_I h s W R u) (hp : post (nI R)) : wpX_conn post u 2 := by
  obtain ⟨B, sent, disc, st, pe, he, es, cw, rt, una, nxt, high, rn, cn, cs, cd, cl, rd, rl, rfl, h1, h2, h3, h4, h5, h6⟩ := I
  exact br_f (by decide) (br_f (by decide) (br_f (by decide) (br_f (by decide) (br_t rfl hp))))
theorem ms_l_conn0 {post : Int32 → Prop} (I : ms_I h s W R u) (hp : post (nI W)) : wpX_conn post u 0 := by
  obtain ⟨B, sent, disc, st, pe, he, es, cw, rt, una, nxt, high, rn, cn, cs, cd, cl, rd, rl, rfl, h1, h2, h3, h4, h5, h6⟩ := I
  exact br_f (by decide) (br_f (by decide) (br_t rfl hp))
theorem ms_l_off1 {post : Int32 → Prop} {k : Nat} (I : ms_I h s W R u) (hk : k < R) (hp : post (s k)) : wpX_offset post u (nI k) 1 := by
  obtain ⟨B, sent, disc, st, pe, he, es, cw, rt, una, nxt, high, rn, cn, cs, cd, cl, rd, rl, rfl, h1, h2, h3, h4, h5, h6⟩ := I
  have hW := h1.2.1
  have hR := h1.1
  refine br_f (nI_pos (by omega)) (pk_lt k 256 (fun _ => br_f (by decide) (br_f (by decide) (br_f (by decide) (br_t rfl (pk_le R k (fun z => absurd z (by omega)) (fun _ => ⟨pk_in k 256 (by omega), ?_⟩)))))) (fun z => absurd z (by omega)))
  rw [nI_clamp (show k < 2 ^ 31 by omega), h6 k (by omega)]
  exact hp
theorem ms_l_off0 {post : Int32 → Prop} {k : Nat} (I : ms_I h s W R u) (hk : k < W) (hp : post (s k)) : wpX_offset post u (nI k) 0 := by
  obtain ⟨B, sent, disc, st, pe, he, es, cw, rt, una, nxt, high, rn, cn, cs, cd, cl, rd, rl, rfl, h1, h2, h3, h4, h5, h6⟩ := I
  have hW := h1.2.1
  refine br_f (nI_pos (by omega)) (pk_lt k 256 (fun _ => br_f (by decide) (br_f (by decide) (br_t rfl (pk_le W k (fun z => absurd z (by omega)) (fun _ => ⟨pk_in k 256 (by omega), ?_⟩))))) (fun z => absurd z (by omega)))
  rw [nI_clamp (show k < 2 ^ 31 by omega), h6 k hk]
  exact hp
end
end
section
/-- the byte that belongs to an offset -/
def ms_bt (seed x : Int32) : Int32 := (((x * 131) + (seed * 7)) + (((x.toUInt32 >>> ((3 : Int32).toUInt32 &&& Int32.toUInt32 31)).toInt32) * (seed ||| 1))) &&& 255
theorem ms_byte {post : Int32 → Prop} {seed x : Int32} (hp : post (ms_bt seed x)) : wpL_byteAt post () x seed := hp
theorem ms_orb (y x : Int32) : ((y &&& 255) ||| (x <<< ((8 : Int32) &&& 31))) &&& 255 = y &&& 255 := by
  have h := pk_and ((y &&& 255) ||| (x <<< ((8 : Int32) &&& 31))) (m := 255) 8 (by decide)
  have h2 := pk_and y (m := 255) 8 (by decide)
  have h3 := pk_shl x ((8 : Int32) &&& 31) 8 (by decide)
  have e : ((y &&& 255) ||| (x <<< ((8 : Int32) &&& 31))).toBitVec.toNat % 2 ^ 8 = y.toBitVec.toNat % 2 ^ 8 := by
    rw [Int32.toBitVec_or, BitVec.toNat_or, Nat.or_mod_two_pow, h3, h2, pk_tn (by omega)]
    have z : x.toBitVec.toNat * 2 ^ 8 % 2 ^ 32 % 2 ^ 8 = 0 := by omega
    rw [z, Nat.or_zero]
    omega
  rw [h, e, h2]
theorem ms_cell {post : Int32 → Prop} {xs : Nat → Int32} {L : Nat} {p : Int32} (k : Nat) (e : p = nI k) (hk : k < 2 ^ 31) (hL : L < 2 ^ 31) (hp : ∀ y, post y) : wpL_cell post L xs () p := by
  subst e
  exact pk_le L k (fun _ => hp _) (fun z => ⟨pk_in k L z, hp _⟩)
theorem ms_pick {post : Int32 → Prop} {p : Int32} (hp : ∀ y, post y) : wpL_pickSf post () p :=
  nm_e (br_c (fun _ => hp _) (fun _ => ⟨by decide, hp _⟩))
def ms_s (seed : Int32) : Nat → Int32 := fun d => ms_bt seed (nI d)
def ms_J (J : Int32 → Int32 → Int32 → Int32 → Int32 → Int32 → (Nat → Int32) → (Nat → Int32) → (Nat → Int32) → (Nat → Int32) → (Nat → Int32) → (Nat → Int32) → (Nat → Int32) → (Nat → Int32) → (Nat → Int32) → (Nat → Int32) → (Nat → Int32) → (Nat → Int32) → (Nat → Int32) → (Nat → Int32) → (Nat → Int32) → (Nat → Int32) → Prop) (x : Int32) (u : St2) : Prop := match u with
  | (q0, q1, q2, q3, q4, q5, q6, q7, q8, q9, q10, q11, q12, q13, q14, q15, q16, q17, q18, q19, q20) => J x q0 q1 q2 q3 q4 q5 q6 q7 q8 q9 q10 q11 q12 q13 q14 q15 q16 q17 q18 q19 q20
section
variable {B : Int32} {W R : Nat} {sent disc : Int32} {st pe he es : Nat → Int32} {cw rt una nxt high : Nat → Nat} {rn : Nat → Int32} {cn cs cd cl rd rl : Nat → Nat} {a h : Nat} {s : Nat → Int32} {u : St2} {post : Int32 → Prop} {L : Nat} {xs : Nat → Int32} {J : Int32 → Int32 → Int32 → Int32 → Int32 → Int32 → (Nat → Int32) → (Nat → Int32) → (Nat → Int32) → (Nat → Int32) → (Nat → Int32) → (Nat → Int32) → (Nat → Int32) → (Nat → Int32) → (Nat → Int32) → (Nat → Int32) → (Nat → Int32) → (Nat → Int32) → (Nat → Int32) → (Nat → Int32) → (Nat → Int32) → (Nat → Int32) → Prop} {seed x3 x4 x5 x6 x7 : Int32} {kc ks : Nat}
theorem ms_w389 (I : ms_I h (ms_s seed) W R (ms_X B W R sent disc st pe he es cw rt una nxt high rn cn cs cd cl rd rl)) (HJ : J (x5 + 1) B (nI W) (nI R) sent disc st pe he es (ms_im cw) (ms_im rt) (ms_im una) (ms_im nxt) (ms_im high) rn (ms_im cn) (ms_im cs) (ms_im cd) (ms_im cl) (ms_im rd) (ms_im rl)) : ∀ m k, k + m = R → wL_law_389 post L xs J seed x3 x4 x5 (nI R) kc ks B (nI W) (nI R) sent disc st pe he es (ms_im cw) (ms_im rt) (ms_im una) (ms_im nxt) (ms_im high) rn (ms_im cn) (ms_im cs) (ms_im cd) (ms_im cl) (ms_im rd) (ms_im rl) (m + 1) (nI k) := by
  have hw := ms_IW I
  intro m
  induction m with
  | zero =>
    intro k hk
    have e : k = R := by omega
    subst e
    exact pk_le 256 k (fun _ => nm_e HJ) (fun _ => pk_le k k (fun _ => nm_e HJ) (fun z => absurd z (by omega)))
  | succ m ih =>
    intro k hk
    have g := ih (k + 1) (by omega)
    refine pk_le 256 k (fun z => absurd z (by omega)) (fun _ => pk_le R k (fun z => absurd z (by omega)) (fun _ => ?_))
    refine ms_byte ?_
    refine ms_l_off1 I (by omega) ?_
    refine br_t rfl ?_
    refine ms_l_off0 I (by omega) ?_
    exact br_t rfl (nm_r (nI_1 k) g)
theorem ms_w313 {R0 : Nat} {x10 x11 : Int32} (I : ms_I h (ms_s seed) W R (ms_X B W R sent disc st pe he es cw rt una nxt high rn cn cs cd cl rd rl)) (hle : R0 ≤ R) (hx : (x10 = 0 ∧ R = R0) ∨ (x10 = 1 ∧ (x11 < 0 ∨ x11 = nI (R - R0)))) (HJ : J (x5 + 1) B (nI W) (nI R) sent disc st pe he es (ms_im cw) (ms_im rt) (ms_im una) (ms_im nxt) (ms_im high) rn (ms_im cn) (ms_im cs) (ms_im cd) (ms_im cl) (ms_im rd) (ms_im rl)) : wL_law_313 post L xs J seed x3 x4 x5 (nI R0) x10 x11 kc ks B (nI W) (nI R) sent disc st pe he es (ms_im cw) (ms_im rt) (ms_im una) (ms_im nxt) (ms_im high) rn (ms_im cn) (ms_im cs) (ms_im cd) (ms_im cl) (ms_im rd) (ms_im rl) := by
  have hw := ms_IW I
  have K : ∃ n, wL_law_389 post L xs J seed x3 x4 x5 (nI R) kc ks B (nI W) (nI R) sent disc st pe he es (ms_im cw) (ms_im rt) (ms_im una) (ms_im nxt) (ms_im high) rn (ms_im cn) (ms_im cs) (ms_im cd) (ms_im cl) (ms_im rd) (ms_im rl) n 0 := ⟨_, ms_w389 I HJ R 0 (Nat.zero_add R)⟩
  unfold wL_law_313
  refine ms_l_conn2 I ?_
  refine ms_l_conn0 I ?_
  refine pk_le R0 R (fun _ => pk_le R W (fun _ => pk_le R 256 (fun _ => ?_) (fun z => absurd z (by omega))) (fun z => absurd z (by omega))) (fun z => absurd z (by omega))
  rcases hx with ⟨e1, e⟩ | ⟨e1, hx⟩
  · exact br_t e1 (pk_eq R R0 (fun _ => K) (fun z => absurd e z))
  · refine br_f (by rw [e1]; decide) ?_
    by_cases c : x11 < 0
    · exact br_t c K
    · rcases hx with hx | hx
      · exact absurd hx c
      · exact br_f c (br_t (by rw [hx, pk_sub hle]) K)
theorem ms_w132 (I : ms_I h (ms_s seed) W R (ms_X B W R sent disc st pe he es cw rt una nxt high rn cn cs cd cl rd rl)) (hh : h + 24 < 2 ^ 29) (HH : ∀ (W' R' : Nat) (u' : St2), ms_I (h + 24) (ms_s seed) W' R' u' → ms_J J (x5 + 1) u') : wL_law_132 post L xs J seed x3 x4 x5 x6 x7 kc ks B (nI W) (nI R) sent disc st pe he es (ms_im cw) (ms_im rt) (ms_im una) (ms_im nxt) (ms_im high) rn (ms_im cn) (ms_im cs) (ms_im cd) (ms_im cl) (ms_im rd) (ms_im rl) := by
  have hw := ms_IW I
  unfold wL_law_132
  refine ms_pick (fun sf => ?_)
  refine ms_l_conn2 I ?_
  refine br_c (fun _ => br_c (fun _ => br_c (fun _ => ?_) (fun _ => br_c (fun _ => br_c (fun _ => ?_) (fun _ => br_c (fun _ => ?_) (fun _ => br_c (fun _ => ?_) (fun _ => br_c (fun _ => ?_) (fun _ => ?_))))) (fun _ => ?_))) (fun _ => ?_)) (fun _ => ?_)
  · refine ms_l_sendAll I hh (fun r u' J' => ?_)
    have HJ := HH _ _ _ (ms_Iup (by omega) J')
    have J2 := J'
    obtain ⟨_, _, _, _, _, _, _, _, _, _, _, _, _, _, _, _, _, _, _, rfl, _⟩ := J'
    exact ms_w313 J2 (Nat.le_refl R) (Or.inl ⟨rfl, rfl⟩) HJ
  · refine ms_l_drop I _ (fun r u' J' => ?_)
    have HJ := HH _ _ _ (ms_Iup (by omega) J')
    have J2 := J'
    obtain ⟨_, _, _, _, _, _, _, _, _, _, _, _, _, _, _, _, _, _, _, rfl, _⟩ := J'
    exact ms_w313 J2 (Nat.le_refl R) (Or.inl ⟨rfl, rfl⟩) HJ
  · refine ms_l_dup I _ (fun r u' J' => ?_)
    have HJ := HH _ _ _ (ms_Iup (by omega) J')
    have J2 := J'
    obtain ⟨_, _, _, _, _, _, _, _, _, _, _, _, _, _, _, _, _, _, _, rfl, _⟩ := J'
    exact ms_w313 J2 (Nat.le_refl R) (Or.inl ⟨rfl, rfl⟩) HJ
  · refine ms_l_to I (by omega) _ (fun r u' J' => ?_)
    have HJ := HH _ _ _ (ms_Iup (by omega) J')
    have J2 := J'
    obtain ⟨_, _, _, _, _, _, _, _, _, _, _, _, _, _, _, _, _, _, _, rfl, _⟩ := J'
    exact ms_w313 J2 (Nat.le_refl R) (Or.inl ⟨rfl, rfl⟩) HJ
  · refine ms_l_fail I (by omega) _ (fun r u' J' => ?_)
    have HJ := HH _ _ _ (ms_Iup (by omega) J')
    have J2 := J'
    obtain ⟨_, _, _, _, _, _, _, _, _, _, _, _, _, _, _, _, _, _, _, rfl, _⟩ := J'
    exact ms_w313 J2 (Nat.le_refl R) (Or.inl ⟨rfl, rfl⟩) HJ
  · refine ms_l_sendAll I hh (fun r u' J' => ?_)
    have HJ := HH _ _ _ (ms_Iup (by omega) J')
    have J2 := J'
    obtain ⟨_, _, _, _, _, _, _, _, _, _, _, _, _, _, _, _, _, _, _, rfl, _⟩ := J'
    exact ms_w313 J2 (Nat.le_refl R) (Or.inl ⟨rfl, rfl⟩) HJ
  · refine ms_l_del I (by omega) _ (fun r m u' J' hr => ?_)
    have HJ := HH _ _ _ (ms_Iup (by omega) J')
    have J2 := J'
    obtain ⟨_, _, _, _, _, _, _, _, _, _, _, _, _, _, _, _, _, _, _, rfl, _⟩ := J'
    refine ms_w313 J2 (Nat.le_add_right R m) (Or.inr ⟨rfl, ?_⟩) HJ
    rw [Nat.add_sub_cancel_left]
    exact hr
  · refine ms_l_send I (by omega) _ (fun r u' J' => ?_)
    have HJ := HH _ _ _ (ms_Iup (by omega) J')
    have J2 := J'
    obtain ⟨_, _, _, _, _, _, _, _, _, _, _, _, _, _, _, _, _, _, _, rfl, _⟩ := J'
    exact ms_w313 J2 (Nat.le_refl R) (Or.inl ⟨rfl, rfl⟩) HJ
  · refine ms_l_conn0 I ?_
    refine ms_byte ?_
    refine ms_l_write I (fun _ => ms_orb _ _) (fun r W' u' J' => ?_)
    have HJ := HH _ _ _ (ms_Iup (by omega) J')
    have J2 := J'
    obtain ⟨_, _, _, _, _, _, _, _, _, _, _, _, _, _, _, _, _, _, _, rfl, _⟩ := J'
    exact ms_w313 J2 (Nat.le_refl R) (Or.inl ⟨rfl, rfl⟩) HJ
end
end
section
def ms_l60 (post : Int32 → Prop) (L : Nat) (xs : Nat → Int32) (seed x3 x4 : Int32) (kc ks n : Nat) (x : Int32) (u : St2) : Prop := match u with
  | (q0, q1, q2, q3, q4, q5, q6, q7, q8, q9, q10, q11, q12, q13, q14, q15, q16, q17, q18, q19, q20) => wL_law_60 post L xs seed x3 x4 kc ks n x q0 q1 q2 q3 q4 q5 q6 q7 q8 q9 q10 q11 q12 q13 q14 q15 q16 q17 q18 q19 q20
theorem ms_w60 {post : Int32 → Prop} {L : Nat} {xs : Nat → Int32} {seed : Int32} {ns T kc ks : Nat} (hL : L ≤ 260) (hns : ns ≤ 128) (hT : T ≤ 192) (hp : post 1) : ∀ (m t W R : Nat) (u : St2), t + m = T → ms_I (24 * t) (ms_s seed) W R u → ms_l60 post L xs seed (nI ns) (nI T) kc ks (m + 1) (nI t) u := by
  intro m
  induction m with
  | zero =>
    intro t W R u ht I
    have e : t = T := by omega
    subst e
    obtain ⟨B, sent, disc, st, pe, he, es, cw, rt, una, nxt, high, rn, cn, cs, cd, cl, rd, rl, rfl, h1, h2, h3, h4, h5, h6⟩ := I
    exact pk_le t t (fun _ => hp) (fun z => absurd z (by omega))
  | succ m ih =>
    intro t W R u ht I
    have I0 := I
    have HH : ∀ (W' R' : Nat) (u' : St2), ms_I (24 * t + 24) (ms_s seed) W' R' u' → ms_J (wL_law_60 post L xs seed (nI ns) (nI T) kc ks (m + 1)) (nI t + 1) u' := by
      intro W' R' u' J
      have g := ih (t + 1) W' R' u' (by omega) (ms_Iup (by omega) J)
      obtain ⟨_, _, _, _, _, _, _, _, _, _, _, _, _, _, _, _, _, _, _, rfl, _⟩ := J
      rw [nI_1]
      exact g
    obtain ⟨B, sent, disc, st, pe, he, es, cw, rt, una, nxt, high, rn, cn, cs, cd, cl, rd, rl, rfl, h1, h2, h3, h4, h5, h6⟩ := I
    have e5 : 5 + 2 * nI t = nI (5 + 2 * t) := by
      show nI 5 + nI 2 * nI t = _
      rw [pk_mul, nI_add]
    have e6 : 6 + 2 * nI t = nI (6 + 2 * t) := by
      show nI 6 + nI 2 * nI t = _
      rw [pk_mul, nI_add]
    refine pk_le T t (fun z => absurd z (by omega)) (fun _ => pk_le ns t (fun _ => ⟨by decide, fun x8 _ => br_c (fun _ => ?_) (fun _ => ?_)⟩) (fun _ => ?_))
    · exact fun x7 _ => ms_w132 I0 (by omega) HH
    · exact fun x7 _ => ms_w132 I0 (by omega) HH
    · refine ms_cell (5 + 2 * t) e5 (by omega) (by omega) (fun y => ?_)
      intro x6 _
      refine ms_cell (6 + 2 * t) e6 (by omega) (by omega) (fun y2 => ?_)
      exact ms_w132 I0 (by omega) HH
section
variable {f0 f1 f2 f3 f4 : Int32} {g0 g1 g2 g5 g6 g7 g8 g9 g10 g11 g12 g13 g14 g15 : Nat → Int32} {mc ms kc ks : Nat}
theorem ms_x_in {post : St2 → Prop} (hp : post (f0, f1, f2, f3, f4, g0, g1, g2, ms_e 3, ms_im (ms_c 3), g5, g6, g7, g8, g9, g10, g11, g12, g13, g14, g15)) : ∀ k i, i + k = 3 → wX_init_199 post mc ms kc ks f0 f1 f2 f3 f4 (k + 1) (nI i) g0 g1 g2 (ms_e i) (ms_im (ms_c i)) g5 g6 g7 g8 g9 g10 g11 g12 g13 g14 g15 := by
  intro k
  induction k with
  | zero =>
    intro i hi
    have e : i = 3 := by omega
    subst e
    exact pk_le 3 3 (fun _ => hp) (fun z => absurd z (by omega))
  | succ k ih =>
    intro i hi
    have g := ih (i + 1) (by omega)
    exact pk_le 3 i (fun z => absurd z (by omega)) (fun _ => ⟨pk_in i 3 (by omega), nm_r (e' := ms_e (i + 1)) (ms_cu (by omega)) ⟨pk_in i 3 (by omega), nm_r (e' := ms_im (ms_c (i + 1))) (ms_up (v := 512) (by omega)) (nm_r (nI_1 i) g)⟩⟩)
end
theorem ms_I0 {r0 r1 r2 : Nat} {b : Int32} {s : Nat → Int32} (a0 : 1 ≤ r0 ∧ r0 ≤ 4) (a1 : 1 ≤ r1 ∧ r1 ≤ 4) (a2 : 1 ≤ r2 ∧ r2 ≤ 4) :
    ms_I 0 s 0 0 (ms_X b 0 0 0 0 (ms_im (fun _ => 0)) (ms_im (fun _ => 0)) (ms_im (fun _ => 0)) (ms_e 3) (ms_c 3) (ms_un (ms_un (ms_un (fun _ => 0) 0 r0) 1 r1) 2 r2) (fun _ => 0) (fun _ => 0) (fun _ => 0) (ms_im (fun _ => 0)) (fun _ => 0) (fun _ => 0) (fun _ => 0) (fun _ => 0) (fun _ => 0) (fun _ => 0)) := by
  refine ms_mI ⟨Nat.le_refl 0, by omega, fun d hd => absurd (ms_z0 d) hd, fun d hd => absurd (ms_z0 d) hd⟩ ?_ ?_ ?_ ?_ (fun d hd => absurd hd (Nat.not_lt_zero d))
  · intro i hi
    exact ⟨Nat.le_refl 0, Nat.le_refl 0, Nat.zero_le _, Nat.le_refl 0, fun _ => rfl⟩
  · intro i hi
    have h3 : i = 0 ∨ i = 1 ∨ i = 2 := by omega
    rcases h3 with rfl | rfl | rfl
    · exact ⟨by decide, by decide, a0⟩
    · exact ⟨by decide, by decide, a1⟩
    · exact ⟨by decide, by decide, a2⟩
  · intro i hi
    exact ⟨Nat.zero_le 8, fun j hj => absurd hj (Nat.not_lt_zero j)⟩
  · intro a b _ _ _ hb
    exact absurd hb (Nat.not_lt_zero b)
theorem ms_init {post : St2 → Prop} (k0 k1 k2 k3 : Int32) (hp : ∀ u : St2, (∀ s : Nat → Int32, ms_I 0 s 0 0 u) → post u) : wpX_init post 16 912 (0, 0, 0, 0, 0) k0 k1 k2 k3 := by
  obtain ⟨r0, p0, q0, e0⟩ := ms_cpr k1
  obtain ⟨r1, p1, q1, e1⟩ := ms_cpr k2
  obtain ⟨r2, p2, q2, e2⟩ := ms_cpr k3
  have R0 := hp _ (fun s => ms_I0 (b := ms_cp k0 8 32) (s := s) ⟨p0, q0⟩ ⟨p1, q1⟩ ⟨p2, q2⟩)
  unfold wpX_init
  refine ⟨by decide, by decide, by decide, by decide, by decide, by decide, by decide, by decide, by decide, by decide, by decide, by decide, by decide, by decide, by decide, by decide, by decide, by decide, by decide, by decide, by decide, by decide, by decide, by decide, by decide, by decide, by decide, by decide, by decide, by decide, by decide, by decide, ?_⟩
  refine ms_x_clp ?_
  refine ms_x_clp ?_
  rw [e0]
  refine nm_r (e' := ms_im (ms_un (fun _ => 0) 0 r0)) (ms_imu (fun _ => 0) 0 r0) ?_
  refine ms_x_clp ?_
  rw [e1]
  refine nm_r (ms_imu _ _ _) ?_
  refine ms_x_clp ?_
  rw [e2]
  exact nm_r (ms_imu _ _ _) ⟨4, ms_x_in R0 3 0 rfl⟩
end
section
theorem i_vc (xs : Nat → Int32) (L : Nat) (hL : L ≤ 260) : wpL_law (fun r => r = 1) L xs := by
  unfold wpL_law
  refine ms_cell 0 rfl (by decide) (by omega) (fun c0 => ?_)
  refine ms_cell 1 rfl (by decide) (by omega) (fun c1 => ?_)
  refine ms_cell 2 rfl (by decide) (by omega) (fun c2 => ?_)
  refine ms_cell 3 rfl (by decide) (by omega) (fun c3 => ?_)
  refine ⟨16, 912, by decide, by decide, ms_init c0 c1 c2 c3 (fun u I => ?_)⟩
  have J := I (ms_s 0)
  obtain ⟨_, _, _, _, _, _, _, _, _, _, _, _, _, _, _, _, _, _, _, rfl, _⟩ := J
  refine ms_cell 4 rfl (by decide) (by omega) (fun seed => ?_)
  refine pk_le L 5 (fun _ => ?_) (fun z => ⟨by decide, ?_⟩)
  · have g := ms_w60 (post := fun r => r = 1) (L := L) (xs := xs) (seed := seed) (ns := 0) (T := 64) (kc := 1 + 16) (ks := 21 + 912) hL (by omega) (by omega) rfl 64 0 0 0 _ rfl (I (ms_s seed))
    rw [nI_0] at g
    exact nm_r (e' := nI 64) (by decide) ⟨65, g⟩
  · have e3 : (nI L - 4) / 2 = nI ((L - 4) / 2) := by
      show (nI L - nI 4) / nI 2 = _
      rw [pk_sub (by omega), pk_div (by omega) (by decide) (by decide)]
    have g := ms_w60 (post := fun r => r = 1) (L := L) (xs := xs) (seed := seed) (ns := (L - 4) / 2) (T := (L - 4) / 2 + 64) (kc := 1 + 16) (ks := 21 + 912) hL (by omega) (by omega) rfl ((L - 4) / 2 + 64) 0 0 0 _ (Nat.zero_add _) (I (ms_s seed))
    rw [nI_0] at g
    exact nm_r e3 (nm_r (e' := nI ((L - 4) / 2 + 64)) (nI_add _ 64) ⟨_, g⟩)
end
