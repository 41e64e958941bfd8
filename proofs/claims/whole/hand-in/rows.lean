section
theorem pk_us {f : Nat → Int32} {k : Nat} {x : Int32} : upd f k x k = x := if_pos rfl
theorem pk_un {f : Nat → Int32} {k j : Nat} {x : Int32} (h : j ≠ k) : upd f k x j = f j := if_neg h
theorem pk_sub {a b : Nat} (h : b ≤ a) : nI a - nI b = nI (a - b) := by
  obtain ⟨c, rfl⟩ : ∃ c, a = c + b := ⟨a - b, by omega⟩
  rw [← nI_add, Int32.add_sub_cancel, Nat.add_sub_cancel]
theorem pk_m1 (n : Nat) : nI (n + 1) + (-1) = nI n := by
  rw [← nI_1, Int32.add_assoc, show (1 : Int32) + (-1) = 0 from rfl, Int32.add_zero]
theorem pk_mul (a b : Nat) : nI a * nI b = nI (a * b) := (Int32.ofNat_mul a b).symm
theorem pk_div {a d : Nat} (ha : a < 2 ^ 31) (h0 : 0 < d) (hd : d < 2 ^ 31) : nI a / nI d = nI (a / d) := by
  apply Int32.toInt_inj.mp
  rw [lg_idiv_nonneg (by rw [nI_toInt ha]; omega) (by rw [nI_toInt hd]; omega), nI_toInt ha, nI_toInt hd, nI_toInt (Nat.lt_of_le_of_lt (Nat.div_le_self a d) ha)]
  first | rfl | exact (Int.natCast_ediv _ _).symm
theorem pk_rem {a d : Nat} (ha : a < 2 ^ 31) (h0 : 0 < d) (hd : d < 2 ^ 31) : nI a - nI a / nI d * nI d = nI (a % d) := by
  rw [pk_div ha h0 hd, pk_mul, pk_sub (Nat.div_mul_le_self a d)]
  exact congrArg nI (by have := Nat.div_add_mod' a d; omega)
theorem pk_sub_toInt {a b : Nat} (ha : a < 2 ^ 30) (hb : b < 2 ^ 30) : (nI a - nI b).toInt = (a : Int) - b := by
  rw [Int32.toInt_sub, nI_toInt (by omega), nI_toInt (by omega)]
  exact Int.bmod_eq_of_le (by omega) (by omega)
theorem pk_sneg {a b : Nat} (hb : b < 2 ^ 30) (h : a < b) : nI a - nI b < 0 := by
  rw [Int32.lt_iff_toInt_lt, pk_sub_toInt (by omega) hb, show (0 : Int32).toInt = 0 from by decide]
  omega
theorem pk_ix (x : Int32) {n : Nat} (hn : n < 2 ^ 31) : x < 0 ∨ nI n ≤ x ∨ ∃ j : Nat, j < n ∧ x = nI j := by
  by_cases h : x < 0
  · exact Or.inl h
  · obtain ⟨j, hj, rfl⟩ := nI_of h
    by_cases h2 : j < n
    · exact Or.inr (Or.inr ⟨j, h2, rfl⟩)
    · exact Or.inr (Or.inl (nI_le (by omega) hj))
theorem pk_le {x y : Int32} {A B : Prop} (a b : Nat) (f : a ≤ b → A) (g : b < a → B) (hx : x = nI a := by rfl) (hy : y = nI b := by rfl) (ha : a < 2 ^ 31 := by omega) (hb : b < 2 ^ 31 := by omega) : (x ≤ y → A) ∧ (¬ x ≤ y → B) := by
  subst hx hy
  rw [nI_leI ha hb]
  exact ⟨f, fun z => g (by omega)⟩
theorem pk_lt {x y : Int32} {A B : Prop} (a b : Nat) (f : a < b → A) (g : b ≤ a → B) (hx : x = nI a := by rfl) (hy : y = nI b := by rfl) (ha : a < 2 ^ 31 := by omega) (hb : b < 2 ^ 31 := by omega) : (x < y → A) ∧ (¬ x < y → B) := by
  subst hx hy
  rw [nI_ltI ha hb]
  exact ⟨f, fun z => g (by omega)⟩
theorem pk_eq {x y : Int32} {A B : Prop} (a b : Nat) (f : a = b → A) (g : a ≠ b → B) (hx : x = nI a := by rfl) (hy : y = nI b := by rfl) (ha : a < 2 ^ 31 := by omega) (hb : b < 2 ^ 31 := by omega) : (x = y → A) ∧ (¬ x = y → B) := by
  subst hx hy
  rw [nI_eq ha hb]
  exact ⟨f, g⟩
theorem pk_in {x : Int32} (n N : Nat) (h : n < N) (hx : x = nI n := by rfl) (hN : N < 2 ^ 31 := by omega) : vp_in x N := by
  subst hx
  exact vp_in_nI h hN
theorem pk_cl {x : Int32} (n : Nat) (hx : x = nI n := by rfl) (h : n < 2 ^ 31 := by omega) : x.toNatClampNeg = n := by
  subst hx
  exact nI_clamp h
theorem pk_lT {n : Nat} (h : n < 2 ^ 63) : (lN n).toInt = (n : Int) := lg_ofNat_toInt h
theorem pk_lLT {a b : Nat} (ha : a < 2 ^ 63) (hb : b < 2 ^ 63) : lN a < lN b ↔ a < b := by
  rw [Int64.lt_iff_toInt_lt, pk_lT ha, pk_lT hb]; omega
theorem pk_lLE {a b : Nat} (ha : a < 2 ^ 63) (hb : b < 2 ^ 63) : lN a ≤ lN b ↔ a ≤ b := by
  rw [Int64.le_iff_toInt_le, pk_lT ha, pk_lT hb]; omega
theorem pk_lEQ {a b : Nat} (ha : a < 2 ^ 63) (hb : b < 2 ^ 63) : lN a = lN b ↔ a = b := by
  rw [← Int64.toInt_inj, pk_lT ha, pk_lT hb]; omega
theorem pk_lOf {x : Int64} (h : ¬ x < 0) : ∃ k : Nat, k < 2 ^ 63 ∧ x = lN k := by
  rw [Int64.lt_iff_toInt_lt] at h
  have h0 : (0 : Int64).toInt = 0 := by decide
  have hx := Int64.toInt_lt x
  refine ⟨x.toInt.toNat, by omega, Int64.toInt_inj.mp ?_⟩
  rw [pk_lT (by omega)]
  omega
theorem pk_lDiv {a b : Nat} (ha : a < 2 ^ 63) (h0 : 0 < b) (hb : b < 2 ^ 63) : lN a / lN b = lN (a / b) := by
  apply Int64.toInt_inj.mp
  rw [lg_ldiv_nonneg (by rw [pk_lT ha]; omega) (by rw [pk_lT hb]; omega), pk_lT ha, pk_lT hb, pk_lT (Nat.lt_of_le_of_lt (Nat.div_le_self a b) ha)]
  rfl
theorem pk_loop {σ : Type} (W : Nat → Nat → σ → Prop) (I : Nat → σ → Prop) (e i0 : Nat) (s : σ) (hi : i0 ≤ e) (h0 : I i0 s) (hx : ∀ n s, I e s → W (n + 1) e s)
    (hs : ∀ n i s, i < e → I i s → (∀ s', I (i + 1) s' → W n (i + 1) s') → W (n + 1) i s) : ∃ n, W n i0 s :=
  ⟨e + 1, loop_i W I e hx hs (e + 1) i0 s hi (by omega) h0⟩
theorem pk_loopD {σ : Type} (W : Nat → Nat → σ → Prop) (I : Nat → σ → Prop) (hx : ∀ n s, I 0 s → W (n + 1) 0 s)
    (hs : ∀ n i s, I (i + 1) s → (∀ s', I i s' → W n i s') → W (n + 1) (i + 1) s) : ∀ (e : Nat) (s : σ), I e s → W (e + 1) e s := by
  intro e
  induction e with
  | zero => exact fun s h => hx 0 s h
  | succ e ih => exact fun s h => hs (e + 1) e s h (fun s' h' => ih s' h')
theorem sb_m1 {p : Nat} (h : 0 < p) : nI p + (-1) = nI (p - 1) := by
  obtain ⟨q, rfl⟩ : ∃ q, p = q + 1 := ⟨p - 1, by omega⟩
  exact pk_m1 q
end
section
/-- an array of naturals as the class keeps it -/
def ms_im (f : Nat → Nat) : Nat → Int32 := fun i => nI (f i)
/-- one cell of an array of naturals -/
def ms_un (f : Nat → Nat) (k v : Nat) : Nat → Nat := fun i => if i = k then v else f i
theorem ms_us {f : Nat → Nat} {k v : Nat} : ms_un f k v k = v := by simp [ms_un]
theorem ms_uo {f : Nat → Nat} {k v j : Nat} (h : j ≠ k) : ms_un f k v j = f j := by simp [ms_un, h]
theorem ms_imu (f : Nat → Nat) (k v : Nat) : upd (ms_im f) k (nI v) = ms_im (ms_un f k v) := by
  funext j
  unfold upd ms_im ms_un
  by_cases h : j = k
  · simp [h]
  · simp [h]
theorem ms_im0 : (fun _ => 0 : Nat → Int32) = ms_im (fun _ => 0) := rfl
/-- flags cleared from a up to b -/
def ms_cl (p : Nat → Int32) (a b : Nat) : Nat → Int32 := fun j => if a ≤ j ∧ j < b then 0 else p j
theorem ms_cl0 (p : Nat → Int32) (a : Nat) : ms_cl p a a = p := by
  funext j
  unfold ms_cl
  have h : ¬ (a ≤ j ∧ j < a) := by omega
  simp [h]
theorem ms_clS (p : Nat → Int32) {a b : Nat} (h : a ≤ b) : upd (ms_cl p a b) b 0 = ms_cl p a (b + 1) := by
  funext j
  unfold upd ms_cl
  by_cases e : j = b
  · have h1 : a ≤ j ∧ j < b + 1 := by omega
    simp [e, h]
  · by_cases c : a ≤ j ∧ j < b
    · have h1 : a ≤ j ∧ j < b + 1 := by omega
      simp [e, c, h1]
    · have h1 : ¬ (a ≤ j ∧ j < b + 1) := by omega
      simp only [e, c, h1, if_false]
theorem ms_cli {p : Nat → Int32} {a b j : Nat} (h : a ≤ j) (h2 : j < b) : ms_cl p a b j = 0 := by
  unfold ms_cl
  simp [h, h2]
theorem ms_clo {p : Nat → Int32} {a b j : Nat} (h : ¬ (a ≤ j ∧ j < b)) : ms_cl p a b j = p j := by
  unfold ms_cl
  simp only [h, if_false]
/-- cells a up to b moved down by one -/
def ms_sh (f : Nat → Nat) (a b : Nat) : Nat → Nat := fun j => if a ≤ j ∧ j < b then f (j + 1) else f j
theorem ms_sh0 (f : Nat → Nat) (a : Nat) : ms_sh f a a = f := by
  funext j
  unfold ms_sh
  have h : ¬ (a ≤ j ∧ j < a) := by omega
  simp only [h, if_false]
theorem ms_shi {f : Nat → Nat} {a b j : Nat} (h : a ≤ j) (h2 : j < b) : ms_sh f a b j = f (j + 1) := by
  unfold ms_sh
  simp [h, h2]
theorem ms_sho {f : Nat → Nat} {a b j : Nat} (h : ¬ (a ≤ j ∧ j < b)) : ms_sh f a b j = f j := by
  unfold ms_sh
  simp only [h, if_false]
theorem ms_shS (f : Nat → Nat) {a b : Nat} (h : a ≤ b) : ms_un (ms_sh f a b) b (ms_sh f a b (b + 1)) = ms_sh f a (b + 1) := by
  funext j
  unfold ms_un
  by_cases e : j = b
  · subst e
    rw [if_pos rfl, ms_sho (by omega), ms_shi h (by omega)]
  · rw [if_neg e]
    by_cases c : a ≤ j ∧ j < b
    · rw [ms_shi c.1 c.2, ms_shi c.1 (by omega)]
    · rw [ms_sho c, ms_sho (by omega)]
/-- an injection of N places into M places -/
theorem ms_pig : ∀ (M N : Nat) (f : Nat → Nat), (∀ j, j < N → f j < M) → (∀ i j, i < N → j < N → f i = f j → i = j) → N ≤ M := by
  intro M
  induction M with
  | zero =>
    intro N f hb _
    cases N with
    | zero => exact Nat.le_refl 0
    | succ N => exact absurd (hb 0 (by omega)) (by omega)
  | succ M ih =>
    intro N f hb hi
    by_cases h : ∃ j, j < N ∧ f j = M
    · obtain ⟨j0, hj0, e0⟩ := h
      have hN : N - 1 ≤ M := by
        refine ih (N - 1) (fun j => f (if j < j0 then j else j + 1)) ?_ ?_
        · intro j hj
          have h1 : (if j < j0 then j else j + 1) < N := by split <;> omega
          have h2 := hb _ h1
          have h3 : f (if j < j0 then j else j + 1) ≠ M := by
            intro e
            have := hi _ _ h1 hj0 (e.trans e0.symm)
            split at this <;> omega
          show f (if j < j0 then j else j + 1) < M
          omega
        · intro i j hi' hj' e
          have h1 : (if i < j0 then i else i + 1) < N := by split <;> omega
          have h2 : (if j < j0 then j else j + 1) < N := by split <;> omega
          have := hi _ _ h1 h2 e
          split at this <;> split at this <;> omega
      omega
    · have : N ≤ M := by
        refine ih N f ?_ hi
        intro j hj
        have h1 := hb j hj
        have h2 : f j ≠ M := fun e => h ⟨j, hj, e⟩
        omega
      omega
end
section
/-- the reference's list of records holds this row -/
def ms_row (N : Nat) (sf ss ds le : Nat → Nat) (a b c d : Nat) : Prop := ∃ j, j < N ∧ sf j = a ∧ ss j = b ∧ ds j = c ∧ le j = d
/-- no two rows speak of the same segment -/
def ms_uq (N : Nat) (sf ss : Nat → Nat) : Prop := ∀ i j, i < N → j < N → sf i = sf j → ss i = ss j → i = j
/-- the list and the ring hold the same records -/
def ms_rc (W : Nat) (es : Nat → Int32) (una high rd rl : Nat → Nat) (N : Nat) (sf ss ds le : Nat → Nat) : Prop :=
  N ≤ 24 ∧ ms_uq N sf ss ∧
  (∀ a b c d, ms_row N sf ss ds le a b c d → a < 3 ∧ es a = 1 ∧ una a ≤ b ∧ b < high a ∧ c = rd (a * 8 + b % 8) ∧ d = rl (a * 8 + b % 8)) ∧
  (∀ a b, a < 3 → es a = 1 → una a ≤ b → b < high a → ms_row N sf ss ds le a b (rd (a * 8 + b % 8)) (rl (a * 8 + b % 8)) ∧ 1 ≤ rl (a * 8 + b % 8) ∧ rl (a * 8 + b % 8) ≤ 4 ∧ rd (a * 8 + b % 8) + rl (a * 8 + b % 8) ≤ W)
theorem ms_rcW {W W' : Nat} {es : Nat → Int32} {una high rd rl : Nat → Nat} {N : Nat} {sf ss ds le : Nat → Nat} (hW : W ≤ W') (h : ms_rc W es una high rd rl N sf ss ds le) : ms_rc W' es una high rd rl N sf ss ds le := by
  obtain ⟨h1, h2, h3, h4⟩ := h
  refine ⟨h1, h2, h3, fun a b ha he hu hh => ?_⟩
  obtain ⟨g1, g2, g3, g4⟩ := h4 a b ha he hu hh
  exact ⟨g1, g2, g3, Nat.le_trans g4 hW⟩
theorem ms_row_un {N : Nat} {sf ss ds le : Nat → Nat} {x y z w a b c d : Nat} : ms_row (N + 1) (ms_un sf N x) (ms_un ss N y) (ms_un ds N z) (ms_un le N w) a b c d ↔ (ms_row N sf ss ds le a b c d ∨ (x = a ∧ y = b ∧ z = c ∧ w = d)) := by
  constructor
  · rintro ⟨j, hj, h1, h2, h3, h4⟩
    by_cases e : j = N
    · subst e
      rw [ms_us] at h1 h2 h3 h4
      exact Or.inr ⟨h1, h2, h3, h4⟩
    · rw [ms_uo e] at h1 h2 h3 h4
      exact Or.inl ⟨j, by omega, h1, h2, h3, h4⟩
  · rintro (⟨j, hj, h1, h2, h3, h4⟩ | ⟨h1, h2, h3, h4⟩)
    · have e : j ≠ N := by omega
      exact ⟨j, by omega, by rw [ms_uo e]; exact h1, by rw [ms_uo e]; exact h2, by rw [ms_uo e]; exact h3, by rw [ms_uo e]; exact h4⟩
    · exact ⟨N, by omega, by rw [ms_us]; exact h1, by rw [ms_us]; exact h2, by rw [ms_us]; exact h3, by rw [ms_us]; exact h4⟩
/-- two slots of the ring differ -/
theorem ms_slot {a b a0 b0 : Nat} (h : ¬ (a = a0 ∧ b % 8 = b0 % 8)) : a * 8 + b % 8 ≠ a0 * 8 + b0 % 8 := by
  intro e
  apply h
  omega
/-- a list that agrees with the ring has room where a window has room -/
theorem ms_room {W : Nat} {es : Nat → Int32} {una high rd rl : Nat → Nat} {N : Nat} {sf ss ds le : Nat → Nat} (h : ms_rc W es una high rd rl N sf ss ds le) (hc : ∀ i, i < 3 → una i ≤ high i ∧ high i ≤ una i + 8) {a0 : Nat} (ha : a0 < 3) (hr : high a0 < una a0 + 8) : N + 1 ≤ 24 := by
  obtain ⟨_, hu, h3, _⟩ := h
  have g : ∀ j, j < N → sf j < 3 ∧ una (sf j) ≤ ss j ∧ ss j < high (sf j) := by
    intro j hj
    obtain ⟨q1, _, q3, q4, _, _⟩ := h3 _ _ _ _ ⟨j, hj, rfl, rfl, rfl, rfl⟩
    exact ⟨q1, q3, q4⟩
  refine ms_pig 24 (N + 1) (fun j => if j < N then sf j * 8 + ss j % 8 else a0 * 8 + high a0 % 8) ?_ ?_
  · intro j hj
    show (if j < N then sf j * 8 + ss j % 8 else a0 * 8 + high a0 % 8) < 24
    split
    · rename_i hjN
      have := (g j hjN).1
      omega
    · omega
  · intro i j hi hj e
    have e' : (if i < N then sf i * 8 + ss i % 8 else a0 * 8 + high a0 % 8) = (if j < N then sf j * 8 + ss j % 8 else a0 * 8 + high a0 % 8) := e
    have key : ∀ m, m < N → sf m * 8 + ss m % 8 ≠ a0 * 8 + high a0 % 8 := by
      intro m hm
      apply ms_slot
      rintro ⟨q1, q2⟩
      obtain ⟨_, w2, w3⟩ := g m hm
      rw [q1] at w2 w3
      omega
    by_cases ci : i < N
    · rw [if_pos ci] at e'
      by_cases cj : j < N
      · rw [if_pos cj] at e'
        have gi := g i ci
        have gj := g j cj
        have s1 : sf i = sf j := by omega
        have s2 : ss i % 8 = ss j % 8 := by omega
        rw [s1] at gi
        have hcj := hc (sf j) gj.1
        exact hu i j ci cj s1 (by omega)
      · rw [if_neg cj] at e'
        exact absurd e' (key i ci)
    · rw [if_neg ci] at e'
      by_cases cj : j < N
      · rw [if_pos cj] at e'
        exact absurd e'.symm (key j cj)
      · omega
/-- a new record -/
theorem ms_rc_new {W : Nat} {es : Nat → Int32} {una high rd rl : Nat → Nat} {N : Nat} {sf ss ds le : Nat → Nat} (h : ms_rc W es una high rd rl N sf ss ds le) (hc : ∀ i, i < 3 → una i ≤ high i ∧ high i ≤ una i + 8) {a0 : Nat} (ha : a0 < 3) (he : es a0 = 1) (hr : high a0 < una a0 + 8) {d l : Nat} (hl1 : 1 ≤ l) (hl4 : l ≤ 4) (hW : d + l ≤ W) :
    ms_rc W es una (ms_un high a0 (high a0 + 1)) (ms_un rd (a0 * 8 + high a0 % 8) d) (ms_un rl (a0 * 8 + high a0 % 8) l) (N + 1) (ms_un sf N a0) (ms_un ss N (high a0)) (ms_un ds N d) (ms_un le N l) := by
  have hroom := ms_room h hc ha hr
  obtain ⟨_, hu, h3, h4⟩ := h
  have key : ∀ a b, a < 3 → una a ≤ b → b < high a → a * 8 + b % 8 ≠ a0 * 8 + high a0 % 8 := by
    intro a b _ w2 w3
    apply ms_slot
    rintro ⟨q1, q2⟩
    rw [q1] at w2 w3
    omega
  refine ⟨hroom, ?_, ?_, ?_⟩
  · intro i j hi hj e1 e2
    have g : ∀ m, m < N → ¬ (sf m = a0 ∧ ss m = high a0) := by
      rintro m hm ⟨q1, q2⟩
      obtain ⟨_, _, _, w4, _, _⟩ := h3 _ _ _ _ ⟨m, hm, rfl, rfl, rfl, rfl⟩
      rw [q1, q2] at w4
      omega
    by_cases ci : i = N
    · by_cases cj : j = N
      · omega
      · rw [ci, ms_us, ms_uo cj] at e1 e2
        exact absurd ⟨e1.symm, e2.symm⟩ (g j (by omega))
    · by_cases cj : j = N
      · rw [cj, ms_us, ms_uo ci] at e1 e2
        exact absurd ⟨e1, e2⟩ (g i (by omega))
      · rw [ms_uo ci, ms_uo cj] at e1 e2
        exact hu i j (by omega) (by omega) e1 e2
  · intro a b c d' hrow
    rcases ms_row_un.mp hrow with hold | ⟨q1, q2, q3, q4⟩
    · obtain ⟨w1, w2, w3, w4, w5, w6⟩ := h3 a b c d' hold
      have hk := key a b w1 w3 w4
      refine ⟨w1, w2, w3, ?_, ?_, ?_⟩
      · by_cases e : a = a0
        · rw [e, ms_us]; rw [e] at w4; omega
        · rw [ms_uo e]; exact w4
      · rw [ms_uo hk]; exact w5
      · rw [ms_uo hk]; exact w6
    · subst q1 q2 q3 q4
      have := hc a0 ha
      refine ⟨ha, he, this.1, ?_, ?_, ?_⟩
      · rw [ms_us]; omega
      · rw [ms_us]
      · rw [ms_us]
  · intro a b w1 w2 w3 w4
    by_cases e : a = a0 ∧ b = high a0
    · obtain ⟨q1, q2⟩ := e
      subst q1 q2
      rw [ms_us, ms_us]
      exact ⟨ms_row_un.mpr (Or.inr ⟨rfl, rfl, rfl, rfl⟩), hl1, hl4, hW⟩
    · have w4' : b < high a := by
        by_cases ea : a = a0
        · subst ea
          rw [ms_us] at w4
          have : b ≠ high a := fun eb => e ⟨rfl, eb⟩
          omega
        · rw [ms_uo ea] at w4; exact w4
      have hk := key a b w1 w3 w4'
      obtain ⟨g1, g2⟩ := h4 a b w1 w2 w3 w4'
      rw [ms_uo hk, ms_uo hk]
      exact ⟨ms_row_un.mpr (Or.inl g1), g2⟩
/-- what the loop that removes rows keeps: rows from i on are through -/
def ms_fi (p : Nat → Nat → Prop) (N0 : Nat) (sf0 ss0 ds0 le0 : Nat → Nat) (i N : Nat) (sf ss ds le : Nat → Nat) : Prop :=
  N ≤ N0 ∧ ms_uq N sf ss ∧ (∀ j, i ≤ j → j < N → ¬ p (sf j) (ss j)) ∧
  (∀ a b c d, ms_row N sf ss ds le a b c d → ms_row N0 sf0 ss0 ds0 le0 a b c d) ∧
  (∀ a b c d, ms_row N0 sf0 ss0 ds0 le0 a b c d → ¬ p a b → ms_row N sf ss ds le a b c d)
theorem ms_fi0 {p : Nat → Nat → Prop} {N : Nat} {sf ss ds le : Nat → Nat} (hN : N ≤ 24) (hu : ms_uq N sf ss) : ms_fi p N sf ss ds le 24 N sf ss ds le :=
  ⟨Nat.le_refl N, hu, fun j h1 h2 => absurd h2 (by omega), fun _ _ _ _ h => h, fun _ _ _ _ h _ => h⟩
theorem ms_fik {p : Nat → Nat → Prop} {N0 : Nat} {sf0 ss0 ds0 le0 : Nat → Nat} {i N : Nat} {sf ss ds le : Nat → Nat} (h : ms_fi p N0 sf0 ss0 ds0 le0 (i + 1) N sf ss ds le) (hp : i < N → ¬ p (sf i) (ss i)) : ms_fi p N0 sf0 ss0 ds0 le0 i N sf ss ds le := by
  obtain ⟨h1, h2, h3, h4, h5⟩ := h
  refine ⟨h1, h2, fun j g1 g2 => ?_, h4, h5⟩
  by_cases e : j = i
  · subst e; exact hp g2
  · exact h3 j (by omega) g2
theorem ms_shv {f : Nat → Nat} {i M j : Nat} (h : j < M) : ms_sh f i M j = f (if j < i then j else j + 1) := by
  by_cases c : j < i
  · rw [if_pos c, ms_sho (by omega)]
  · rw [if_neg c, ms_shi (by omega) h]
theorem ms_fir {p : Nat → Nat → Prop} {N0 : Nat} {sf0 ss0 ds0 le0 : Nat → Nat} {i N : Nat} {sf ss ds le : Nat → Nat} (h : ms_fi p N0 sf0 ss0 ds0 le0 (i + 1) N sf ss ds le) (hi : i < N) (hp : p (sf i) (ss i)) : ms_fi p N0 sf0 ss0 ds0 le0 i (N - 1) (ms_sh sf i (N - 1)) (ms_sh ss i (N - 1)) (ms_sh ds i (N - 1)) (ms_sh le i (N - 1)) := by
  obtain ⟨h1, h2, h3, h4, h5⟩ := h
  have up : ∀ j, j < N - 1 → (if j < i then j else j + 1) < N ∧ (if j < i then j else j + 1) ≠ i := by
    intro j hj
    split <;> omega
  refine ⟨by omega, ?_, ?_, ?_, ?_⟩
  · intro x y hx hy e1 e2
    rw [ms_shv hx, ms_shv hy] at e1 e2
    have := h2 _ _ (up x hx).1 (up y hy).1 e1 e2
    split at this <;> split at this <;> omega
  · intro j g1 g2
    rw [ms_shv g2, ms_shv g2, if_neg (by omega)]
    exact h3 (j + 1) (by omega) (by omega)
  · rintro a b c d ⟨j, hj, q1, q2, q3, q4⟩
    rw [ms_shv hj] at q1 q2 q3 q4
    exact h4 a b c d ⟨_, (up j hj).1, q1, q2, q3, q4⟩
  · intro a b c d hr hn
    obtain ⟨j, hj, q1, q2, q3, q4⟩ := h5 a b c d hr hn
    have hji : j ≠ i := by
      intro e
      subst e
      rw [q1, q2] at hp
      exact hn hp
    have e : (if (if j < i then j else j - 1) < i then (if j < i then j else j - 1) else (if j < i then j else j - 1) + 1) = j := by
      by_cases c : j < i
      · simp only [c, if_true]
      · have c2 : ¬ j - 1 < i := by omega
        simp only [c, c2, if_false]
        omega
    have hb : (if j < i then j else j - 1) < N - 1 := by split <;> omega
    exact ⟨_, hb, by rw [ms_shv hb, e]; exact q1, by rw [ms_shv hb, e]; exact q2, by rw [ms_shv hb, e]; exact q3, by rw [ms_shv hb, e]; exact q4⟩
/-- the acknowledged record is dropped -/
theorem ms_rc_ack {W : Nat} {es : Nat → Int32} {una high rd rl : Nat → Nat} {N0 : Nat} {sf0 ss0 ds0 le0 : Nat → Nat} (h : ms_rc W es una high rd rl N0 sf0 ss0 ds0 le0) {a0 : Nat} {N : Nat} {sf ss ds le : Nat → Nat} (hf : ms_fi (fun a b => a = a0 ∧ b < una a0 + 1) N0 sf0 ss0 ds0 le0 0 N sf ss ds le) : ms_rc W es (ms_un una a0 (una a0 + 1)) high rd rl N sf ss ds le := by
  obtain ⟨h1, _, h3, h4⟩ := h
  obtain ⟨f1, f2, f3, f4, f5⟩ := hf
  refine ⟨by omega, f2, ?_, ?_⟩
  · intro a b c d hr
    obtain ⟨w1, w2, w3, w4, w5, w6⟩ := h3 a b c d (f4 a b c d hr)
    refine ⟨w1, w2, ?_, w4, w5, w6⟩
    obtain ⟨j, hj, q1, q2, _, _⟩ := hr
    have hn := f3 j (Nat.zero_le j) hj
    rw [q1, q2] at hn
    by_cases e : a = a0
    · subst e
      rw [ms_us]
      have : ¬ b < una a + 1 := fun hb => hn ⟨rfl, hb⟩
      omega
    · rw [ms_uo e]; exact w3
  · intro a b w1 w2 w3 w4
    have hu : una a ≤ b ∧ ¬ (a = a0 ∧ b < una a0 + 1) := by
      by_cases e : a = a0
      · subst e
        rw [ms_us] at w3
        refine ⟨by omega, ?_⟩
        rintro ⟨_, q⟩
        omega
      · rw [ms_uo e] at w3
        exact ⟨w3, fun q => e q.1⟩
    obtain ⟨g1, g2⟩ := h4 a b w1 w2 hu.1 w4
    exact ⟨f5 _ _ _ _ g1 hu.2, g2⟩
/-- the records of a failed subflow are dropped -/
theorem ms_rc_fail {W : Nat} {es : Nat → Int32} {una high rd rl : Nat → Nat} {N0 : Nat} {sf0 ss0 ds0 le0 : Nat → Nat} (h : ms_rc W es una high rd rl N0 sf0 ss0 ds0 le0) {a0 : Nat} {N : Nat} {sf ss ds le : Nat → Nat} {z : Int32} (hz : z ≠ 1) (hf : ms_fi (fun a _ => a = a0) N0 sf0 ss0 ds0 le0 0 N sf ss ds le) : ms_rc W (upd es a0 z) una high rd rl N sf ss ds le := by
  obtain ⟨h1, _, h3, h4⟩ := h
  obtain ⟨f1, f2, f3, f4, f5⟩ := hf
  have same : ∀ a, a ≠ a0 → upd es a0 z a = es a := by
    intro a ha
    unfold upd
    rw [if_neg ha]
  refine ⟨by omega, f2, ?_, ?_⟩
  · intro a b c d hr
    obtain ⟨w1, w2, w3⟩ := h3 a b c d (f4 a b c d hr)
    obtain ⟨j, hj, q1, _⟩ := hr
    have hn := f3 j (Nat.zero_le j) hj
    have ha : a ≠ a0 := by rw [← q1]; exact hn
    exact ⟨w1, by rw [same a ha]; exact w2, w3⟩
  · intro a b w1 w2 w3 w4
    have ha : a ≠ a0 := by
      intro e
      subst e
      unfold upd at w2
      rw [if_pos rfl] at w2
      exact hz w2
    rw [same a ha] at w2
    obtain ⟨g1, g2⟩ := h4 a b w1 w2 w3 w4
    exact ⟨f5 _ _ _ _ g1 ha, g2⟩
end
section
/-- channels: at most eight segments, each of a number already made, its bytes written -/
def ms_ch (W : Nat) (high cn cs cd cl : Nat → Nat) : Prop := ∀ i, i < 3 → cn i ≤ 8 ∧ ∀ j, j < cn i → cs (i * 8 + j) < high i ∧ cd (i * 8 + j) + cl (i * 8 + j) ≤ W
/-- counters -/
def ms_ct (h : Nat) (es : Nat → Int32) (una nxt high : Nat → Nat) (rn : Nat → Int32) : Prop := ∀ i, i < 3 → una i ≤ nxt i ∧ nxt i ≤ high i ∧ high i ≤ una i + 8 ∧ high i ≤ h ∧ (es i = 1 → rn i = nI (una i))
/-- windows and round-trip times -/
def ms_wd (cw rt : Nat → Nat) : Prop := ∀ i, i < 3 → 256 ≤ cw i ∧ cw i ≤ 4096 ∧ 1 ≤ rt i ∧ rt i ≤ 4
/-- flags -/
def ms_fg (R W : Nat) (pe he : Nat → Int32) : Prop := R ≤ W ∧ W ≤ 256 ∧ (∀ d, ¬ pe d = 0 → R ≤ d ∧ d < W) ∧ (∀ d, ¬ he d = 0 → d < W)
theorem ms_chW {W W' : Nat} {high high' cn cs cd cl : Nat → Nat} (hW : W ≤ W') (hh : ∀ i, i < 3 → high i ≤ high' i) (h : ms_ch W high cn cs cd cl) : ms_ch W' high' cn cs cd cl := by
  intro i hi
  obtain ⟨h1, h2⟩ := h i hi
  refine ⟨h1, fun j hj => ?_⟩
  obtain ⟨g1, g2⟩ := h2 j hj
  exact ⟨Nat.lt_of_lt_of_le g1 (hh i hi), Nat.le_trans g2 hW⟩
theorem ms_ch_push {W : Nat} {high cn cs cd cl : Nat → Nat} (h : ms_ch W high cn cs cd cl) {a s d l : Nat} (ha : a < 3) (hr : cn a < 8) (hs : s < high a) (hd : d + l ≤ W) : ms_ch W high (ms_un cn a (cn a + 1)) (ms_un cs (a * 8 + cn a) s) (ms_un cd (a * 8 + cn a) d) (ms_un cl (a * 8 + cn a) l) := by
  intro i hi
  obtain ⟨h1, h2⟩ := h i hi
  by_cases e : i = a
  · subst e
    rw [ms_us]
    refine ⟨by omega, fun j hj => ?_⟩
    by_cases ej : j = cn i
    · subst ej
      rw [ms_us, ms_us, ms_us]
      exact ⟨hs, hd⟩
    · have n1 : i * 8 + j ≠ i * 8 + cn i := by omega
      rw [ms_uo n1, ms_uo n1, ms_uo n1]
      exact h2 j (by omega)
  · rw [ms_uo e]
    refine ⟨h1, fun j hj => ?_⟩
    have n1 : i * 8 + j ≠ a * 8 + cn a := by omega
    rw [ms_uo n1, ms_uo n1, ms_uo n1]
    exact h2 j hj
theorem ms_ch_pop {W : Nat} {high cn cs cd cl : Nat → Nat} (h : ms_ch W high cn cs cd cl) {a : Nat} (ha : a < 3) (h0 : 0 < cn a) : ms_ch W high (ms_un cn a (cn a - 1)) (ms_sh cs (a * 8) (a * 8 + (cn a - 1))) (ms_sh cd (a * 8) (a * 8 + (cn a - 1))) (ms_sh cl (a * 8) (a * 8 + (cn a - 1))) := by
  intro i hi
  obtain ⟨h1, h2⟩ := h i hi
  have h8 := (h a ha).1
  by_cases e : i = a
  · subst e
    rw [ms_us]
    refine ⟨by omega, fun j hj => ?_⟩
    rw [ms_shi (by omega) (by omega), ms_shi (by omega) (by omega), ms_shi (by omega) (by omega)]
    exact h2 (j + 1) (by omega)
  · rw [ms_uo e]
    refine ⟨h1, fun j hj => ?_⟩
    rw [ms_sho (by omega), ms_sho (by omega), ms_sho (by omega)]
    exact h2 j hj
theorem ms_ctH {h h' : Nat} {es : Nat → Int32} {una nxt high : Nat → Nat} {rn : Nat → Int32} (hh : h ≤ h') (H : ms_ct h es una nxt high rn) : ms_ct h' es una nxt high rn := by
  intro i hi
  obtain ⟨h1, h2, h3, h4, h5⟩ := H i hi
  exact ⟨h1, h2, h3, Nat.le_trans h4 hh, h5⟩
end
section
def ms_P (cw rt : Nat → Nat) (j : Nat) : Nat := cw j * 144 / (rt j * rt j)
def ms_Q (cw rt : Nat → Nat) (j : Nat) : Nat := cw j * 12 / rt j
def ms_M (es : Nat → Int32) (cw rt : Nat → Nat) : Nat → Nat
  | 0 => 0
  | j + 1 => if es j = 1 then (if ms_M es cw rt j < ms_P cw rt j then ms_P cw rt j else ms_M es cw rt j) else ms_M es cw rt j
def ms_S (es : Nat → Int32) (cw rt : Nat → Nat) : Nat → Nat
  | 0 => 0
  | j + 1 => if es j = 1 then ms_S es cw rt j + ms_Q cw rt j else ms_S es cw rt j
theorem ms_Pb {cw rt : Nat → Nat} (h : ms_wd cw rt) {j : Nat} (hj : j < 3) : ms_P cw rt j ≤ 589824 := by
  have := h j hj
  have h1 : cw j * 144 / (rt j * rt j) ≤ cw j * 144 := Nat.div_le_self _ _
  unfold ms_P
  omega
theorem ms_Qb {cw rt : Nat → Nat} (h : ms_wd cw rt) {j : Nat} (hj : j < 3) : 768 ≤ ms_Q cw rt j ∧ ms_Q cw rt j ≤ 49152 := by
  have := h j hj
  have h1 : cw j * 12 / rt j ≤ cw j * 12 := Nat.div_le_self _ _
  have h2 : 768 ≤ cw j * 12 / rt j := (Nat.le_div_iff_mul_le (by omega)).mpr (by omega)
  unfold ms_Q
  omega
theorem ms_Mb {es : Nat → Int32} {cw rt : Nat → Nat} (h : ms_wd cw rt) : ∀ j, j ≤ 3 → ms_M es cw rt j ≤ 589824 := by
  intro j
  induction j with
  | zero => intro _; exact Nat.zero_le _
  | succ j ih =>
    intro hj
    have h1 := ih (by omega)
    have h2 := ms_Pb h (j := j) (by omega)
    unfold ms_M
    split
    · split
      · exact h2
      · exact h1
    · exact h1
theorem ms_Sb {es : Nat → Int32} {cw rt : Nat → Nat} (h : ms_wd cw rt) : ∀ j, j ≤ 3 → ms_S es cw rt j ≤ 49152 * j := by
  intro j
  induction j with
  | zero => intro _; exact Nat.zero_le _
  | succ j ih =>
    intro hj
    have h1 := ih (by omega)
    have h2 := ms_Qb h (j := j) (by omega)
    unfold ms_S
    split
    · omega
    · omega
theorem ms_Sp {es : Nat → Int32} {cw rt : Nat → Nat} (h : ms_wd cw rt) {i : Nat} (hi : i < 3) (he : es i = 1) : ∀ j, j ≤ 3 → i < j → 768 ≤ ms_S es cw rt j := by
  intro j
  induction j with
  | zero => intro _ h0; exact absurd h0 (Nat.not_lt_zero _)
  | succ j ih =>
    intro hj hij
    have h2 := ms_Qb h (j := j) (by omega)
    unfold ms_S
    by_cases e : i = j
    · subst e
      rw [if_pos he]
      omega
    · have h1 := ih (by omega) (by omega)
      split
      · omega
      · exact h1
def ms_in (M S c : Nat) : Nat := if 65536 * M / (S * S) < 65536 / c then 65536 * M / (S * S) else 65536 / c
def ms_i1 (M S c : Nat) : Nat := if ms_in M S c < 1 then 1 else ms_in M S c
def ms_nc (M S c : Nat) : Nat := if 4096 < c + ms_i1 M S c then 4096 else c + ms_i1 M S c
theorem ms_inb {M S c : Nat} (_ : 256 ≤ c) : ms_in M S c ≤ 65536 := by
  have h2 : 65536 / c ≤ 65536 := Nat.div_le_self _ _
  unfold ms_in
  split
  · omega
  · exact h2
theorem ms_i1b {M S c : Nat} (h : 256 ≤ c) : 1 ≤ ms_i1 M S c ∧ ms_i1 M S c ≤ 65536 := by
  have := ms_inb (M := M) (S := S) h
  unfold ms_i1
  split <;> omega
theorem ms_ncb {M S c : Nat} (h : 256 ≤ c) (_ : c ≤ 4096) : 256 ≤ ms_nc M S c ∧ ms_nc M S c ≤ 4096 := by
  have := ms_i1b (M := M) (S := S) h
  unfold ms_nc
  split <;> omega
end
section
/-- how far flags stand from d on, at most m -/
theorem ms_run (p : Nat → Int32) (d : Nat) : ∀ m, ∃ l, l ≤ m ∧ (∀ j, j < l → ¬ p (d + j) = 0) ∧ (l = m ∨ p (d + l) = 0) := by
  intro m
  induction m with
  | zero => exact ⟨0, Nat.le_refl 0, fun j hj => absurd hj (Nat.not_lt_zero j), Or.inl rfl⟩
  | succ m ih =>
    obtain ⟨l, h1, h2, h3⟩ := ih
    rcases h3 with h3 | h3
    · subst h3
      by_cases c : p (d + l) = 0
      · exact ⟨l, by omega, h2, Or.inr c⟩
      · refine ⟨l + 1, by omega, fun j hj => ?_, Or.inl rfl⟩
        by_cases e : j = l
        · subst e; exact c
        · exact h2 j (by omega)
    · exact ⟨l, by omega, h2, Or.inr h3⟩
/-- the least flag from R on, or R + m -/
theorem ms_lst (p : Nat → Int32) (R : Nat) : ∀ m, ∃ e, R ≤ e ∧ e ≤ R + m ∧ (∀ j, R ≤ j → j < e → p j = 0) ∧ (e < R + m → ¬ p e = 0) := by
  intro m
  induction m with
  | zero => exact ⟨R, Nat.le_refl R, Nat.le_refl _, fun j h1 h2 => absurd h2 (by omega), fun h => absurd h (by omega)⟩
  | succ m ih =>
    obtain ⟨e, h1, h2, h3, h4⟩ := ih
    by_cases c : e < R + m
    · exact ⟨e, h1, by omega, h3, fun _ => h4 c⟩
    · have ee : e = R + m := by omega
      subst ee
      by_cases z : p (R + m) = 0
      · refine ⟨R + (m + 1), by omega, Nat.le_refl _, fun j g1 g2 => ?_, fun h => absurd h (by omega)⟩
        by_cases ej : j = R + m
        · subst ej; exact z
        · exact h3 j g1 (by omega)
      · exact ⟨R + m, h1, by omega, h3, fun _ => z⟩
/-- e is the least pending offset, or W -/
def ms_lp (p : Nat → Int32) (R W e : Nat) : Prop := R ≤ e ∧ e ≤ W ∧ (∀ j, R ≤ j → j < e → p j = 0) ∧ (e < W → ¬ p e = 0)
theorem ms_lpE (p : Nat → Int32) {R W : Nat} (h : R ≤ W) : ∃ e, ms_lp p R W e := by
  obtain ⟨e, h1, h2, h3, h4⟩ := ms_lst p R (W - R)
  have hh : R + (W - R) = W := by omega
  rw [hh] at h2 h4
  exact ⟨e, h1, h2, h3, h4⟩
theorem ms_lpU {p : Nat → Int32} {R W e f : Nat} (h : ms_lp p R W e) (g : ms_lp p R W f) : e = f := by
  obtain ⟨h1, h2, h3, h4⟩ := h
  obtain ⟨g1, g2, g3, g4⟩ := g
  by_cases c : e < f
  · exact absurd (g3 e h1 c) (h4 (by omega))
  · by_cases c2 : f < e
    · exact absurd (h3 f g1 c2) (g4 (by omega))
    · omega
/-- l is the length of the run of flags at d, at most four, below W -/
def ms_ln (p : Nat → Int32) (W d l : Nat) : Prop := l ≤ 4 ∧ d + l ≤ W ∧ (∀ j, j < l → ¬ p (d + j) = 0) ∧ (l = 4 ∨ d + l = W ∨ p (d + l) = 0)
theorem ms_lnE (p : Nat → Int32) {W d : Nat} (h : d ≤ W) : ∃ l, ms_ln p W d l := by
  obtain ⟨l, h1, h2, h3⟩ := ms_run p d (min 4 (W - d))
  refine ⟨l, by omega, by omega, h2, ?_⟩
  rcases h3 with h3 | h3
  · by_cases c : 4 ≤ W - d
    · left; omega
    · right; left; omega
  · exact Or.inr (Or.inr h3)
theorem ms_ln1 {p : Nat → Int32} {W d l : Nat} (h : ms_ln p W d l) (hd : d < W) (hp : ¬ p d = 0) : 1 ≤ l := by
  obtain ⟨h1, h2, h3, h4⟩ := h
  by_cases c : l = 0
  · subst c
    rcases h4 with h4 | h4 | h4
    · omega
    · omega
    · exact absurd h4 hp
  · omega
/-- m offsets come next -/
def ms_px (p : Nat → Int32) (R m : Nat) : Prop := R + m ≤ 256 ∧ (∀ j, j < m → ¬ p (R + j) = 0) ∧ (R + m = 256 ∨ p (R + m) = 0)
theorem ms_pxE (p : Nat → Int32) {R : Nat} (h : R ≤ 256) : ∃ m, ms_px p R m := by
  obtain ⟨l, h1, h2, h3⟩ := ms_run p R (256 - R)
  refine ⟨l, by omega, h2, ?_⟩
  rcases h3 with h3 | h3
  · left; omega
  · exact Or.inr h3
theorem ms_pxW {p : Nat → Int32} {R W m : Nat} (h : ms_px p R m) (hW : ∀ d, ¬ p d = 0 → d < W) (hR : R ≤ W) : R + m ≤ W := by
  obtain ⟨_, h2, _⟩ := h
  by_cases c : m = 0
  · omega
  · have := hW _ (h2 (m - 1) (by omega))
    omega
/-- what hold does with j offsets from d on -/
def ms_hd (R : Nat) (B : Int32) (d : Nat) (q : Int32) (p : Nat → Int32) : Nat → Int32 × (Nat → Int32)
  | 0 => (q, p)
  | j + 1 => if nI (d + j) < nI R ∨ nI R + B ≤ nI (d + j) ∨ ¬ (ms_hd R B d q p j).2 (d + j) = 0 then ((ms_hd R B d q p j).1 + 1, (ms_hd R B d q p j).2) else ((ms_hd R B d q p j).1, upd (ms_hd R B d q p j).2 (d + j) 1)
theorem ms_hd1 {R : Nat} {B : Int32} {d : Nat} {q : Int32} {p : Nat → Int32} {j : Nat} (h : nI (d + j) < nI R ∨ nI R + B ≤ nI (d + j) ∨ ¬ (ms_hd R B d q p j).2 (d + j) = 0) : ms_hd R B d q p (j + 1) = ((ms_hd R B d q p j).1 + 1, (ms_hd R B d q p j).2) := if_pos h
theorem ms_hd2 {R : Nat} {B : Int32} {d : Nat} {q : Int32} {p : Nat → Int32} {j : Nat} (h : ¬ (nI (d + j) < nI R ∨ nI R + B ≤ nI (d + j) ∨ ¬ (ms_hd R B d q p j).2 (d + j) = 0)) : ms_hd R B d q p (j + 1) = ((ms_hd R B d q p j).1, upd (ms_hd R B d q p j).2 (d + j) 1) := if_neg h
theorem ms_hdW {R : Nat} {B : Int32} {d : Nat} {q : Int32} {p : Nat → Int32} {W : Nat} (hp : ∀ i, ¬ p i = 0 → i < W) : ∀ j, d + j ≤ W → ∀ i, ¬ (ms_hd R B d q p j).2 i = 0 → i < W := by
  intro j
  induction j with
  | zero => intro _; exact hp
  | succ j ih =>
    intro hj i
    have h := ih (by omega) i
    by_cases c : nI (d + j) < nI R ∨ nI R + B ≤ nI (d + j) ∨ ¬ (ms_hd R B d q p j).2 (d + j) = 0
    · rw [ms_hd1 c]
      exact h
    · rw [ms_hd2 c]
      by_cases e : i = d + j
      · intro _; omega
      · show ¬ upd (ms_hd R B d q p j).2 (d + j) 1 i = 0 → i < W
        rw [pk_un e]
        exact h
/-- what reinjection does with a record's offsets -/
def ms_ri (p : Nat → Int32) (R d l : Nat) : Nat → Int32 := fun j => if R ≤ j ∧ d ≤ j ∧ j < d + l then 1 else p j
theorem ms_ri0 (p : Nat → Int32) (R d : Nat) : ms_ri p R d 0 = p := by
  funext j
  unfold ms_ri
  rw [if_neg (by omega)]
theorem ms_riS (p : Nat → Int32) {R d l : Nat} (h : R ≤ d + l) : upd (ms_ri p R d l) (d + l) 1 = ms_ri p R d (l + 1) := by
  funext j
  by_cases e : j = d + l
  · subst e
    rw [pk_us]
    unfold ms_ri
    rw [if_pos (by omega)]
  · rw [pk_un e]
    unfold ms_ri
    by_cases c : R ≤ j ∧ d ≤ j ∧ j < d + l
    · rw [if_pos c, if_pos (by omega)]
    · rw [if_neg c, if_neg (by omega)]
theorem ms_riK (p : Nat → Int32) {R d l : Nat} (h : d + l < R) : ms_ri p R d l = ms_ri p R d (l + 1) := by
  funext j
  unfold ms_ri
  by_cases c : R ≤ j ∧ d ≤ j ∧ j < d + l
  · rw [if_pos c, if_pos (by omega)]
  · rw [if_neg c, if_neg (by omega)]
/-- p' is p with ones at S -/
def ms_pt (S : Nat → Prop) (p p' : Nat → Int32) : Prop := ∀ d, (S d → p' d = 1) ∧ (¬ S d → p' d = p d)
theorem ms_ptU {S T : Nat → Prop} {p p' p'' : Nat → Int32} (hS : ∀ d, S d ↔ T d) (h : ms_pt S p p') (g : ms_pt T p p'') : p' = p'' := by
  funext d
  by_cases c : S d
  · rw [(h d).1 c, (g d).1 ((hS d).mp c)]
  · rw [(h d).2 c, (g d).2 (fun t => c ((hS d).mpr t))]
theorem ms_pt0 (p : Nat → Int32) : ms_pt (fun _ => False) p p := fun _ => ⟨fun h => h.elim, fun _ => rfl⟩
theorem ms_ptS {S T : Nat → Prop} {p p' : Nat → Int32} (hS : ∀ d, S d ↔ T d) (h : ms_pt S p p') : ms_pt T p p' :=
  fun d => ⟨fun t => (h d).1 ((hS d).mpr t), fun t => (h d).2 (fun s => t ((hS d).mp s))⟩
theorem ms_ptR {S : Nat → Prop} {p p' : Nat → Int32} {R d l : Nat} (h : ms_pt S p p') : ms_pt (fun j => S j ∨ (R ≤ j ∧ d ≤ j ∧ j < d + l)) p (ms_ri p' R d l) := by
  intro j
  unfold ms_ri
  refine ⟨fun t => ?_, fun t => ?_⟩
  · by_cases c : R ≤ j ∧ d ≤ j ∧ j < d + l
    · rw [if_pos c]
    · rw [if_neg c]
      rcases t with t | t
      · exact (h j).1 t
      · exact absurd t c
  · rw [if_neg (fun c => t (Or.inr c))]
    exact (h j).2 (fun s => t (Or.inl s))
/-- flags counted from s on -/
def ms_cf (p : Nat → Int32) (s : Nat) : Nat → Nat
  | 0 => 0
  | l + 1 => if p (s + l) = 0 then ms_cf p s l else ms_cf p s l + 1
theorem ms_cfb (p : Nat → Int32) (s : Nat) : ∀ l, ms_cf p s l ≤ l := by
  intro l
  induction l with
  | zero => exact Nat.le_refl 0
  | succ l ih => unfold ms_cf; split <;> omega
theorem ms_cfa (p : Nat → Int32) (s a : Nat) : ∀ b, ms_cf p s (a + b) = ms_cf p s a + ms_cf p (s + a) b := by
  intro b
  induction b with
  | zero => rfl
  | succ b ih =>
    show ms_cf p s (a + b + 1) = _
    rw [ms_cf, ms_cf, ih, Nat.add_assoc s a b]
    split
    · rfl
    · omega
theorem ms_cf0 {p : Nat → Int32} {s : Nat} : ∀ l, (∀ j, s ≤ j → j < s + l → p j = 0) → ms_cf p s l = 0 := by
  intro l
  induction l with
  | zero => intro _; rfl
  | succ l ih =>
    intro h
    rw [ms_cf, if_pos (h (s + l) (by omega) (by omega))]
    exact ih (fun j h1 h2 => h j h1 (by omega))
theorem ms_cfE {p : Nat → Int32} {R W : Nat} (hR : R ≤ W) (hW : W ≤ 256) (h : ∀ d, ¬ p d = 0 → R ≤ d ∧ d < W) : ms_cf p 0 256 = ms_cf p R (W - R) := by
  have hz : ∀ j, ¬ (R ≤ j ∧ j < W) → p j = 0 := by
    intro j hj
    by_cases c : p j = 0
    · exact c
    · exact absurd (h j c) hj
  have e1 : 256 = R + ((W - R) + (256 - W)) := by omega
  have e2 : ms_cf p 0 256 = ms_cf p 0 (R + ((W - R) + (256 - W))) := congrArg (ms_cf p 0) e1
  rw [e2, ms_cfa, ms_cfa, ms_cf0 R (fun j _ h2 => hz j (by omega)), ms_cf0 (256 - W) (fun j h1 _ => hz j (by omega))]
  rw [Nat.zero_add, Nat.zero_add, Nat.add_zero]
/-- windows -/
def ms_wi (c : Nat) : Nat := if 8 < c / 256 then 8 else c / 256
theorem ms_wib (c : Nat) : ms_wi c ≤ 8 := by unfold ms_wi; split <;> omega
/-- what send refuses: 0 is accepted -/
def ms_rf (es : Nat → Int32) (cw una nxt high cn : Nat → Nat) (e W a : Nat) : Int32 :=
  if ¬ es a = 1 then -2 else if ms_wi (cw a) ≤ nxt a - una a then -3 else if cn a = 8 then -4 else if nxt a = high a ∧ e = W then -5 else 0
theorem ms_rf0 {es : Nat → Int32} {cw una nxt high cn : Nat → Nat} {e W a : Nat} (h : ms_rf es cw una nxt high cn e W a = 0) : es a = 1 ∧ nxt a - una a < ms_wi (cw a) ∧ ¬ cn a = 8 ∧ (nxt a = high a → ¬ e = W) := by
  unfold ms_rf at h
  by_cases c1 : es a = 1
  · rw [if_neg (fun z => z c1)] at h
    by_cases c2 : ms_wi (cw a) ≤ nxt a - una a
    · rw [if_pos c2] at h; exact absurd h (by decide)
    · rw [if_neg c2] at h
      by_cases c3 : cn a = 8
      · rw [if_pos c3] at h; exact absurd h (by decide)
      · rw [if_neg c3] at h
        by_cases c4 : nxt a = high a ∧ e = W
        · rw [if_pos c4] at h; exact absurd h (by decide)
        · exact ⟨c1, by omega, c3, fun q r => c4 ⟨q, r⟩⟩
  · rw [if_pos c1] at h; exact absurd h (by decide)
theorem ms_rfA {es : Nat → Int32} {cw una nxt high cn : Nat → Nat} {e W a : Nat} (c1 : ¬ es a = 1) : ms_rf es cw una nxt high cn e W a = -2 := if_pos c1
theorem ms_rfB {es : Nat → Int32} {cw una nxt high cn : Nat → Nat} {e W a : Nat} (c1 : es a = 1) (c2 : ms_wi (cw a) ≤ nxt a - una a) : ms_rf es cw una nxt high cn e W a = -3 := (if_neg (fun z => z c1)).trans (if_pos c2)
theorem ms_rfC {es : Nat → Int32} {cw una nxt high cn : Nat → Nat} {e W a : Nat} (c1 : es a = 1) (c2 : ¬ ms_wi (cw a) ≤ nxt a - una a) (c3 : cn a = 8) : ms_rf es cw una nxt high cn e W a = -4 := (if_neg (fun z => z c1)).trans ((if_neg c2).trans (if_pos c3))
theorem ms_rfD {es : Nat → Int32} {cw una nxt high cn : Nat → Nat} {e W a : Nat} (c1 : es a = 1) (c2 : ¬ ms_wi (cw a) ≤ nxt a - una a) (c3 : ¬ cn a = 8) (c4 : nxt a = high a ∧ e = W) : ms_rf es cw una nxt high cn e W a = -5 := (if_neg (fun z => z c1)).trans ((if_neg c2).trans ((if_neg c3).trans (if_pos c4)))
theorem ms_rfE {es : Nat → Int32} {cw una nxt high cn : Nat → Nat} {e W a : Nat} (c1 : es a = 1) (c2 : ¬ ms_wi (cw a) ≤ nxt a - una a) (c3 : ¬ cn a = 8) (c4 : ¬ (nxt a = high a ∧ e = W)) : ms_rf es cw una nxt high cn e W a = 0 := (if_neg (fun z => z c1)).trans ((if_neg c2).trans ((if_neg c3).trans (if_neg c4)))
/-- places taken -/
def ms_sm (una nxt : Nat → Nat) : Nat := (nxt 0 - una 0) + (nxt 1 - una 1) + (nxt 2 - una 2)
theorem ms_smS {una nxt : Nat → Nat} {a : Nat} (ha : a < 3) (h : una a ≤ nxt a) : ms_sm una (ms_un nxt a (nxt a + 1)) = ms_sm una nxt + 1 := by
  have h3 : a = 0 ∨ a = 1 ∨ a = 2 := by omega
  rcases h3 with rfl | rfl | rfl
  · unfold ms_sm
    rw [ms_us, ms_uo (by decide), ms_uo (by decide)]
    omega
  · unfold ms_sm
    rw [ms_us, ms_uo (by decide), ms_uo (by decide)]
    omega
  · unfold ms_sm
    rw [ms_us, ms_uo (by decide), ms_uo (by decide)]
    omega
theorem ms_smF {es : Nat → Int32} {cw una nxt high cn : Nat → Nat} {e W : Nat} (hc : ∀ i, i < 3 → una i ≤ nxt i ∧ nxt i ≤ una i + 8) (h : 24 ≤ ms_sm una nxt) : ∀ i, i < 3 → ¬ ms_rf es cw una nxt high cn e W i = 0 := by
  intro i hi hr
  obtain ⟨_, h2, _, _⟩ := ms_rf0 hr
  have h8 := ms_wib (cw i)
  have g0 := hc 0 (by omega)
  have g1 := hc 1 (by omega)
  have g2 := hc 2 (by omega)
  unfold ms_sm at h
  have h3 : i = 0 ∨ i = 1 ∨ i = 2 := by omega
  rcases h3 with rfl | rfl | rfl <;> omega
/-- the fastest of those that are accepted among the first i; 3: none -/
def ms_bs (f : Nat → Int32) (rt : Nat → Nat) : Nat → Nat
  | 0 => 3
  | i + 1 => if f i = 0 ∧ (ms_bs f rt i = 3 ∨ rt i < rt (ms_bs f rt i)) then i else ms_bs f rt i
theorem ms_bsb {f : Nat → Int32} {rt : Nat → Nat} : ∀ i, ms_bs f rt i = 3 ∨ (ms_bs f rt i < i ∧ f (ms_bs f rt i) = 0) := by
  intro i
  induction i with
  | zero => exact Or.inl rfl
  | succ i ih =>
    unfold ms_bs
    split
    · rename_i h
      exact Or.inr ⟨by omega, h.1⟩
    · rcases ih with ih | ih
      · exact Or.inl ih
      · exact Or.inr ⟨by omega, ih.2⟩
theorem ms_bsn {f : Nat → Int32} {rt : Nat → Nat} (h : ∀ i, i < 3 → ¬ f i = 0) : ∀ i, i ≤ 3 → ms_bs f rt i = 3 := by
  intro i
  induction i with
  | zero => intro _; rfl
  | succ i ih =>
    intro hi
    rw [ms_bs, if_neg (fun c => h i (by omega) c.1)]
    exact ih (by omega)
/-- as an int: none is -1 -/
def ms_bi (b : Nat) : Int32 := if b = 3 then -1 else nI b
end
section
abbrev ms_X (B : Int32) (W R : Nat) (sent disc : Int32) (st pe he es : Nat → Int32) (cw rt una nxt high : Nat → Nat) (rn : Nat → Int32) (cn cs cd cl rd rl : Nat → Nat) : SX :=
  (B, nI W, nI R, sent, disc, st, pe, he, es, ms_im cw, ms_im rt, ms_im una, ms_im nxt, ms_im high, rn, ms_im cn, ms_im cs, ms_im cd, ms_im cl, ms_im rd, ms_im rl)
abbrev ms_Y (B : Int32) (W U R : Nat) (sent disc : Int32) (st pe he es : Nat → Int32) (cw rt una nxt high : Nat → Nat) (rn : Nat → Int32) (cn cs cd cl : Nat → Nat) (N : Nat) (ysf yss yds yle : Nat → Nat) : SY :=
  (B, nI N, nI W, nI U, nI R, sent, disc, ms_im rt, es, ms_im cw, ms_im una, ms_im nxt, ms_im high, rn, ms_im cn, ms_im cs, ms_im cd, ms_im cl, ms_im ysf, ms_im yss, ms_im yds, ms_im yle, st, pe, he)
def ms_R (h c : Nat) (u : SX) (v : SY) : Prop := ∃ (B : Int32) (W R : Nat) (sent disc : Int32) (st pe he es : Nat → Int32) (cw rt una nxt high : Nat → Nat) (rn : Nat → Int32) (cn cs cd cl rd rl : Nat → Nat) (N : Nat) (ysf yss yds yle : Nat → Nat),
  u = (ms_X B W R sent disc st pe he es cw rt una nxt high rn cn cs cd cl rd rl) ∧ v = (ms_Y B W R R sent disc st pe he es cw rt una nxt high rn cn cs cd cl N ysf yss yds yle) ∧ ms_fg R W pe he ∧ ms_ct h es una nxt high rn ∧ ms_wd cw rt ∧ ms_ch W high cn cs cd cl ∧ ms_rc W es una high rd rl N ysf yss yds yle ∧ c ≤ ms_sm una nxt
theorem ms_mk {h c : Nat} {B : Int32} {W R : Nat} {sent disc : Int32} {st pe he es : Nat → Int32} {cw rt una nxt high : Nat → Nat} {rn : Nat → Int32} {cn cs cd cl rd rl : Nat → Nat} {N : Nat} {ysf yss yds yle : Nat → Nat} (h1 : ms_fg R W pe he) (h2 : ms_ct h es una nxt high rn) (h3 : ms_wd cw rt) (h4 : ms_ch W high cn cs cd cl) (h5 : ms_rc W es una high rd rl N ysf yss yds yle) (h6 : c ≤ ms_sm una nxt) : ms_R h c (ms_X B W R sent disc st pe he es cw rt una nxt high rn cn cs cd cl rd rl) (ms_Y B W R R sent disc st pe he es cw rt una nxt high rn cn cs cd cl N ysf yss yds yle) :=
  ⟨B, W, R, sent, disc, st, pe, he, es, cw, rt, una, nxt, high, rn, cn, cs, cd, cl, rd, rl, N, ysf, yss, yds, yle, rfl, rfl, h1, h2, h3, h4, h5, h6⟩
theorem ms_Rup {h h' c c' : Nat} {u : SX} {v : SY} (hh : h ≤ h') (hc : c' ≤ c) (I : ms_R h c u v) : ms_R h' c' u v := by
  obtain ⟨B, W, R, sent, disc, st, pe, he, es, cw, rt, una, nxt, high, rn, cn, cs, cd, cl, rd, rl, N, ysf, yss, yds, yle, rfl, rfl, h1, h2, h3, h4, h5, h6⟩ := I
  exact ms_mk h1 (ms_ctH hh h2) h3 h4 h5 (Nat.le_trans hc h6)
theorem ms_at {f : Nat → Nat} {k : Nat} (h : k < 2 ^ 31) : ms_im f (nI k).toNatClampNeg = nI (f k) := by
  rw [nI_clamp h]
  rfl
theorem ms_up {f : Nat → Nat} {k v : Nat} (h : k < 2 ^ 31) : upd (ms_im f) (nI k).toNatClampNeg (nI v) = ms_im (ms_un f k v) := by
  rw [nI_clamp h]
  exact ms_imu f k v
theorem ms_cu {p : Nat → Int32} {k : Nat} {x : Int32} (h : k < 2 ^ 31) : upd p (nI k).toNatClampNeg x = upd p k x := by rw [nI_clamp h]
theorem ms_n0 : vp_nar .boolean 0 = 0 := by decide
theorem ms_n1 : vp_nar .boolean 1 = 1 := by decide
theorem ms_m8 (a : Nat) : nI a * 8 = nI (a * 8) := pk_mul a 8
theorem ms_sl (a b : Nat) : nI a * 8 + nI b = nI (a * 8 + b) := by rw [ms_m8, nI_add]
theorem ms_rs (a : Nat) {b : Nat} (hb : b < 2 ^ 31) : nI a * 8 + (nI b - nI b / 8 * 8) = nI (a * 8 + b % 8) := by
  have h : nI b - nI b / 8 * 8 = nI (b % 8) := pk_rem (a := b) (d := 8) hb (by decide) (by decide)
  rw [h, ms_sl]
theorem ms_bd (x : Int32) : (x < 0 ∨ (3 : Int32) ≤ x) ∨ ∃ j : Nat, j < 3 ∧ x = nI j := by
  rcases pk_ix x (n := 3) (by decide) with h | h | h
  · exact Or.inl (Or.inl h)
  · exact Or.inl (Or.inr h)
  · exact Or.inr h
theorem ms_23 : (23 : Int32) = nI 24 - 1 := by decide
theorem ms_nm1 {b : Nat} (h : b < 2 ^ 31) : ¬ nI b = -1 := fun e => nI_pos h (by rw [e]; decide)
theorem ms_mm (b : Nat) : nI b + (-1) = nI b - 1 := (Int32.sub_eq_add_neg (nI b) 1).symm
theorem ms_lle {x y : Int64} {A B : Prop} (a b : Nat) (f : a ≤ b → A) (g : b < a → B) (hx : x = lN a) (hy : y = lN b) (ha : a < 2 ^ 63) (hb : b < 2 ^ 63) : (x ≤ y → A) ∧ (¬ x ≤ y → B) := by
  subst hx hy
  rw [pk_lLE ha hb]
  exact ⟨f, fun z => g (by omega)⟩
theorem ms_llt {x y : Int64} {A B : Prop} (a b : Nat) (f : a < b → A) (g : b ≤ a → B) (hx : x = lN a) (hy : y = lN b) (ha : a < 2 ^ 63) (hb : b < 2 ^ 63) : (x < y → A) ∧ (¬ x < y → B) := by
  subst hx hy
  rw [pk_lLT ha hb]
  exact ⟨f, fun z => g (by omega)⟩
theorem ms_lne {b : Nat} (h0 : 0 < b) (hb : b < 2 ^ 63) : ¬ lN b = 0 := fun e => by
  have := (pk_lEQ hb (show 0 < 2 ^ 63 by decide)).mp e
  omega
/-- between two bounds -/
def ms_cp (x lo hi : Int32) : Int32 := if x < lo then lo else if hi < x then hi else x
theorem ms_cpr (x : Int32) : ∃ r : Nat, 1 ≤ r ∧ r ≤ 4 ∧ ms_cp x 1 4 = nI r := by
  unfold ms_cp
  by_cases h : x < 1
  · exact ⟨1, by omega, by omega, by rw [if_pos h]; rfl⟩
  · rw [if_neg h]
    by_cases h2 : (4 : Int32) < x
    · exact ⟨4, by omega, by omega, by rw [if_pos h2]; rfl⟩
    · rw [if_neg h2]
      have h0 : ¬ x < 0 := fun z => h (Int32.lt_trans z (by decide))
      obtain ⟨j, hj, rfl⟩ := nI_of h0
      have g1 : ¬ j < 1 := fun z => h (nI_lt (b := 1) z (by decide))
      have g2 : ¬ 4 < j := fun z => h2 (nI_lt (a := 4) z hj)
      exact ⟨j, by omega, by omega, rfl⟩
theorem ms_ic {f : Nat → Nat} {k : Nat} (h : k < 2 ^ 31) : upd (ms_im f) (nI k).toNatClampNeg (ms_im f (nI k).toNatClampNeg + 1) = ms_im (ms_un f k (f k + 1)) := by rw [ms_at h, nI_1, ms_up h]
theorem ms_ic2 {f : Nat → Nat} {k : Nat} (h : k < 2 ^ 31) : upd (ms_im f) (nI k).toNatClampNeg (nI (f k) + 1) = ms_im (ms_un f k (f k + 1)) := by rw [nI_1, ms_up h]
theorem ms_ic0 {f : Nat → Nat} {k : Nat} : upd (ms_im f) k (ms_im f k + 1) = ms_im (ms_un f k (f k + 1)) := by
  show upd (ms_im f) k (nI (f k) + 1) = _
  rw [nI_1]
  exact ms_imu f k (f k + 1)
end
section
section
variable {h W R a N : Nat} {pe he es rn : Nat → Int32} {cw rt una nxt high cn cs cd cl rd rl ysf yss yds yle : Nat → Nat}
theorem ms_k_write (hf : ms_fg R W pe he) (hW : W < 256) : ms_fg R (W + 1) (upd pe W 1) he := by
  obtain ⟨h1, h2, h3, h4⟩ := hf
  refine ⟨by omega, by omega, fun d hd => ?_, fun d hd => ?_⟩
  · by_cases e : d = W
    · omega
    · rw [pk_un e] at hd
      have := h3 d hd
      omega
  · have := h4 d hd
    omega
theorem ms_k_cl (hf : ms_fg R W pe he) (x y : Nat) : ms_fg R W (ms_cl pe x y) he := by
  obtain ⟨h1, h2, h3, h4⟩ := hf
  refine ⟨h1, h2, fun d hd => ?_, h4⟩
  by_cases c : x ≤ d ∧ d < y
  · exact absurd (ms_cli c.1 c.2) hd
  · rw [ms_clo c] at hd
    exact h3 d hd
theorem ms_k_pf {m : Nat} {h2 : Nat → Int32} (hf : ms_fg R W pe he) (hw : ∀ d, ¬ h2 d = 0 → d < W) (hp : ms_px h2 R m) : ms_fg (R + m) W (ms_cl pe R (R + m)) (ms_cl h2 R (R + m)) := by
  obtain ⟨g1, g2, g3, _⟩ := hf
  refine ⟨ms_pxW hp hw g1, g2, fun d hd => ?_, fun d hd => ?_⟩
  · by_cases c : R ≤ d ∧ d < R + m
    · exact absurd (ms_cli c.1 c.2) hd
    · rw [ms_clo c] at hd
      have := g3 d hd
      omega
  · by_cases c : R ≤ d ∧ d < R + m
    · exact absurd (ms_cli c.1 c.2) hd
    · rw [ms_clo c] at hd
      exact hw d hd
/-- clearing all below is clearing the new ones -/
theorem ms_k_low {m : Nat} (hf : ms_fg R W pe he) : ms_cl pe 0 (R + m) = ms_cl pe R (R + m) := by
  obtain ⟨_, _, g3, _⟩ := hf
  funext d
  by_cases c : R ≤ d ∧ d < R + m
  · rw [ms_cli c.1 c.2, ms_cli (Nat.zero_le d) c.2]
  · rw [ms_clo c]
    by_cases c2 : d < R + m
    · rw [ms_cli (Nat.zero_le d) c2]
      by_cases z : pe d = 0
      · exact z.symm
      · have := g3 d z
        omega
    · rw [ms_clo (by omega)]
theorem ms_k_pt {S : Nat → Prop} {p2 : Nat → Int32} (hf : ms_fg R W pe he) (hp : ms_pt S pe p2) (hS : ∀ d, S d → R ≤ d ∧ d < W) : ms_fg R W p2 he := by
  obtain ⟨h1, h2, h3, h4⟩ := hf
  refine ⟨h1, h2, fun d hd => ?_, h4⟩
  by_cases c : S d
  · exact hS d c
  · rw [(hp d).2 c] at hd
    exact h3 d hd
theorem ms_k_send (H : ms_ct h es una nxt high rn) (ha : nxt a < high a) : ms_ct h es una (ms_un nxt a (nxt a + 1)) high rn := by
  intro i hi
  obtain ⟨h1, h2, h3, h4, h5⟩ := H i hi
  by_cases e : i = a
  · subst e
    rw [ms_us]
    exact ⟨by omega, by omega, h3, h4, h5⟩
  · rw [ms_uo e]
    exact ⟨h1, h2, h3, h4, h5⟩
theorem ms_k_new (H : ms_ct h es una nxt high rn) (ha : nxt a = high a) (hr : high a < una a + 8) : ms_ct (h + 1) es una (ms_un nxt a (nxt a + 1)) (ms_un high a (high a + 1)) rn := by
  intro i hi
  obtain ⟨h1, h2, h3, h4, h5⟩ := H i hi
  by_cases e : i = a
  · subst e
    rw [ms_us, ms_us]
    exact ⟨by omega, by omega, by omega, by omega, h5⟩
  · rw [ms_uo e, ms_uo e]
    exact ⟨h1, h2, h3, by omega, h5⟩
theorem ms_k_to (H : ms_ct h es una nxt high rn) : ms_ct h es una (ms_un nxt a (una a)) high rn := by
  intro i hi
  obtain ⟨h1, h2, h3, h4, h5⟩ := H i hi
  by_cases e : i = a
  · subst e
    rw [ms_us]
    exact ⟨Nat.le_refl _, by omega, h3, h4, h5⟩
  · rw [ms_uo e]
    exact ⟨h1, h2, h3, h4, h5⟩
theorem ms_k_rn {x : Int32} (H : ms_ct h es una nxt high rn) (he : ¬ es a = 1) : ms_ct h es una nxt high (upd rn a x) := by
  intro i hi
  obtain ⟨h1, h2, h3, h4, h5⟩ := H i hi
  refine ⟨h1, h2, h3, h4, fun q => ?_⟩
  by_cases e : i = a
  · subst e
    exact absurd q he
  · rw [pk_un e]
    exact h5 q
theorem ms_k_ack (H : ms_ct h es una nxt high rn) (hu : una a < high a) {n2 : Nat → Nat} (hn : (nxt a < una a + 1 ∧ n2 = ms_un nxt a (una a + 1)) ∨ (una a + 1 ≤ nxt a ∧ n2 = nxt)) : ms_ct h es (ms_un una a (una a + 1)) n2 high (upd rn a (nI (una a + 1))) := by
  intro i hi
  obtain ⟨h1, h2, h3, h4, h5⟩ := H i hi
  by_cases e : i = a
  · subst e
    rw [ms_us, pk_us]
    rcases hn with ⟨c, rfl⟩ | ⟨c, rfl⟩
    · rw [ms_us]
      exact ⟨by omega, by omega, by omega, h4, fun _ => rfl⟩
    · exact ⟨by omega, by omega, by omega, h4, fun _ => rfl⟩
  · rw [ms_uo e, pk_un e]
    rcases hn with ⟨c, rfl⟩ | ⟨c, rfl⟩
    · rw [ms_uo e]
      exact ⟨h1, h2, h3, h4, h5⟩
    · exact ⟨h1, h2, h3, h4, h5⟩
theorem ms_k_es {z : Int32} (hz : z ≠ 1) (H : ms_ct h es una nxt high rn) : ms_ct h (upd es a z) una nxt high rn := by
  intro i hi
  obtain ⟨h1, h2, h3, h4, h5⟩ := H i hi
  refine ⟨h1, h2, h3, h4, fun q => ?_⟩
  by_cases e : i = a
  · subst e
    rw [pk_us] at q
    exact absurd q hz
  · rw [pk_un e] at q
    exact h5 q
theorem ms_k_wd {c : Nat} (H : ms_wd cw rt) (h1 : 256 ≤ c) (h2 : c ≤ 4096) : ms_wd (ms_un cw a c) rt := by
  intro i hi
  obtain ⟨g1, g2, g3⟩ := H i hi
  by_cases e : i = a
  · subst e
    rw [ms_us]
    exact ⟨h1, h2, g3⟩
  · rw [ms_uo e]
    exact ⟨g1, g2, g3⟩
theorem ms_k_hi (H : ms_ct h es una nxt high rn) : ∀ i, i < 3 → una i ≤ high i ∧ high i ≤ una i + 8 := by
  intro i hi
  obtain ⟨h1, h2, h3, _⟩ := H i hi
  exact ⟨by omega, h3⟩
theorem ms_k_le (a : Nat) : ∀ i, i < 3 → high i ≤ ms_un high a (high a + 1) i := by
  intro i _
  by_cases e : i = a
  · subst e
    rw [ms_us]
    omega
  · rw [ms_uo e]
    exact Nat.le_refl _
/-- what the records of subflow a cover: ring and list say the same -/
theorem ms_k_cov (hrc : ms_rc W es una high rd rl N ysf yss yds yle) (ha : a < 3) (he : es a = 1) (d : Nat) : (∃ s, una a ≤ s ∧ s < high a ∧ R ≤ d ∧ rd (a * 8 + s % 8) ≤ d ∧ d < rd (a * 8 + s % 8) + rl (a * 8 + s % 8)) ↔ (∃ j, j < N ∧ ysf j = a ∧ R ≤ d ∧ yds j ≤ d ∧ d < yds j + yle j) := by
  obtain ⟨_, _, h3, h4⟩ := hrc
  constructor
  · rintro ⟨s, s1, s2, s3, s4, s5⟩
    obtain ⟨⟨j, j1, j2, _, j4, j5⟩, _⟩ := h4 a s ha he s1 s2
    exact ⟨j, j1, j2, s3, by rw [j4]; exact s4, by rw [j4, j5]; exact s5⟩
  · rintro ⟨j, j1, j2, j3, j4, j5⟩
    obtain ⟨_, _, w3, w4, w5, w6⟩ := h3 _ _ _ _ ⟨j, j1, rfl, rfl, rfl, rfl⟩
    rw [j2] at w3 w4 w5 w6
    exact ⟨yss j, w3, w4, j3, by rw [← w5]; exact j4, by rw [← w5, ← w6]; exact j5⟩
theorem ms_k_in (hrc : ms_rc W es una high rd rl N ysf yss yds yle) {j : Nat} (hj : j < N) : ysf j < 3 ∧ es (ysf j) = 1 ∧ 1 ≤ yle j ∧ yle j ≤ 4 ∧ yds j + yle j ≤ W := by
  obtain ⟨_, _, h3, h4⟩ := hrc
  obtain ⟨w1, w2, w3, w4, w5, w6⟩ := h3 _ _ _ _ ⟨j, hj, rfl, rfl, rfl, rfl⟩
  obtain ⟨_, q2, q3, q4⟩ := h4 _ _ w1 w2 w3 w4
  rw [← w6] at q2 q3
  rw [← w5, ← w6] at q4
  exact ⟨w1, w2, q2, q3, q4⟩
/-- the record that is looked for -/
theorem ms_k_find (hrc : ms_rc W es una high rd rl N ysf yss yds yle) {b : Nat} (ha : a < 3) (he : es a = 1) (h1 : una a ≤ b) (h2 : b < high a) : ∃ j, j < N ∧ ysf j = a ∧ yss j = b ∧ yds j = rd (a * 8 + b % 8) ∧ yle j = rl (a * 8 + b % 8) ∧ (∀ i, i < j → ¬ (ysf i = a ∧ yss i = b)) := by
  obtain ⟨_, hu, _, h4⟩ := hrc
  obtain ⟨⟨j, j1, j2, j3, j4, j5⟩, _⟩ := h4 a b ha he h1 h2
  refine ⟨j, j1, j2, j3, j4, j5, fun i hi => ?_⟩
  rintro ⟨q1, q2⟩
  have := hu i j (by omega) j1 (q1.trans j2.symm) (q2.trans j3.symm)
  omega
end
end
section
/-- reinjection of j records from s0 on, by the ring -/
def ms_fx (pe : Nat → Int32) (R : Nat) (rd rl : Nat → Nat) (a s0 : Nat) : Nat → Nat → Int32
  | 0 => pe
  | j + 1 => ms_ri (ms_fx pe R rd rl a s0 j) R (rd (a * 8 + (s0 + j) % 8)) (rl (a * 8 + (s0 + j) % 8))
/-- reinjection of the records of a among the first i rows, by the list -/
def ms_fy (pe : Nat → Int32) (R : Nat) (ysf yds yle : Nat → Nat) (a : Nat) : Nat → Nat → Int32
  | 0 => pe
  | i + 1 => if ysf i = a then ms_ri (ms_fy pe R ysf yds yle a i) R (yds i) (yle i) else ms_fy pe R ysf yds yle a i
theorem ms_fxp (pe : Nat → Int32) (R : Nat) (rd rl : Nat → Nat) (a s0 : Nat) : ∀ j, ms_pt (fun d => ∃ s, s0 ≤ s ∧ s < s0 + j ∧ R ≤ d ∧ rd (a * 8 + s % 8) ≤ d ∧ d < rd (a * 8 + s % 8) + rl (a * 8 + s % 8)) pe (ms_fx pe R rd rl a s0 j) := by
  intro j
  induction j with
  | zero =>
    refine ms_ptS (fun d => ⟨fun z => z.elim, ?_⟩) (ms_pt0 pe)
    rintro ⟨s, s1, s2, _⟩
    omega
  | succ j ih =>
    refine ms_ptS (fun d => ⟨?_, ?_⟩) (ms_ptR (R := R) (d := rd (a * 8 + (s0 + j) % 8)) (l := rl (a * 8 + (s0 + j) % 8)) ih)
    · rintro (⟨s, s1, s2, s3⟩ | ⟨q1, q2, q3⟩)
      · exact ⟨s, s1, by omega, s3⟩
      · exact ⟨s0 + j, by omega, by omega, q1, q2, q3⟩
    · rintro ⟨s, s1, s2, s3⟩
      by_cases e : s = s0 + j
      · subst e
        exact Or.inr s3
      · exact Or.inl ⟨s, s1, by omega, s3⟩
theorem ms_fyp (pe : Nat → Int32) (R : Nat) (ysf yds yle : Nat → Nat) (a : Nat) : ∀ i, ms_pt (fun d => ∃ j, j < i ∧ ysf j = a ∧ R ≤ d ∧ yds j ≤ d ∧ d < yds j + yle j) pe (ms_fy pe R ysf yds yle a i) := by
  intro i
  induction i with
  | zero =>
    refine ms_ptS (fun d => ⟨fun z => z.elim, ?_⟩) (ms_pt0 pe)
    rintro ⟨s, s1, _⟩
    omega
  | succ i ih =>
    unfold ms_fy
    by_cases c : ysf i = a
    · rw [if_pos c]
      refine ms_ptS (fun d => ⟨?_, ?_⟩) (ms_ptR (R := R) (d := yds i) (l := yle i) ih)
      · rintro (⟨s, s1, s2⟩ | ⟨q1, q2, q3⟩)
        · exact ⟨s, by omega, s2⟩
        · exact ⟨i, by omega, c, q1, q2, q3⟩
      · rintro ⟨s, s1, s2, s3⟩
        by_cases e : s = i
        · subst e
          exact Or.inr s3
        · exact Or.inl ⟨s, by omega, s2, s3⟩
    · rw [if_neg c]
      refine ms_ptS (fun d => ⟨?_, ?_⟩) ih
      · rintro ⟨s, s1, s2⟩
        exact ⟨s, by omega, s2⟩
      · rintro ⟨s, s1, s2, s3⟩
        have e : s ≠ i := by
          intro e
          subst e
          exact c s2
        exact ⟨s, by omega, s2, s3⟩
theorem ms_fxy {W R a N : Nat} {es : Nat → Int32} {una high rd rl ysf yss yds yle : Nat → Nat} (pe : Nat → Int32) (hrc : ms_rc W es una high rd rl N ysf yss yds yle) (ha : a < 3) (he : es a = 1) (hu : una a ≤ high a) : ms_fx pe R rd rl a (una a) (high a - una a) = ms_fy pe R ysf yds yle a N := by
  have e : una a + (high a - una a) = high a := by omega
  have h1 := ms_fxp pe R rd rl a (una a) (high a - una a)
  rw [e] at h1
  exact ms_ptU (ms_k_cov hrc ha he) h1 (ms_fyp pe R ysf yds yle a N)
theorem ms_fxw {W R a N : Nat} {es pe he : Nat → Int32} {una high rd rl ysf yss yds yle : Nat → Nat} (hf : ms_fg R W pe he) (hrc : ms_rc W es una high rd rl N ysf yss yds yle) : ms_fg R W (ms_fy pe R ysf yds yle a N) he := by
  refine ms_k_pt hf (ms_fyp pe R ysf yds yle a N) ?_
  rintro d ⟨j, j1, _, j3, j4, j5⟩
  have := (ms_k_in hrc j1).2.2.2.2
  exact ⟨j3, by omega⟩
/-- the ring's live records -/
def ms_xr (W : Nat) (es : Nat → Int32) (una high rd rl : Nat → Nat) : Prop := ∀ a b, a < 3 → es a = 1 → una a ≤ b → b < high a → 1 ≤ rl (a * 8 + b % 8) ∧ rl (a * 8 + b % 8) ≤ 4 ∧ rd (a * 8 + b % 8) + rl (a * 8 + b % 8) ≤ W
theorem ms_xrE {W N : Nat} {es : Nat → Int32} {una high rd rl ysf yss yds yle : Nat → Nat} (hrc : ms_rc W es una high rd rl N ysf yss yds yle) : ms_xr W es una high rd rl := fun a b h1 h2 h3 h4 => (hrc.2.2.2 a b h1 h2 h3 h4).2
end
section
theorem ms_d1 {c : Nat} (h : 0 < c) : nI c - 1 = nI (c - 1) := pk_sub (a := c) (b := 1) h
theorem ms_shU {f : Nat → Nat} {b i : Nat} (h : b ≤ i) (hi : i < 1000) : upd (ms_im (ms_sh f b i)) (nI i).toNatClampNeg (ms_im (ms_sh f b i) (nI i + 1).toNatClampNeg) = ms_im (ms_sh f b (i + 1)) := by
  rw [nI_1, ms_at (by omega), ms_up (by omega), ms_shS f h]
theorem ms_shY {f : Nat → Nat} {b j : Nat} (hi : b + j < 1000) : upd (ms_im (ms_sh f b (b + j))) ((nI b + nI (j + 1)) - 1).toNatClampNeg (ms_im (ms_sh f b (b + j)) (nI b + nI (j + 1)).toNatClampNeg) = ms_im (ms_sh f b (b + (j + 1))) := by
  rw [nI_add, ms_d1 (by omega), show b + (j + 1) - 1 = b + j by omega, show b + (j + 1) = b + j + 1 by omega, ms_at (by omega), ms_up (by omega), ms_shS f (by omega)]
section
variable {B : Int32} {W R : Nat} {sent disc : Int32} {st pe he es : Nat → Int32} {cw rt una nxt high : Nat → Nat} {rn : Nat → Int32} {cn cs cd cl rd rl : Nat → Nat} {a : Nat}
theorem ms_x_sub {post : Int32 → Prop} (ha : a < 3) (hp : post 1) : wpX_isSubflow post (nI a) :=
  br_f (nI_pos (by omega)) (br_f (nI_ge (b := 3) ha (by decide)) hp)
theorem ms_x_nsb {post : Int32 → Prop} {x : Int32} (hx : x < 0 ∨ (3 : Int32) ≤ x) (hp : post 0) : wpX_isSubflow post x := by
  by_cases h : x < 0
  · exact br_t h hp
  · rcases hx with hx | hx
    · exact absurd hx h
    · exact br_f h (br_t hx hp)
theorem ms_x_est {post : Int32 → Prop} (ha : a < 3) (hp : post (if es a = 1 then 1 else 0)) : wpX_isEstablished post (ms_X B W R sent disc st pe he es cw rt una nxt high rn cn cs cd cl rd rl) (nI a) := by
  refine ⟨pk_in a 3 ha, ?_⟩
  rw [nI_clamp (by omega)]
  by_cases h : es a = 1
  · rw [if_pos h] at hp
    exact br_t h hp
  · rw [if_neg h] at hp
    exact br_f h hp
theorem ms_x_win {post : Int32 → Prop} (ha : a < 3) (hc : cw a ≤ 4096) (hp : post (nI (ms_wi (cw a)))) : wpX_window post (ms_X B W R sent disc st pe he es cw rt una nxt high rn cn cs cd cl rd rl) (nI a) := by
  refine ⟨pk_in a 3 ha, by decide, ?_⟩
  refine nm_r (e' := nI (cw a / 256)) ?_ ?_
  · rw [ms_at (by omega)]
    exact pk_div (d := 256) (by omega) (by decide) (by decide)
  · unfold ms_wi at hp
    have h8 : cw a / 256 < 2 ^ 31 := by omega
    refine pk_le (cw a / 256) 8 (fun z => ?_) (fun z => ?_)
    · rw [if_neg (by omega)] at hp
      exact hp
    · rw [if_pos z] at hp
      exact hp
theorem ms_x_lp {post : Int32 → Prop} {e : Nat} (hW : W ≤ 256) (hl : ms_lp pe R W e) (hp : post (nI e)) : wpX_leastPending post (ms_X B W R sent disc st pe he es cw rt una nxt high rn cn cs cd cl rd rl) := by
  obtain ⟨h1, h2, h3, h4⟩ := hl
  refine pk_loop (σ := Unit) (fun n i _ => wX_leastPending_5 post B (nI W) (nI R) sent disc st pe he es (ms_im cw) (ms_im rt) (ms_im una) (ms_im nxt) (ms_im high) rn (ms_im cn) (ms_im cs) (ms_im cd) (ms_im cl) (ms_im rd) (ms_im rl) n (nI i)) (fun i _ => R ≤ i) e R () h1 (Nat.le_refl R) ?_ ?_
  · intro n _ _
    refine pk_le W e (fun z => ?_) (fun z => ⟨pk_in e 256 (by omega), br_f (by rw [nI_clamp (by omega)]; exact h4 z) hp⟩)
    rw [show W = e by omega]
    exact hp
  · intro n i _ hi hr hw
    exact pk_le W i (fun z => absurd z (by omega)) (fun z => ⟨pk_in i 256 (by omega), br_t (by rw [nI_clamp (by omega)]; exact h3 i hr hi) (nm_r (nI_1 i) (hw () (by omega)))⟩)
theorem ms_x_slot {post : Int32 → Prop} {b : Nat} (hb : b < 2 ^ 31) (hp : post (nI (a * 8 + b % 8))) : wpX_recordSlot post (nI a) (nI b) := by
  rw [← ms_rs a hb] at hp
  exact ⟨by decide, hp⟩
theorem ms_x_app {post : SX → Prop} {s d l : Nat} (ha : a < 3) (hn : cn a < 8) (hp : post (ms_X B W R sent disc st pe he es cw rt una nxt high rn (ms_un cn a (cn a + 1)) (ms_un cs (a * 8 + cn a) s) (ms_un cd (a * 8 + cn a) d) (ms_un cl (a * 8 + cn a) l) rd rl)) : wpX_append post (ms_X B W R sent disc st pe he es cw rt una nxt high rn cn cs cd cl rd rl) (nI a) (nI s) (nI d) (nI l) :=
  ⟨pk_in a 3 ha, nm_r (e' := nI (a * 8 + cn a)) (by rw [ms_at (by omega)]; exact ms_sl a (cn a)) ⟨pk_in (a * 8 + cn a) 24 (by omega), nm_r (ms_up (by omega)) ⟨pk_in (a * 8 + cn a) 24 (by omega), nm_r (ms_up (by omega)) ⟨pk_in (a * 8 + cn a) 24 (by omega), nm_r (ms_up (by omega)) ⟨pk_in a 3 ha, pk_in a 3 ha, nm_r (ms_ic (by omega)) hp⟩⟩⟩⟩⟩
theorem ms_x_popl {post : SX → Prop} (ha : a < 3) (h0 : 0 < cn a) (h8 : cn a ≤ 8) (hp : post (ms_X B W R sent disc st pe he es cw rt una nxt high rn (ms_un cn a (cn a - 1)) (ms_sh cs (a * 8) (a * 8 + (cn a - 1))) (ms_sh cd (a * 8) (a * 8 + (cn a - 1))) (ms_sh cl (a * 8) (a * 8 + (cn a - 1))) rd rl)) : ∀ d i, i + d = a * 8 + (cn a - 1) → a * 8 ≤ i → wX_removeHead_19 post (nI a) (nI (a * 8 + (cn a - 1))) B (nI W) (nI R) sent disc (d + 1) (nI i) st pe he es (ms_im cw) (ms_im rt) (ms_im una) (ms_im nxt) (ms_im high) rn (ms_im cn) (ms_im (ms_sh cs (a * 8) i)) (ms_im (ms_sh cd (a * 8) i)) (ms_im (ms_sh cl (a * 8) i)) (ms_im rd) (ms_im rl) := by
  intro d
  induction d with
  | zero =>
    intro i hi hl
    have e : i = a * 8 + (cn a - 1) := by omega
    subst e
    exact pk_le (a * 8 + (cn a - 1)) (a * 8 + (cn a - 1)) (fun _ => ⟨pk_in a 3 ha, pk_in a 3 ha, nm_r (by rw [ms_at (by omega), ms_d1 h0]; exact ms_up (by omega)) hp⟩) (fun z => absurd z (by omega))
  | succ d ih =>
    intro i hi hl
    exact pk_le (a * 8 + (cn a - 1)) i (fun z => absurd z (by omega)) (fun _ => ⟨pk_in (i + 1) 24 (by omega) (nI_1 i), pk_in i 24 (by omega), nm_r (ms_shU hl (by omega)) ⟨pk_in (i + 1) 24 (by omega) (nI_1 i), pk_in i 24 (by omega), nm_r (ms_shU hl (by omega)) ⟨pk_in (i + 1) 24 (by omega) (nI_1 i), pk_in i 24 (by omega), nm_r (ms_shU hl (by omega)) (nm_r (nI_1 i) (ih (i + 1) (by omega) (by omega)))⟩⟩⟩)
theorem ms_x_pop {post : SX → Prop} (ha : a < 3) (h0 : 0 < cn a) (h8 : cn a ≤ 8) (hp : post (ms_X B W R sent disc st pe he es cw rt una nxt high rn (ms_un cn a (cn a - 1)) (ms_sh cs (a * 8) (a * 8 + (cn a - 1))) (ms_sh cd (a * 8) (a * 8 + (cn a - 1))) (ms_sh cl (a * 8) (a * 8 + (cn a - 1))) rd rl)) : wpX_removeHead post (ms_X B W R sent disc st pe he es cw rt una nxt high rn cn cs cd cl rd rl) (nI a) := by
  have h := ms_x_popl ha h0 h8 hp (cn a - 1) (a * 8) rfl (Nat.le_refl _)
  rw [ms_sh0, ms_sh0, ms_sh0] at h
  refine nm_r (ms_m8 a) ⟨pk_in a 3 ha, nm_r (e' := nI (a * 8 + (cn a - 1))) ?_ ⟨_, h⟩⟩
  rw [ms_at (by omega), nI_add, ms_d1 (by omega), show a * 8 + cn a - 1 = a * 8 + (cn a - 1) by omega]
theorem ms_x_holdl {post : SX → Prop} {d l : Nat} (hd : d + l ≤ 256) (hp : post (ms_X B W R sent ((ms_hd R B d disc he l).1) st pe ((ms_hd R B d disc he l).2) es cw rt una nxt high rn cn cs cd cl rd rl)) : ∀ m j, j + m = l → wX_hold_2 post (nI d) (nI l) B (nI W) (nI R) sent (m + 1) (nI (d + j)) (ms_hd R B d disc he j).1 st pe ((ms_hd R B d disc he j).2) es (ms_im cw) (ms_im rt) (ms_im una) (ms_im nxt) (ms_im high) rn (ms_im cn) (ms_im cs) (ms_im cd) (ms_im cl) (ms_im rd) (ms_im rl) := by
  intro m
  induction m with
  | zero =>
    intro j hj
    have e : j = l := by omega
    subst e
    exact pk_le (d + j) (d + j) (fun _ => hp) (fun z => absurd z (by omega)) (nI_add d j)
  | succ m ih =>
    intro j hj
    have g := ih (j + 1) (by omega)
    refine pk_le (d + l) (d + j) (fun z => absurd z (by omega)) (fun _ => ?_) (nI_add d l)
    by_cases c1 : nI (d + j) < nI R
    · rw [ms_hd1 (Or.inl c1)] at g
      exact br_t c1 (nm_e (nm_r (nI_1 (d + j)) g))
    · refine br_f c1 ?_
      by_cases c2 : nI R + B ≤ nI (d + j)
      · rw [ms_hd1 (Or.inr (Or.inl c2))] at g
        exact br_t c2 (nm_e (nm_r (nI_1 (d + j)) g))
      · refine br_f c2 ⟨pk_in (d + j) 256 (by omega), ?_⟩
        by_cases c3 : (ms_hd R B d disc he j).2 (d + j) = 0
        · rw [ms_hd2 (by rintro (z | z | z); exact c1 z; exact c2 z; exact z c3)] at g
          exact br_t (by rw [nI_clamp (by omega)]; exact c3) ⟨pk_in (d + j) 256 (by omega), nm_r (by rw [nI_clamp (by omega), ms_n1]) (nm_r (nI_1 (d + j)) g)⟩
        · rw [ms_hd1 (Or.inr (Or.inr c3))] at g
          exact br_f (by rw [nI_clamp (by omega)]; exact c3) (nm_e (nm_r (nI_1 (d + j)) g))
theorem ms_x_hold {post : SX → Prop} {d l : Nat} (hd : d + l ≤ 256) (hp : post (ms_X B W R sent ((ms_hd R B d disc he l).1) st pe ((ms_hd R B d disc he l).2) es cw rt una nxt high rn cn cs cd cl rd rl)) : wpX_hold post (ms_X B W R sent disc st pe he es cw rt una nxt high rn cn cs cd cl rd rl) (nI d) (nI l) :=
  ⟨_, ms_x_holdl hd hp l 0 (Nat.zero_add l)⟩
theorem ms_x_prel {post : Int32 → SX → Prop} {m : Nat} (hm : ms_px he R m) (hp : post (nI m) (ms_X B W (R + m) sent disc st (ms_cl pe R (R + m)) (ms_cl he R (R + m)) es cw rt una nxt high rn cn cs cd cl rd rl)) : ∀ k j, j + k = m → wX_deliverPrefix_2 post B (nI W) sent disc (k + 1) (nI j) (nI (R + j)) st (ms_cl pe R (R + j)) (ms_cl he R (R + j)) es (ms_im cw) (ms_im rt) (ms_im una) (ms_im nxt) (ms_im high) rn (ms_im cn) (ms_im cs) (ms_im cd) (ms_im cl) (ms_im rd) (ms_im rl) := by
  obtain ⟨h1, h2, h3⟩ := hm
  intro k
  induction k with
  | zero =>
    intro j hj
    have e : j = m := by omega
    subst e
    refine pk_le 256 (R + j) (fun _ => hp) (fun z => ⟨pk_in (R + j) 256 (by omega), br_t ?_ hp⟩)
    rw [nI_clamp (by omega), ms_clo (by omega)]
    rcases h3 with h3 | h3
    · omega
    · exact h3
  | succ k ih =>
    intro j hj
    have g := ih (j + 1) (by omega)
    rw [← Nat.add_assoc, ← ms_clS pe (Nat.le_add_right R j), ← ms_clS he (Nat.le_add_right R j)] at g
    refine pk_le 256 (R + j) (fun z => absurd z (by omega)) (fun z => ⟨pk_in (R + j) 256 (by omega), br_f ?_ ⟨pk_in (R + j) 256 (by omega), nm_r (by rw [nI_clamp (by omega), ms_n0]) ⟨pk_in (R + j) 256 (by omega), nm_r (by rw [nI_clamp (by omega), ms_n0]) (nm_r (nI_1 (R + j)) (nm_r (nI_1 j) g))⟩⟩⟩)
    rw [nI_clamp (by omega), ms_clo (by omega)]
    exact h2 j (by omega)
theorem ms_x_pre {post : Int32 → SX → Prop} {m : Nat} (hm : ms_px he R m) (hp : post (nI m) (ms_X B W (R + m) sent disc st (ms_cl pe R (R + m)) (ms_cl he R (R + m)) es cw rt una nxt high rn cn cs cd cl rd rl)) : wpX_deliverPrefix post (ms_X B W R sent disc st pe he es cw rt una nxt high rn cn cs cd cl rd rl) := by
  have h := ms_x_prel hm hp m 0 (Nat.zero_add m)
  rw [Nat.add_zero R, ms_cl0, ms_cl0] at h
  exact ⟨_, h⟩
theorem ms_x_ril {post : SX → Prop} {d l : Nat} (hd : d + l ≤ 256) (hR : R ≤ 256) (hp : post (ms_X B W R sent disc st (ms_ri pe R d l) he es cw rt una nxt high rn cn cs cd cl rd rl)) : ∀ m j, j + m = l → wX_reinject_2 post (nI d) (nI l) B (nI W) (nI R) sent disc (m + 1) (nI (d + j)) st (ms_ri pe R d j) he es (ms_im cw) (ms_im rt) (ms_im una) (ms_im nxt) (ms_im high) rn (ms_im cn) (ms_im cs) (ms_im cd) (ms_im cl) (ms_im rd) (ms_im rl) := by
  intro m
  induction m with
  | zero =>
    intro j hj
    have e : j = l := by omega
    subst e
    exact pk_le (d + j) (d + j) (fun _ => hp) (fun z => absurd z (by omega)) (nI_add d j)
  | succ m ih =>
    intro j hj
    have g := ih (j + 1) (by omega)
    refine pk_le (d + l) (d + j) (fun z => absurd z (by omega)) (fun _ => ?_) (nI_add d l)
    refine pk_lt (d + j) R (fun z => ?_) (fun z => ⟨pk_in (d + j) 256 (by omega), nm_r (by rw [nI_clamp (by omega), ms_n1, ms_riS pe z]) (nm_r (nI_1 (d + j)) g)⟩)
    rw [← ms_riK pe z] at g
    exact nm_r (nI_1 (d + j)) g
theorem ms_x_ri {post : SX → Prop} {d l : Nat} (hd : d + l ≤ 256) (hR : R ≤ 256) (hp : post (ms_X B W R sent disc st (ms_ri pe R d l) he es cw rt una nxt high rn cn cs cd cl rd rl)) : wpX_reinject post (ms_X B W R sent disc st pe he es cw rt una nxt high rn cn cs cd cl rd rl) (nI d) (nI l) := by
  have h := ms_x_ril hd hR hp l 0 (Nat.zero_add l)
  rw [ms_ri0] at h
  exact ⟨_, h⟩
end
end
section
section
variable {B : Int32} {W R : Nat} {sent disc : Int32} {st pe he es : Nat → Int32} {cw rt una nxt high : Nat → Nat} {rn : Nat → Int32} {cn cs cd cl rd rl : Nat → Nat} {a : Nat}
theorem ms_x_ref {post : Int32 → Prop} {e : Nat} (ha : a < 3) (hW : W ≤ 256) (hl : ms_lp pe R W e) (h1 : una a ≤ nxt a) (h2 : nxt a ≤ high a) (h3 : high a < 2 ^ 31) (hc : cw a ≤ 4096) (hn : cn a ≤ 8) (hp : post (ms_rf es cw una nxt high cn e W a)) : wpX_refusalOfSend post (ms_X B W R sent disc st pe he es cw rt una nxt high rn cn cs cd cl rd rl) (nI a) := by
  unfold ms_rf at hp
  have hw := ms_wib (cw a)
  have he2 := hl.2.1
  unfold wpX_refusalOfSend
  refine ms_x_sub ha ?_
  refine br_f (by decide) ?_
  refine ms_x_est ha ?_
  by_cases c1 : es a = 1
  · rw [if_pos c1]
    rw [if_neg (fun z => z c1)] at hp
    refine br_f (by decide) ⟨pk_in a 3 ha, pk_in a 3 ha, ms_x_win ha hc ?_⟩
    refine pk_lt (nxt a - una a) (ms_wi (cw a)) (fun c2 => ?_) (fun c2 => ?_) (by rw [ms_at (by omega), ms_at (by omega), pk_sub h1])
    · rw [if_neg (by omega)] at hp
      refine ⟨pk_in a 3 ha, pk_eq (cn a) 8 (fun c3 => ?_) (fun c3 => ?_) (ms_at (by omega))⟩
      · rw [if_pos c3] at hp
        exact hp
      · rw [if_neg c3] at hp
        refine ⟨pk_in a 3 ha, pk_in a 3 ha, pk_eq (nxt a) (high a) (fun c4 => ?_) (fun c4 => ?_) (ms_at (by omega)) (ms_at (by omega))⟩
        · refine ms_x_lp hW hl (pk_eq e W (fun c5 => ?_) (fun c5 => ?_))
          · rw [if_pos ⟨c4, c5⟩] at hp
            exact hp
          · rw [if_neg (fun z => c5 z.2)] at hp
            exact hp
        · rw [if_neg (fun z => c4 z.1)] at hp
          exact hp
    · rw [if_pos c2] at hp
      exact hp
  · rw [if_neg c1]
    rw [if_pos c1] at hp
    exact br_t rfl hp
theorem ms_x_mkx {post : SX → Prop} {e l : Nat} (ha : a < 3) (hh : high a < 2 ^ 30) (hp : post (ms_X B W R sent disc st pe he es cw rt una nxt (ms_un high a (high a + 1)) rn cn cs cd cl (ms_un rd (a * 8 + high a % 8) e) (ms_un rl (a * 8 + high a % 8) l))) : wX_makeRecord_48 post (nI a) (nI e) (nI l) B (nI W) (nI R) sent disc st pe he es (ms_im cw) (ms_im rt) (ms_im una) (ms_im nxt) (ms_im high) rn (ms_im cn) (ms_im cs) (ms_im cd) (ms_im cl) (ms_im rd) (ms_im rl) := by
  refine ⟨pk_in a 3 ha, ?_⟩
  rw [ms_at (by omega)]
  refine ms_x_slot (by omega) ?_
  exact ⟨pk_in (a * 8 + high a % 8) 24 (by omega), nm_r (ms_up (by omega)) ⟨pk_in (a * 8 + high a % 8) 24 (by omega), nm_r (ms_up (by omega)) ⟨pk_in a 3 ha, pk_in a 3 ha, nm_r (ms_ic2 (by omega)) hp⟩⟩⟩
theorem ms_x_mkl {post : SX → Prop} {e l : Nat} (ha : a < 3) (hh : high a < 2 ^ 30) (hW : W ≤ 256) (hl : ms_ln pe W e l) (hp : post (ms_X B W R sent disc st (ms_cl pe e (e + l)) he es cw rt una nxt (ms_un high a (high a + 1)) rn cn cs cd cl (ms_un rd (a * 8 + high a % 8) e) (ms_un rl (a * 8 + high a % 8) l))) : ∀ k j, j + k = l → wX_makeRecord_7 post (nI a) (nI e) B (nI W) (nI R) sent disc (k + 1) (nI j) st (ms_cl pe e (e + j)) he es (ms_im cw) (ms_im rt) (ms_im una) (ms_im nxt) (ms_im high) rn (ms_im cn) (ms_im cs) (ms_im cd) (ms_im cl) (ms_im rd) (ms_im rl) := by
  obtain ⟨h1, h2, h3, h4⟩ := hl
  have E : wX_makeRecord_48 post (nI a) (nI e) (nI l) B (nI W) (nI R) sent disc st (ms_cl pe e (e + l)) he es (ms_im cw) (ms_im rt) (ms_im una) (ms_im nxt) (ms_im high) rn (ms_im cn) (ms_im cs) (ms_im cd) (ms_im cl) (ms_im rd) (ms_im rl) := ms_x_mkx ha hh hp
  intro k
  induction k with
  | zero =>
    intro j hj
    have e0 : j = l := by omega
    subst e0
    refine pk_le 4 j (fun _ => E) (fun z => pk_le W (e + j) (fun _ => E) (fun z2 => ⟨pk_in (e + j) 256 (by omega) (nI_add e j), br_t ?_ E⟩) rfl (nI_add e j))
    rw [nI_add, nI_clamp (by omega), ms_clo (by omega)]
    rcases h4 with h4 | h4 | h4
    · omega
    · omega
    · exact h4
  | succ k ih =>
    intro j hj
    have g := ih (j + 1) (by omega)
    rw [← Nat.add_assoc, ← ms_clS pe (Nat.le_add_right e j)] at g
    refine pk_le 4 j (fun z => absurd z (by omega)) (fun z => pk_le W (e + j) (fun z => absurd z (by omega)) (fun z2 => ⟨pk_in (e + j) 256 (by omega) (nI_add e j), br_f ?_ ⟨pk_in (e + j) 256 (by omega) (nI_add e j), nm_r (by rw [nI_add, nI_clamp (by omega), ms_n0]) (nm_r (nI_1 j) g)⟩⟩) rfl (nI_add e j))
    rw [nI_add, nI_clamp (by omega), ms_clo (by omega)]
    exact h3 j (by omega)
theorem ms_x_mk {post : SX → Prop} {e l : Nat} (ha : a < 3) (hh : high a < 2 ^ 30) (hW : W ≤ 256) (hlp : ms_lp pe R W e) (hl : ms_ln pe W e l) (hp : post (ms_X B W R sent disc st (ms_cl pe e (e + l)) he es cw rt una nxt (ms_un high a (high a + 1)) rn cn cs cd cl (ms_un rd (a * 8 + high a % 8) e) (ms_un rl (a * 8 + high a % 8) l))) : wpX_makeRecord post (ms_X B W R sent disc st pe he es cw rt una nxt high rn cn cs cd cl rd rl) (nI a) := by
  have h := ms_x_mkl ha hh hW hl hp l 0 (Nat.zero_add l)
  rw [Nat.add_zero e, ms_cl0] at h
  exact ms_x_lp hW hlp ⟨_, h⟩
theorem ms_x_nj {post : Int32 → SX → Prop} (ha : a < 3) (hh : nxt a < 2 ^ 30) (hn : cn a < 8) (hp : post (nI (rl (a * 8 + nxt a % 8))) (ms_X B W R (sent + 1) disc st pe he es cw rt una (ms_un nxt a (nxt a + 1)) high rn (ms_un cn a (cn a + 1)) (ms_un cs (a * 8 + cn a) (nxt a)) (ms_un cd (a * 8 + cn a) (rd (a * 8 + nxt a % 8))) (ms_un cl (a * 8 + cn a) (rl (a * 8 + nxt a % 8))) rd rl)) : wX_sendNext_20 post (nI a) B (nI W) (nI R) sent disc st pe he es (ms_im cw) (ms_im rt) (ms_im una) (ms_im nxt) (ms_im high) rn (ms_im cn) (ms_im cs) (ms_im cd) (ms_im cl) (ms_im rd) (ms_im rl) := by
  refine ⟨pk_in a 3 ha, nm_r (ms_at (by omega)) (ms_x_slot (by omega) ⟨pk_in (a * 8 + nxt a % 8) 24 (by omega), pk_in (a * 8 + nxt a % 8) 24 (by omega), ?_⟩)⟩
  rw [ms_at (by omega), ms_at (by omega)]
  refine ms_x_app ha hn ⟨pk_in a 3 ha, pk_in a 3 ha, nm_r (ms_ic (by omega)) (nm_e ⟨pk_in (a * 8 + nxt a % 8) 24 (by omega), ?_⟩)⟩
  rw [ms_at (by omega)]
  exact hp
theorem ms_x_next1 {post : Int32 → SX → Prop} (ha : a < 3) (hh : nxt a < 2 ^ 30) (hh2 : high a < 2 ^ 30) (hne : nxt a ≠ high a) (hn : cn a < 8) (hp : post (nI (rl (a * 8 + nxt a % 8))) (ms_X B W R (sent + 1) disc st pe he es cw rt una (ms_un nxt a (nxt a + 1)) high rn (ms_un cn a (cn a + 1)) (ms_un cs (a * 8 + cn a) (nxt a)) (ms_un cd (a * 8 + cn a) (rd (a * 8 + nxt a % 8))) (ms_un cl (a * 8 + cn a) (rl (a * 8 + nxt a % 8))) rd rl)) : wpX_sendNext post (ms_X B W R sent disc st pe he es cw rt una nxt high rn cn cs cd cl rd rl) (nI a) :=
  ⟨pk_in a 3 ha, pk_in a 3 ha, pk_eq (nxt a) (high a) (fun z => absurd z hne) (fun _ => ms_x_nj ha hh hn hp) (ms_at (by omega)) (ms_at (by omega))⟩
theorem ms_x_next2 {post : Int32 → SX → Prop} {e l : Nat} (ha : a < 3) (hh : high a < 2 ^ 30) (hne : nxt a = high a) (hn : cn a < 8) (hW : W ≤ 256) (hlp : ms_lp pe R W e) (hl : ms_ln pe W e l) (hp : post (nI l) (ms_X B W R (sent + 1) disc st (ms_cl pe e (e + l)) he es cw rt una (ms_un nxt a (nxt a + 1)) (ms_un high a (high a + 1)) rn (ms_un cn a (cn a + 1)) (ms_un cs (a * 8 + cn a) (high a)) (ms_un cd (a * 8 + cn a) e) (ms_un cl (a * 8 + cn a) l) (ms_un rd (a * 8 + high a % 8) e) (ms_un rl (a * 8 + high a % 8) l))) : wpX_sendNext post (ms_X B W R sent disc st pe he es cw rt una nxt high rn cn cs cd cl rd rl) (nI a) := by
  refine ⟨pk_in a 3 ha, pk_in a 3 ha, pk_eq (nxt a) (high a) (fun _ => ms_x_mk ha hh hW hlp hl (ms_x_nj ha (by omega) hn ?_)) (fun z => absurd hne z) (ms_at (by omega)) (ms_at (by omega))⟩
  rw [hne, ms_us, ms_us]
  rw [hne] at hp
  exact hp
end
end
section
theorem ms_shR {f : Nat → Nat} {i q : Nat} (h : i ≤ q) (hq : q < 1000) : upd (ms_im (ms_sh f i q)) (nI (q + 1) - 1).toNatClampNeg (ms_im (ms_sh f i q) (nI (q + 1)).toNatClampNeg) = ms_im (ms_sh f i (q + 1)) := by
  rw [nI_pred, ms_at (by omega), ms_up (by omega), ms_shS f h]
section
variable {B : Int32} {W R : Nat} {sent disc : Int32} {st pe he es : Nat → Int32} {cw rt una nxt high : Nat → Nat} {rn : Nat → Int32} {cn cs cd cl : Nat → Nat} {N : Nat} {ysf yss yds yle : Nat → Nat} {a U : Nat}
theorem ms_y_sub {post : Int32 → Prop} (ha : a < 3) (hp : post 0) : wpY_bad post (ms_Y B W R R sent disc st pe he es cw rt una nxt high rn cn cs cd cl N ysf yss yds yle) (nI a) :=
  br_f (nI_pos (by omega)) (br_t (nI_le (b := 2) (by omega) (by decide)) hp)
theorem ms_y_nsb {post : Int32 → Prop} {x : Int32} (hx : x < 0 ∨ (3 : Int32) ≤ x) (hp : post 1) : wpY_bad post (ms_Y B W R R sent disc st pe he es cw rt una nxt high rn cn cs cd cl N ysf yss yds yle) x := by
  by_cases h : x < 0
  · exact br_t h hp
  · rcases hx with hx | hx
    · exact absurd hx h
    · refine br_f h (br_f ?_ hp)
      obtain ⟨j, hj, rfl⟩ := nI_of h
      have h3 : 3 ≤ j := by
        rw [← nI_leI (by decide) hj]
        exact hx
      exact nI_ge (a := 2) (by omega) hj
theorem ms_y_win {post : Int32 → Prop} (ha : a < 3) (hc : cw a ≤ 4096) (hp : post (nI (ms_wi (cw a)))) : wpY_window post (ms_Y B W R R sent disc st pe he es cw rt una nxt high rn cn cs cd cl N ysf yss yds yle) (nI a) := by
  refine ⟨pk_in a 3 ha, by decide, ?_⟩
  refine nm_r (e' := nI (cw a / 256)) ?_ ?_
  · rw [ms_at (by omega)]
    exact pk_div (d := 256) (by omega) (by decide) (by decide)
  · unfold ms_wi at hp
    have h8 : cw a / 256 < 2 ^ 31 := by omega
    refine pk_le (cw a / 256) 8 (fun z => ?_) (fun z => ?_)
    · rw [if_neg (by omega)] at hp
      exact hp
    · rw [if_pos z] at hp
      exact hp
theorem ms_y_any {post : Int32 → Prop} {e : Nat} (hW : W ≤ 256) (hl : ms_lp pe R W e) (hp : post (if e = W then 0 else 1)) : wpY_anyPending post (ms_Y B W R R sent disc st pe he es cw rt una nxt high rn cn cs cd cl N ysf yss yds yle) := by
  obtain ⟨h1, h2, h3, h4⟩ := hl
  refine pk_loop (σ := Unit) (fun n i _ => wY_anyPending_5 post B (nI N) (nI W) (nI R) (nI R) sent disc (ms_im rt) es (ms_im cw) (ms_im una) (ms_im nxt) (ms_im high) rn (ms_im cn) (ms_im cs) (ms_im cd) (ms_im cl) (ms_im ysf) (ms_im yss) (ms_im yds) (ms_im yle) st pe he n (nI i)) (fun i _ => R ≤ i) e R () h1 (Nat.le_refl R) ?_ ?_
  · intro n _ _
    refine pk_le W e (fun z => ?_) (fun z => br_f (nI_pos (by omega)) (pk_le 256 e (fun z2 => absurd z2 (by omega)) (fun _ => ⟨pk_in e 256 (by omega), br_f (by rw [nI_clamp (by omega)]; exact h4 z) ?_⟩)))
    · rw [if_pos (show e = W by omega)] at hp
      exact hp
    · rw [if_neg (by omega)] at hp
      exact hp
  · intro n i _ hi hr hw
    exact pk_le W i (fun z => absurd z (by omega)) (fun z => br_f (nI_pos (by omega)) (pk_le 256 i (fun z2 => absurd z2 (by omega)) (fun _ => ⟨pk_in i 256 (by omega), br_t (by rw [nI_clamp (by omega)]; exact h3 i hr hi) (nm_r (nI_1 i) (hw () (by omega)))⟩)))
theorem ms_y_el {post : Int32 → Prop} {e : Nat} (ha : a < 3) (hW : W ≤ 256) (hl : ms_lp pe R W e) (h1 : una a ≤ nxt a) (h2 : nxt a ≤ high a) (h3 : high a < 2 ^ 31) (hc : cw a ≤ 4096) (hn : cn a ≤ 8) (hp : post (if ms_rf es cw una nxt high cn e W a = 0 then 1 else 0)) : wpY_eligible post (ms_Y B W R R sent disc st pe he es cw rt una nxt high rn cn cs cd cl N ysf yss yds yle) (nI a) := by
  have hw := ms_wib (cw a)
  have he2 := hl.2.1
  refine ⟨pk_in a 3 ha, ?_⟩
  rw [nI_clamp (show a < 2 ^ 31 by omega)]
  by_cases c1 : es a = 1
  · refine br_t c1 ⟨pk_in a 3 ha, pk_in a 3 ha, ms_y_win ha hc ?_⟩
    refine pk_lt (nxt a - una a) (ms_wi (cw a)) (fun c2 => ?_) (fun c2 => ?_) (pk_sub h1)
    · have c2' : ¬ ms_wi (cw a) ≤ nxt a - una a := by omega
      refine ⟨pk_in a 3 ha, pk_lt (cn a) 8 (fun c3 => ?_) (fun c3 => ?_)⟩
      · have c3' : ¬ cn a = 8 := by omega
        refine ⟨pk_in a 3 ha, pk_in a 3 ha, pk_le (high a) (nxt a) (fun c4 => ?_) (fun c4 => ?_)⟩
        · refine ms_y_any hW hl ?_
          by_cases c5 : e = W
          · rw [ms_rfD c1 c2' c3' ⟨by omega, c5⟩, if_neg (by decide)] at hp
            rw [if_pos c5]
            exact ⟨rfl, hp⟩
          · rw [ms_rfE c1 c2' c3' (fun z => c5 z.2), if_pos rfl] at hp
            rw [if_neg c5]
            exact ⟨rfl, hp⟩
        · rw [ms_rfE c1 c2' c3' (by omega), if_pos rfl] at hp
          exact hp
      · rw [ms_rfC c1 c2' (by omega), if_neg (by decide)] at hp
        exact hp
    · rw [ms_rfB c1 c2, if_neg (by decide)] at hp
      exact hp
  · rw [ms_rfA c1, if_neg (by decide)] at hp
    exact br_f c1 hp
theorem ms_y_push {post : SY → Prop} {s d l : Nat} (ha : a < 3) (hn : cn a < 8) (hp : post (ms_Y B W R R sent disc st pe he es cw rt una nxt high rn (ms_un cn a (cn a + 1)) (ms_un cs (a * 8 + cn a) s) (ms_un cd (a * 8 + cn a) d) (ms_un cl (a * 8 + cn a) l) N ysf yss yds yle)) : wpY_push post (ms_Y B W R R sent disc st pe he es cw rt una nxt high rn cn cs cd cl N ysf yss yds yle) (nI a) (nI s) (nI d) (nI l) :=
  ⟨pk_in a 3 ha, pk_lt (cn a) 8 (fun _ => ⟨pk_in a 3 ha, nm_r (e' := nI (a * 8 + cn a)) (by rw [ms_at (by omega)]; exact ms_sl a (cn a)) ⟨pk_in (a * 8 + cn a) 24 (by omega), nm_r (ms_up (by omega)) ⟨pk_in (a * 8 + cn a) 24 (by omega), nm_r (ms_up (by omega)) ⟨pk_in (a * 8 + cn a) 24 (by omega), nm_r (ms_up (by omega)) ⟨pk_in a 3 ha, pk_in a 3 ha, nm_r (ms_ic (by omega)) hp⟩⟩⟩⟩⟩) (fun z => absurd z (by omega)) (ms_at (by omega))⟩
theorem ms_y_popx {post : SY → Prop} (ha : a < 3) (h0 : 0 < cn a) (h8 : cn a ≤ 8) (hp : post (ms_Y B W R R sent disc st pe he es cw rt una nxt high rn (ms_un cn a (cn a - 1)) cs cd cl N ysf yss yds yle)) : wY_popHead_83 post (nI a) B (nI N) (nI W) (nI R) (nI R) sent disc (ms_im rt) es (ms_im cw) (ms_im una) (ms_im nxt) (ms_im high) rn (ms_im cn) (ms_im cs) (ms_im cd) (ms_im cl) (ms_im ysf) (ms_im yss) (ms_im yds) (ms_im yle) st pe he :=
  ⟨pk_in a 3 ha, pk_le (cn a) 0 (fun z => absurd z (by omega)) (fun _ => ⟨pk_in a 3 ha, pk_in a 3 ha, nm_r (by rw [ms_at (by omega), ms_d1 h0]; exact ms_up (by omega)) hp⟩) (ms_at (by omega))⟩
theorem ms_y_popl {post : SY → Prop} (ha : a < 3) (h0 : 0 < cn a) (h8 : cn a ≤ 8) (hp : post (ms_Y B W R R sent disc st pe he es cw rt una nxt high rn (ms_un cn a (cn a - 1)) (ms_sh cs (a * 8) (a * 8 + (cn a - 1))) (ms_sh cd (a * 8) (a * 8 + (cn a - 1))) (ms_sh cl (a * 8) (a * 8 + (cn a - 1))) N ysf yss yds yle)) : ∀ d j, j + d = cn a - 1 → wY_popHead_7 post (nI a) (nI (a * 8)) B (nI N) (nI W) (nI R) (nI R) sent disc (d + 1) (nI (j + 1)) (ms_im rt) es (ms_im cw) (ms_im una) (ms_im nxt) (ms_im high) rn (ms_im cn) (ms_im (ms_sh cs (a * 8) (a * 8 + j))) (ms_im (ms_sh cd (a * 8) (a * 8 + j))) (ms_im (ms_sh cl (a * 8) (a * 8 + j))) (ms_im ysf) (ms_im yss) (ms_im yds) (ms_im yle) st pe he := by
  intro d
  induction d with
  | zero =>
    intro j hj
    have e : j = cn a - 1 := by omega
    subst e
    exact ⟨pk_in a 3 ha, pk_le (cn a) (cn a - 1 + 1) (fun _ => ms_y_popx ha h0 h8 hp) (fun z => absurd z (by omega)) (ms_at (by omega))⟩
  | succ d ih =>
    intro j hj
    have b1 : nI (a * 8) + nI (j + 1) = nI (a * 8 + j + 1) := nI_add _ _
    have b2 : (nI (a * 8) + nI (j + 1)) - 1 = nI (a * 8 + j) := by rw [b1, nI_pred]
    exact ⟨pk_in a 3 ha, pk_le (cn a) (j + 1) (fun z => absurd z (by omega)) (fun _ => pk_le 8 (j + 1) (fun z => absurd z (by omega)) (fun _ => ⟨pk_in (a * 8 + j + 1) 24 (by omega) b1, pk_in (a * 8 + j) 24 (by omega) b2, nm_r (ms_shY (by omega)) ⟨pk_in (a * 8 + j + 1) 24 (by omega) b1, pk_in (a * 8 + j) 24 (by omega) b2, nm_r (ms_shY (by omega)) ⟨pk_in (a * 8 + j + 1) 24 (by omega) b1, pk_in (a * 8 + j) 24 (by omega) b2, nm_r (ms_shY (by omega)) (nm_r (nI_1 (j + 1)) (ih (j + 1) (by omega)))⟩⟩⟩)) (ms_at (by omega))⟩
theorem ms_y_pop {post : SY → Prop} (ha : a < 3) (h0 : 0 < cn a) (h8 : cn a ≤ 8) (hp : post (ms_Y B W R R sent disc st pe he es cw rt una nxt high rn (ms_un cn a (cn a - 1)) (ms_sh cs (a * 8) (a * 8 + (cn a - 1))) (ms_sh cd (a * 8) (a * 8 + (cn a - 1))) (ms_sh cl (a * 8) (a * 8 + (cn a - 1))) N ysf yss yds yle)) : wpY_popHead post (ms_Y B W R R sent disc st pe he es cw rt una nxt high rn cn cs cd cl N ysf yss yds yle) (nI a) := by
  have h := ms_y_popl ha h0 h8 hp (cn a - 1) 0 (Nat.zero_add _)
  rw [Nat.add_zero (a * 8), ms_sh0, ms_sh0, ms_sh0] at h
  exact nm_r (ms_m8 a) ⟨_, h⟩
theorem ms_y_find {post : Int32 → Prop} {b j : Nat} (hN : N ≤ 24) (hj : j < N) (h1 : ysf j = a) (h2 : yss j = b) (h3 : ∀ i, i < j → ¬ (ysf i = a ∧ yss i = b)) (hb : ∀ i, i < N → ysf i < 2 ^ 31 ∧ yss i < 2 ^ 31) (hp : post (nI j)) : wpY_findRecord post (ms_Y B W R R sent disc st pe he es cw rt una nxt high rn cn cs cd cl N ysf yss yds yle) (nI a) (nI b) := by
  have ha : a < 2 ^ 31 := by rw [← h1]; exact (hb j hj).1
  have hbb : b < 2 ^ 31 := by rw [← h2]; exact (hb j hj).2
  refine pk_loop (σ := Unit) (fun n i _ => wY_findRecord_2 post (nI a) (nI b) B (nI N) (nI W) (nI R) (nI R) sent disc (ms_im rt) es (ms_im cw) (ms_im una) (ms_im nxt) (ms_im high) rn (ms_im cn) (ms_im cs) (ms_im cd) (ms_im cl) (ms_im ysf) (ms_im yss) (ms_im yds) (ms_im yle) st pe he n (nI i)) (fun _ _ => True) j 0 () (Nat.zero_le j) trivial ?_ ?_
  · intro n _ _
    exact pk_le N j (fun z => absurd z (by omega)) (fun _ => pk_le 24 j (fun z => absurd z (by omega)) (fun _ => ⟨pk_in j 24 (by omega), br_t (by rw [ms_at (by omega), h1]) ⟨pk_in j 24 (by omega), br_t (by rw [ms_at (by omega), h2]) hp⟩⟩))
  · intro n i _ hi _ hw
    have g := nm_r (P := fun x => wY_findRecord_2 post (nI a) (nI b) B (nI N) (nI W) (nI R) (nI R) sent disc (ms_im rt) es (ms_im cw) (ms_im una) (ms_im nxt) (ms_im high) rn (ms_im cn) (ms_im cs) (ms_im cd) (ms_im cl) (ms_im ysf) (ms_im yss) (ms_im yds) (ms_im yle) st pe he n x) (nI_1 i) (hw () trivial)
    have hbi := hb i (by omega)
    refine pk_le N i (fun z => absurd z (by omega)) (fun _ => pk_le 24 i (fun z => absurd z (by omega)) (fun _ => ⟨pk_in i 24 (by omega), pk_eq (ysf i) a (fun q => ⟨pk_in i 24 (by omega), pk_eq (yss i) b (fun q2 => absurd ⟨q, q2⟩ (h3 i hi)) (fun _ => g) (ms_at (by omega)) rfl hbi.2 hbb⟩) (fun _ => g) (ms_at (by omega)) rfl hbi.1 ha⟩))
theorem ms_y_reml {post : SY → Prop} {i : Nat} (hN : N ≤ 24) (hi : i < N) (hp : post (ms_Y B W U R sent disc st pe he es cw rt una nxt high rn cn cs cd cl (N - 1) (ms_sh ysf i (N - 1)) (ms_sh yss i (N - 1)) (ms_sh yds i (N - 1)) (ms_sh yle i (N - 1)))) : ∀ k q, q + k = N - 1 → i ≤ q → wY_removeRecord_4 post B (nI N) (nI W) (nI U) (nI R) sent disc (k + 1) (nI (q + 1)) (ms_im rt) es (ms_im cw) (ms_im una) (ms_im nxt) (ms_im high) rn (ms_im cn) (ms_im cs) (ms_im cd) (ms_im cl) (ms_im (ms_sh ysf i q)) (ms_im (ms_sh yss i q)) (ms_im (ms_sh yds i q)) (ms_im (ms_sh yle i q)) st pe he := by
  intro k
  induction k with
  | zero =>
    intro q hq hl
    have e : q = N - 1 := by omega
    subst e
    exact pk_le N (N - 1 + 1) (fun _ => pk_le N 0 (fun z => absurd z (by omega)) (fun _ => nm_r (ms_d1 (by omega)) hp)) (fun z => absurd z (by omega))
  | succ k ih =>
    intro q hq hl
    have b2 : nI (q + 1) - 1 = nI q := nI_pred q
    exact pk_le N (q + 1) (fun z => absurd z (by omega)) (fun _ => pk_le 24 (q + 1) (fun z => absurd z (by omega)) (fun _ => ⟨pk_in (q + 1) 24 (by omega), pk_in q 24 (by omega) b2, nm_r (ms_shR hl (by omega)) ⟨pk_in (q + 1) 24 (by omega), pk_in q 24 (by omega) b2, nm_r (ms_shR hl (by omega)) ⟨pk_in (q + 1) 24 (by omega), pk_in q 24 (by omega) b2, nm_r (ms_shR hl (by omega)) ⟨pk_in (q + 1) 24 (by omega), pk_in q 24 (by omega) b2, nm_r (ms_shR hl (by omega)) (nm_r (nI_1 (q + 1)) (ih (q + 1) (by omega) (by omega)))⟩⟩⟩⟩))
theorem ms_y_rem {post : SY → Prop} {i : Nat} (hN : N ≤ 24) (hi : i < N) (hp : post (ms_Y B W U R sent disc st pe he es cw rt una nxt high rn cn cs cd cl (N - 1) (ms_sh ysf i (N - 1)) (ms_sh yss i (N - 1)) (ms_sh yds i (N - 1)) (ms_sh yle i (N - 1)))) : wpY_removeRecord post (ms_Y B W U R sent disc st pe he es cw rt una nxt high rn cn cs cd cl N ysf yss yds yle) (nI i) := by
  have h := ms_y_reml hN hi hp (N - 1 - i) i (by omega) (Nat.le_refl i)
  rw [ms_sh0, ms_sh0, ms_sh0, ms_sh0] at h
  exact nm_r (nI_1 i) ⟨_, h⟩
end
end
section
section
variable {B : Int32} {W R : Nat} {sent disc : Int32} {st pe he es : Nat → Int32} {cw rt una nxt high : Nat → Nat} {rn : Nat → Int32} {cn cs cd cl : Nat → Nat} {N : Nat} {ysf yss yds yle : Nat → Nat} {a U : Nat}
/-- the end of a new record: list, channel, counters -/
theorem ms_y_se {post : Int32 → SY → Prop} {d l : Nat} (ha : a < 3) (hn : cn a < 8) (hh : high a < 2 ^ 30) (hx : nxt a < 2 ^ 30) (hp : post (nI l) (ms_Y B W R R (sent + 1) disc st pe he es cw rt una (ms_un nxt a (nxt a + 1)) (ms_un high a (high a + 1)) rn (ms_un cn a (cn a + 1)) (ms_un cs (a * 8 + cn a) (high a)) (ms_un cd (a * 8 + cn a) d) (ms_un cl (a * 8 + cn a) l) N ysf yss yds yle)) : wY_send_343 post (nI a) (nI d) (nI l) B (nI N) (nI W) (nI R) (nI R) sent disc (ms_im rt) es (ms_im cw) (ms_im una) (ms_im nxt) (ms_im high) rn (ms_im cn) (ms_im cs) (ms_im cd) (ms_im cl) (ms_im ysf) (ms_im yss) (ms_im yds) (ms_im yle) st pe he := by
  refine ⟨pk_in a 3 ha, ?_⟩
  rw [ms_at (by omega)]
  exact ms_y_push ha hn ⟨pk_in a 3 ha, pk_in a 3 ha, nm_r (ms_ic (by omega)) ⟨pk_in a 3 ha, pk_in a 3 ha, nm_r (ms_ic (by omega)) (nm_e hp)⟩⟩
theorem ms_y_sc {post : Int32 → SY → Prop} {d l : Nat} (ha : a < 3) (hn : cn a < 8) (hh : high a < 2 ^ 30) (hx : nxt a < 2 ^ 30) (hN : N < 24) (hd : d + l ≤ 256) (hp : post (nI l) (ms_Y B W R R (sent + 1) disc st (ms_cl pe d (d + l)) he es cw rt una (ms_un nxt a (nxt a + 1)) (ms_un high a (high a + 1)) rn (ms_un cn a (cn a + 1)) (ms_un cs (a * 8 + cn a) (high a)) (ms_un cd (a * 8 + cn a) d) (ms_un cl (a * 8 + cn a) l) (N + 1) (ms_un ysf N a) (ms_un yss N (high a)) (ms_un yds N d) (ms_un yle N l))) : ∀ k j, j + k = l → wY_send_257 post (nI a) (nI d) (nI l) B (nI N) (nI W) (nI R) (nI R) sent disc (k + 1) (nI j) (ms_im rt) es (ms_im cw) (ms_im una) (ms_im nxt) (ms_im high) rn (ms_im cn) (ms_im cs) (ms_im cd) (ms_im cl) (ms_im ysf) (ms_im yss) (ms_im yds) (ms_im yle) st (ms_cl pe d (d + j)) he := by
  intro k
  induction k with
  | zero =>
    intro j hj
    have e : j = l := by omega
    subst e
    refine pk_le j j (fun _ => pk_le 24 N (fun z => absurd z (by omega)) (fun _ => ⟨pk_in N 24 hN, nm_r (ms_up (by omega)) ⟨pk_in a 3 ha, pk_in N 24 hN, nm_r (by rw [ms_at (by omega)]; exact ms_up (by omega)) ⟨pk_in N 24 hN, nm_r (ms_up (by omega)) ⟨pk_in N 24 hN, nm_r (ms_up (by omega)) (nm_r (nI_1 N) (ms_y_se ha hn hh hx hp))⟩⟩⟩⟩)) (fun z => absurd z (by omega))
  | succ k ih =>
    intro j hj
    have g := ih (j + 1) (by omega)
    rw [← Nat.add_assoc, ← ms_clS pe (Nat.le_add_right d j)] at g
    exact pk_le l j (fun z => absurd z (by omega)) (fun _ => ⟨pk_in (d + j) 256 (by omega) (nI_add d j), nm_r (by rw [nI_add, nI_clamp (by omega), ms_n0]) (nm_r (nI_1 j) g)⟩)
/-- the length is counted -/
theorem ms_y_sl {post : Int32 → SY → Prop} {d l : Nat} (hl : ms_ln pe W d l) (hW : W ≤ 256) (H : ∃ n, wY_send_257 post (nI a) (nI d) (nI l) B (nI N) (nI W) (nI R) (nI R) sent disc n 0 (ms_im rt) es (ms_im cw) (ms_im una) (ms_im nxt) (ms_im high) rn (ms_im cn) (ms_im cs) (ms_im cd) (ms_im cl) (ms_im ysf) (ms_im yss) (ms_im yds) (ms_im yle) st pe he) : ∀ k j, j + k = l → wY_send_203 post (nI a) (nI d) B (nI N) (nI W) (nI R) (nI R) sent disc (ms_im rt) es (ms_im cw) (ms_im una) (ms_im nxt) (ms_im high) rn (ms_im cn) (ms_im cs) (ms_im cd) (ms_im cl) (ms_im ysf) (ms_im yss) (ms_im yds) (ms_im yle) st pe he (k + 1) (nI j) (nI j) := by
  obtain ⟨h1, h2, h3, h4⟩ := hl
  intro k
  induction k with
  | zero =>
    intro j hj
    have e : j = l := by omega
    subst e
    refine pk_le 4 j (fun _ => H) (fun z => nm_r (nI_add d j) (pk_le W (d + j) (fun _ => H) (fun z2 => pk_lt 255 (d + j) (fun z => absurd z (by omega)) (fun _ => ⟨pk_in (d + j) 256 (by omega), br_t ?_ H⟩))))
    rw [nI_clamp (by omega)]
    rcases h4 with h4 | h4 | h4
    · omega
    · omega
    · exact h4
  | succ k ih =>
    intro j hj
    have g := ih (j + 1) (by omega)
    refine pk_le 4 j (fun z => absurd z (by omega)) (fun z => nm_r (nI_add d j) (pk_le W (d + j) (fun z => absurd z (by omega)) (fun z2 => pk_lt 255 (d + j) (fun z => absurd z (by omega)) (fun _ => ⟨pk_in (d + j) 256 (by omega), br_f ?_ (nm_r (nI_1 j) (nm_r (nI_1 j) g))⟩))))
    rw [nI_clamp (by omega)]
    exact h3 j (by omega)
/-- the least pending offset is looked for -/
theorem ms_y_sf {post : Int32 → SY → Prop} {e : Nat} (hW : W ≤ 256) (hl : ms_lp pe R W e) (H1 : e = W → wY_send_191 post (nI a) (-1) B (nI N) (nI W) (nI R) (nI R) sent disc (ms_im rt) es (ms_im cw) (ms_im una) (ms_im nxt) (ms_im high) rn (ms_im cn) (ms_im cs) (ms_im cd) (ms_im cl) (ms_im ysf) (ms_im yss) (ms_im yds) (ms_im yle) st pe he) (H2 : e < W → wY_send_191 post (nI a) (nI e) B (nI N) (nI W) (nI R) (nI R) sent disc (ms_im rt) es (ms_im cw) (ms_im una) (ms_im nxt) (ms_im high) rn (ms_im cn) (ms_im cs) (ms_im cd) (ms_im cl) (ms_im ysf) (ms_im yss) (ms_im yds) (ms_im yle) st pe he) : ∃ n, wY_send_152 post (nI a) (-1) B (nI N) (nI W) (nI R) (nI R) sent disc (ms_im rt) es (ms_im cw) (ms_im una) (ms_im nxt) (ms_im high) rn (ms_im cn) (ms_im cs) (ms_im cd) (ms_im cl) (ms_im ysf) (ms_im yss) (ms_im yds) (ms_im yle) st pe he n (nI R) := by
  obtain ⟨h1, h2, h3, h4⟩ := hl
  refine pk_loop (σ := Unit) (fun n i _ => wY_send_152 post (nI a) (-1) B (nI N) (nI W) (nI R) (nI R) sent disc (ms_im rt) es (ms_im cw) (ms_im una) (ms_im nxt) (ms_im high) rn (ms_im cn) (ms_im cs) (ms_im cd) (ms_im cl) (ms_im ysf) (ms_im yss) (ms_im yds) (ms_im yle) st pe he n (nI i)) (fun i _ => R ≤ i) e R () h1 (Nat.le_refl R) ?_ ?_
  · intro n _ _
    exact pk_le W e (fun z => H1 (by omega)) (fun z => br_f (nI_pos (by omega)) (pk_le 256 e (fun z2 => absurd z2 (by omega)) (fun _ => ⟨pk_in e 256 (by omega), br_f (by rw [nI_clamp (by omega)]; exact h4 z) (H2 z)⟩)))
  · intro n i _ hi hr hw
    exact pk_le W i (fun z => absurd z (by omega)) (fun z => br_f (nI_pos (by omega)) (pk_le 256 i (fun z2 => absurd z2 (by omega)) (fun _ => ⟨pk_in i 256 (by omega), br_t (by rw [nI_clamp (by omega)]; exact h3 i hr hi) (nm_r (nI_1 i) (hw () (by omega)))⟩)))
/-- how send begins: H is asked where all four tests are passed -/
theorem ms_y_s0 {post : Int32 → SY → Prop} {e : Nat} (ha : a < 3) (hW : W ≤ 256) (hl : ms_lp pe R W e) (h1 : una a ≤ nxt a) (h2 : nxt a ≤ high a) (h3 : high a < 2 ^ 30) (hc : cw a ≤ 4096) (hn : cn a ≤ 8)
    (H : ms_rf es cw una nxt high cn e W a = 0 → wpY_send post (ms_Y B W R R sent disc st pe he es cw rt una nxt high rn cn cs cd cl N ysf yss yds yle) (nI a)) (hp : post (ms_rf es cw una nxt high cn e W a) (ms_Y B W R R sent disc st pe he es cw rt una nxt high rn cn cs cd cl N ysf yss yds yle)) : wpY_send post (ms_Y B W R R sent disc st pe he es cw rt una nxt high rn cn cs cd cl N ysf yss yds yle) (nI a) := by
  have hw := ms_wib (cw a)
  by_cases c0 : ms_rf es cw una nxt high cn e W a = 0
  · exact H c0
  · unfold ms_rf at hp c0
    unfold wpY_send
    refine ms_y_sub ha ?_
    refine br_t rfl ⟨pk_in a 3 ha, ?_⟩
    rw [nI_clamp (show a < 2 ^ 31 by omega)]
    by_cases c1 : es a = 1
    · rw [if_neg (fun z => z c1)] at hp c0
      refine br_t c1 ⟨pk_in a 3 ha, pk_in a 3 ha, ms_y_win ha hc ?_⟩
      refine pk_lt (nxt a - una a) (ms_wi (cw a)) (fun c2 => ?_) (fun c2 => ?_) (pk_sub h1)
      · rw [if_neg (show ¬ ms_wi (cw a) ≤ nxt a - una a by omega)] at hp c0
        refine ⟨pk_in a 3 ha, pk_lt (cn a) 8 (fun c3 => ?_) (fun c3 => ?_)⟩
        · rw [if_neg (show ¬ cn a = 8 by omega)] at hp c0
          by_cases c4 : nxt a = high a ∧ e = W
          · rw [if_pos c4] at hp
            refine ⟨pk_in a 3 ha, pk_in a 3 ha, pk_le (high a) (nxt a) (fun _ => ms_y_sf hW hl (fun _ => br_f (by decide) hp) (fun z => absurd z (by omega))) (fun z => absurd z (by omega))⟩
          · rw [if_neg c4] at c0
            exact absurd rfl c0
        · rw [if_pos (show cn a = 8 by omega)] at hp
          exact hp
      · rw [if_pos c2] at hp
        exact hp
    · rw [if_pos c1] at hp
      exact br_f c1 hp
/-- a segment is sent again -/
theorem ms_y_s1 {post : Int32 → SY → Prop} {j : Nat} (ha : a < 3) (he1 : es a = 1) (h1 : una a ≤ nxt a) (hw : nxt a - una a < ms_wi (cw a)) (hc : cw a ≤ 4096) (hn : cn a < 8) (hx : nxt a < high a) (hh : high a < 2 ^ 30) (hN : N ≤ 24) (hj : j < N) (g1 : ysf j = a) (g2 : yss j = nxt a) (g3 : ∀ i, i < j → ¬ (ysf i = a ∧ yss i = nxt a)) (hb : ∀ i, i < N → ysf i < 2 ^ 31 ∧ yss i < 2 ^ 31)
    (hp : post (nI (yle j)) (ms_Y B W R R (sent + 1) disc st pe he es cw rt una (ms_un nxt a (nxt a + 1)) high rn (ms_un cn a (cn a + 1)) (ms_un cs (a * 8 + cn a) (nxt a)) (ms_un cd (a * 8 + cn a) (yds j)) (ms_un cl (a * 8 + cn a) (yle j)) N ysf yss yds yle)) : wpY_send post (ms_Y B W R R sent disc st pe he es cw rt una nxt high rn cn cs cd cl N ysf yss yds yle) (nI a) := by
  have hw8 := ms_wib (cw a)
  unfold wpY_send
  refine ms_y_sub ha ?_
  refine br_t rfl ⟨pk_in a 3 ha, ?_⟩
  rw [nI_clamp (show a < 2 ^ 31 by omega)]
  refine br_t he1 ⟨pk_in a 3 ha, pk_in a 3 ha, ms_y_win ha hc ?_⟩
  refine pk_lt (nxt a - una a) (ms_wi (cw a)) (fun _ => ?_) (fun z => absurd z (by omega)) (pk_sub h1)
  refine ⟨pk_in a 3 ha, pk_lt (cn a) 8 (fun _ => ?_) (fun z => absurd z (by omega))⟩
  refine ⟨pk_in a 3 ha, pk_in a 3 ha, pk_le (high a) (nxt a) (fun z => absurd z (by omega)) (fun _ => ⟨pk_in a 3 ha, ?_⟩)⟩
  refine ms_y_find hN hj g1 g2 g3 hb (br_t (nI_pos' (by omega)) ⟨pk_in j 24 (by omega), pk_in j 24 (by omega), pk_in j 24 (by omega), ?_⟩)
  rw [ms_at (by omega), ms_at (by omega), ms_at (by omega), g2]
  refine ms_y_push ha hn ⟨pk_in a 3 ha, pk_in a 3 ha, nm_r ms_ic0 (nm_e ⟨pk_in j 24 (by omega), ?_⟩)⟩
  rw [ms_at (by omega)]
  exact hp
/-- a new segment is sent -/
theorem ms_y_s2 {post : Int32 → SY → Prop} {e l : Nat} (ha : a < 3) (he1 : es a = 1) (h1 : una a ≤ nxt a) (hw : nxt a - una a < ms_wi (cw a)) (hc : cw a ≤ 4096) (hn : cn a < 8) (hx : nxt a = high a) (hh : high a < 2 ^ 30) (hN : N < 24) (hW : W ≤ 256) (hlp : ms_lp pe R W e) (heW : e < W) (hl : ms_ln pe W e l)
    (hp : post (nI l) (ms_Y B W R R (sent + 1) disc st (ms_cl pe e (e + l)) he es cw rt una (ms_un nxt a (nxt a + 1)) (ms_un high a (high a + 1)) rn (ms_un cn a (cn a + 1)) (ms_un cs (a * 8 + cn a) (high a)) (ms_un cd (a * 8 + cn a) e) (ms_un cl (a * 8 + cn a) l) (N + 1) (ms_un ysf N a) (ms_un yss N (high a)) (ms_un yds N e) (ms_un yle N l))) : wpY_send post (ms_Y B W R R sent disc st pe he es cw rt una nxt high rn cn cs cd cl N ysf yss yds yle) (nI a) := by
  have hw8 := ms_wib (cw a)
  have hl2 := hl.2.1
  have hC := ms_y_sc ha hn hh (by omega) hN (by omega) hp l 0 (Nat.zero_add l)
  rw [Nat.add_zero e, ms_cl0] at hC
  have hL := ms_y_sl hl hW ⟨_, hC⟩ l 0 (Nat.zero_add l)
  unfold wpY_send
  refine ms_y_sub ha ?_
  refine br_t rfl ⟨pk_in a 3 ha, ?_⟩
  rw [nI_clamp (show a < 2 ^ 31 by omega)]
  refine br_t he1 ⟨pk_in a 3 ha, pk_in a 3 ha, ms_y_win ha hc ?_⟩
  refine pk_lt (nxt a - una a) (ms_wi (cw a)) (fun _ => ?_) (fun z => absurd z (by omega)) (pk_sub h1)
  refine ⟨pk_in a 3 ha, pk_lt (cn a) 8 (fun _ => ?_) (fun z => absurd z (by omega))⟩
  refine ⟨pk_in a 3 ha, pk_in a 3 ha, pk_le (high a) (nxt a) (fun _ => ?_) (fun z => absurd z (by omega))⟩
  exact ms_y_sf hW hlp (fun z => absurd z (by omega)) (fun _ => br_t (nI_pos' (by omega)) ⟨_, hL⟩)
end
end
section
section
variable {B : Int32} {W R : Nat} {sent disc : Int32} {st pe he es : Nat → Int32} {cw rt una nxt high : Nat → Nat} {rn : Nat → Int32} {cn cs cd cl rd rl : Nat → Nat} {N : Nat} {ysf yss yds yle : Nat → Nat} {a h c : Nat}
theorem ms_k_b (hct : ms_ct h es una nxt high rn) (hrc : ms_rc W es una high rd rl N ysf yss yds yle) (hh : h < 2 ^ 30) : ∀ i, i < N → ysf i < 2 ^ 31 ∧ yss i < 2 ^ 31 := by
  intro i hi
  obtain ⟨w1, _, _, w4, _⟩ := hrc.2.2.1 _ _ _ _ ⟨i, hi, rfl, rfl, rfl, rfl⟩
  obtain ⟨_, _, _, q4, _⟩ := hct _ w1
  exact ⟨by omega, by omega⟩
/-- one segment is sent, on both sides alike -/
theorem ms_step {e : Nat} (ha : a < 3) (hfg : ms_fg R W pe he) (hct : ms_ct h es una nxt high rn) (hwd : ms_wd cw rt) (hch : ms_ch W high cn cs cd cl) (hrc : ms_rc W es una high rd rl N ysf yss yds yle) (hsm : c ≤ ms_sm una nxt) (hh : h < 2 ^ 29) (hlp : ms_lp pe R W e) (h0 : ms_rf es cw una nxt high cn e W a = 0) :
    ∃ (l : Nat) (u' : SX) (v' : SY), 1 ≤ l ∧ l ≤ 4 ∧ ms_R (h + 1) (c + 1) u' v' ∧ (∀ post : Int32 → SX → Prop, post (nI l) u' → wpX_sendNext post (ms_X B W R sent disc st pe he es cw rt una nxt high rn cn cs cd cl rd rl) (nI a)) ∧ (∀ post : Int32 → SY → Prop, post (nI l) v' → wpY_send post (ms_Y B W R R sent disc st pe he es cw rt una nxt high rn cn cs cd cl N ysf yss yds yle) (nI a)) := by
  obtain ⟨es1, w1, n8, enW⟩ := ms_rf0 h0
  obtain ⟨c1, c2, c3, c4, _⟩ := hct a ha
  obtain ⟨_, d2, _, _⟩ := hwd a ha
  obtain ⟨k8, _⟩ := hch a ha
  have f2 := hfg.2.1
  have w8 := ms_wib (cw a)
  have hs : c + 1 ≤ ms_sm una (ms_un nxt a (nxt a + 1)) := by rw [ms_smS ha c1]; omega
  by_cases hx : nxt a = high a
  · have hl2 := hlp.2.1
    have heW : e < W := by
      have := enW hx
      omega
    obtain ⟨l, hl⟩ := ms_lnE pe (W := W) (d := e) hl2
    have l1 := ms_ln1 hl heW (hlp.2.2.2 heW)
    have room := ms_room hrc (ms_k_hi hct) ha (by omega)
    refine ⟨l, (ms_X B W R (sent + 1) disc st (ms_cl pe e (e + l)) he es cw rt una (ms_un nxt a (nxt a + 1)) (ms_un high a (high a + 1)) rn (ms_un cn a (cn a + 1)) (ms_un cs (a * 8 + cn a) (high a)) (ms_un cd (a * 8 + cn a) e) (ms_un cl (a * 8 + cn a) l) (ms_un rd (a * 8 + high a % 8) e) (ms_un rl (a * 8 + high a % 8) l)),
      (ms_Y B W R R (sent + 1) disc st (ms_cl pe e (e + l)) he es cw rt una (ms_un nxt a (nxt a + 1)) (ms_un high a (high a + 1)) rn (ms_un cn a (cn a + 1)) (ms_un cs (a * 8 + cn a) (high a)) (ms_un cd (a * 8 + cn a) e) (ms_un cl (a * 8 + cn a) l) (N + 1) (ms_un ysf N a) (ms_un yss N (high a)) (ms_un yds N e) (ms_un yle N l)),
      l1, hl.1, ?_, fun post hp => ?_, fun post hp => ?_⟩
    · exact ms_mk (ms_k_cl hfg _ _) (ms_k_new hct hx (by omega)) hwd (ms_ch_push (ms_chW (Nat.le_refl _) (ms_k_le a) hch) ha (by omega) (by rw [ms_us]; omega) hl.2.1) (ms_rc_new hrc (ms_k_hi hct) ha es1 (by omega) l1 hl.1 hl.2.1) hs
    · exact ms_x_next2 ha (by omega) hx (by omega) f2 hlp hl hp
    · exact ms_y_s2 ha es1 c1 w1 d2 (by omega) hx (by omega) (by omega) f2 hlp heW hl hp
  · have hlt : nxt a < high a := by omega
    obtain ⟨j, j1, j2, j3, j4, j5, j6⟩ := ms_k_find hrc ha es1 c1 hlt
    obtain ⟨r1, r2, r3⟩ := ms_xrE hrc a (nxt a) ha es1 c1 hlt
    refine ⟨rl (a * 8 + nxt a % 8), (ms_X B W R (sent + 1) disc st pe he es cw rt una (ms_un nxt a (nxt a + 1)) high rn (ms_un cn a (cn a + 1)) (ms_un cs (a * 8 + cn a) (nxt a)) (ms_un cd (a * 8 + cn a) (rd (a * 8 + nxt a % 8))) (ms_un cl (a * 8 + cn a) (rl (a * 8 + nxt a % 8))) rd rl),
      (ms_Y B W R R (sent + 1) disc st pe he es cw rt una (ms_un nxt a (nxt a + 1)) high rn (ms_un cn a (cn a + 1)) (ms_un cs (a * 8 + cn a) (nxt a)) (ms_un cd (a * 8 + cn a) (rd (a * 8 + nxt a % 8))) (ms_un cl (a * 8 + cn a) (rl (a * 8 + nxt a % 8))) N ysf yss yds yle),
      r1, r2, ?_, fun post hp => ?_, fun post hp => ?_⟩
    · exact ms_mk hfg (ms_ctH (by omega) (ms_k_send hct hlt)) hwd (ms_ch_push hch ha (by omega) hlt r3) hrc hs
    · exact ms_x_next1 ha (by omega) (by omega) hx (by omega) hp
    · exact ms_y_s1 ha es1 c1 w1 d2 (by omega) hlt (by omega) hrc.1 j1 j2 j3 j6 (ms_k_b hct hrc (by omega)) (by rw [j4, j5]; exact hp)
/-- the fastest, by the class -/
theorem ms_x_fel {post : Int32 → Prop} {e : Nat} (hW : W ≤ 256) (hlp : ms_lp pe R W e) (hct : ms_ct h es una nxt high rn) (hwd : ms_wd cw rt) (hch : ms_ch W high cn cs cd cl) (hh : h < 2 ^ 29) (hp : post (ms_bi (ms_bs (ms_rf es cw una nxt high cn e W) rt 3))) : ∀ k i, i + k = 3 → wX_fastestEligible_4 post B (nI W) (nI R) sent disc st pe he es (ms_im cw) (ms_im rt) (ms_im una) (ms_im nxt) (ms_im high) rn (ms_im cn) (ms_im cs) (ms_im cd) (ms_im cl) (ms_im rd) (ms_im rl) (k + 1) (ms_bi (ms_bs (ms_rf es cw una nxt high cn e W) rt i)) (nI i) := by
  intro k
  induction k with
  | zero =>
    intro i hi
    have e0 : i = 3 := by omega
    subst e0
    exact pk_le 3 3 (fun _ => hp) (fun z => absurd z (by omega))
  | succ k ih =>
    intro i hi
    have g := ih (i + 1) (by omega)
    obtain ⟨c1, c2, c3, c4, _⟩ := hct i (by omega)
    obtain ⟨_, d2, d3, d4⟩ := hwd i (by omega)
    obtain ⟨k8, _⟩ := hch i (by omega)
    refine pk_le 3 i (fun z => absurd z (by omega)) (fun _ => ms_x_ref (by omega) hW hlp c1 c2 (by omega) d2 k8 ?_)
    have hb := ms_bsb (f := ms_rf es cw una nxt high cn e W) (rt := rt) i
    rw [ms_bs] at g
    generalize ms_bs (ms_rf es cw una nxt high cn e W) rt i = b at g hb ⊢
    by_cases q1 : ms_rf es cw una nxt high cn e W i = 0
    · refine br_t q1 ?_
      by_cases q2 : b = 3
      · rw [if_pos ⟨q1, Or.inl q2⟩] at g
        refine br_t (by rw [q2]; exact if_pos rfl) (nm_r (nI_1 i) ?_)
        unfold ms_bi at g
        rw [if_neg (by omega)] at g
        exact g
      · have hb3 : b < 3 := by omega
        have hb' : ms_bi b = nI b := by unfold ms_bi; rw [if_neg q2]
        obtain ⟨_, _, e3, e4⟩ := hwd b hb3
        rw [hb']
        refine br_f (ms_nm1 (by omega)) ⟨pk_in i 3 (by omega), pk_in b 3 hb3, pk_le (rt b) (rt i) (fun z => ?_) (fun z => ?_) (ms_at (by omega)) (ms_at (by omega))⟩
        · rw [if_neg (by omega), hb'] at g
          exact nm_r (nI_1 i) g
        · rw [if_pos ⟨q1, Or.inr z⟩] at g
          unfold ms_bi at g
          rw [if_neg (by omega)] at g
          exact nm_r (nI_1 i) g
    · rw [if_neg (fun z => q1 z.1)] at g
      exact br_f q1 (nm_r (nI_1 i) g)
end
section
variable {B : Int32} {W R : Nat} {sent disc : Int32} {st pe he es : Nat → Int32} {cw rt una nxt high : Nat → Nat} {rn : Nat → Int32} {cn cs cd cl rd rl : Nat → Nat} {N : Nat} {ysf yss yds yle : Nat → Nat} {a h c : Nat}
theorem ms_x_fe {post : Int32 → Prop} {e : Nat} (hW : W ≤ 256) (hlp : ms_lp pe R W e) (hct : ms_ct h es una nxt high rn) (hwd : ms_wd cw rt) (hch : ms_ch W high cn cs cd cl) (hh : h < 2 ^ 29) (hp : post (ms_bi (ms_bs (ms_rf es cw una nxt high cn e W) rt 3))) : wpX_fastestEligible post (ms_X B W R sent disc st pe he es cw rt una nxt high rn cn cs cd cl rd rl) :=
  ⟨4, ms_x_fel hW hlp hct hwd hch hh hp 3 0 rfl⟩
end
end
section
theorem ms_x_quo {post : Int64 → Prop} {x y : Int64} (p q : Nat) (hx : x = lN p) (hy : y = lN q) (hp0 : p < 2 ^ 63) (h0 : 0 < q) (hq : q < 2 ^ 63) (hp : post (lN (p / q))) : wpX_quotient post x y := by
  subst hx hy
  exact ms_lle 1 q (fun _ => ⟨ms_lne h0 hq, by rw [pk_lDiv hp0 h0 hq]; exact hp⟩) (fun z => absurd z (by omega)) rfl rfl (by decide) hq
theorem ms_SS {S : Nat} (h : S ≤ 147456) : S * S < 2 ^ 63 := Nat.lt_of_le_of_lt (Nat.mul_le_mul h h) (by decide)
theorem ms_rr {r : Nat} (h1 : 1 ≤ r) (h4 : r ≤ 4) : 0 < r * r ∧ r * r < 2 ^ 31 := ⟨Nat.mul_pos h1 h1, Nat.lt_of_le_of_lt (Nat.mul_le_mul h4 h4) (by decide)⟩
theorem ms_M1 {es : Nat → Int32} {cw rt : Nat → Nat} {j : Nat} (h : es j = 1) (c : ms_M es cw rt j < ms_P cw rt j) : ms_M es cw rt (j + 1) = ms_P cw rt j := by rw [ms_M, if_pos h, if_pos c]
theorem ms_M2 {es : Nat → Int32} {cw rt : Nat → Nat} {j : Nat} (h : es j = 1) (c : ¬ ms_M es cw rt j < ms_P cw rt j) : ms_M es cw rt (j + 1) = ms_M es cw rt j := by rw [ms_M, if_pos h, if_neg c]
theorem ms_M3 {es : Nat → Int32} {cw rt : Nat → Nat} {j : Nat} (h : ¬ es j = 1) : ms_M es cw rt (j + 1) = ms_M es cw rt j := by rw [ms_M, if_neg h]
theorem ms_S1 {es : Nat → Int32} {cw rt : Nat → Nat} {j : Nat} (h : es j = 1) : ms_S es cw rt (j + 1) = ms_S es cw rt j + ms_Q cw rt j := by rw [ms_S, if_pos h]
theorem ms_S3 {es : Nat → Int32} {cw rt : Nat → Nat} {j : Nat} (h : ¬ es j = 1) : ms_S es cw rt (j + 1) = ms_S es cw rt j := by rw [ms_S, if_neg h]
section
variable {B : Int32} {W R : Nat} {sent disc : Int32} {st pe he es : Nat → Int32} {cw rt una nxt high : Nat → Nat} {rn : Nat → Int32} {cn cs cd cl rd rl : Nat → Nat} {N : Nat} {ysf yss yds yle : Nat → Nat} {a U : Nat}
theorem ms_x_168 {post : SX → Prop} {i : Nat} (ha : a < 3) (hc : cw a ≤ 4096) (hi : i ≤ 65536) (hp : post (ms_X B W R sent disc st pe he es (ms_un cw a (if 4096 < cw a + i then 4096 else cw a + i)) rt una nxt high rn cn cs cd cl rd rl)) : wX_increaseCoupled_168 post (nI a) (lN i) B (nI W) (nI R) sent disc st pe he es (ms_im cw) (ms_im rt) (ms_im una) (ms_im nxt) (ms_im high) rn (ms_im cn) (ms_im cs) (ms_im cd) (ms_im cl) (ms_im rd) (ms_im rl) := by
  refine ⟨pk_in a 3 ha, nm_r (e' := lN (cw a + i)) (by rw [ms_at (by omega), nI_l (by omega), lN_add]) ?_⟩
  refine ms_lle (cw a + i) 4096 (fun z => ?_) (fun z => ?_) rfl rfl (by omega) (by decide)
  · rw [if_neg (by omega)] at hp
    exact ⟨pk_in a 3 ha, nm_r (by rw [lN_i]; exact ms_up (by omega)) hp⟩
  · rw [if_pos z] at hp
    exact ⟨pk_in a 3 ha, nm_r (ms_up (v := 4096) (by omega)) hp⟩
theorem ms_x_153 {post : SX → Prop} {i : Nat} (ha : a < 3) (hc : cw a ≤ 4096) (hi : i ≤ 65536) (hp : post (ms_X B W R sent disc st pe he es (ms_un cw a (if 4096 < cw a + (if i < 1 then 1 else i) then 4096 else cw a + (if i < 1 then 1 else i))) rt una nxt high rn cn cs cd cl rd rl)) : wX_increaseCoupled_153 post (nI a) (lN i) B (nI W) (nI R) sent disc st pe he es (ms_im cw) (ms_im rt) (ms_im una) (ms_im nxt) (ms_im high) rn (ms_im cn) (ms_im cs) (ms_im cd) (ms_im cl) (ms_im rd) (ms_im rl) := by
  refine ms_lle 1 i (fun z => ?_) (fun z => ?_) rfl rfl (by decide) (by omega)
  · rw [if_neg (show ¬ i < 1 by omega)] at hp
    exact ms_x_168 ha hc hi hp
  · rw [if_pos z] at hp
    exact ms_x_168 (i := 1) ha hc (by omega) hp
theorem ms_x_incl {post : SX → Prop} (ha : a < 3) (hwd : ms_wd cw rt) (hes : es a = 1) (hp : post (ms_X B W R sent disc st pe he es (ms_un cw a (ms_nc (ms_M es cw rt 3) (ms_S es cw rt 3) (cw a))) rt una nxt high rn cn cs cd cl rd rl)) : ∀ k j, j + k = 3 → wX_increaseCoupled_8 post (nI a) B (nI W) (nI R) sent disc st pe he es (ms_im cw) (ms_im rt) (ms_im una) (ms_im nxt) (ms_im high) rn (ms_im cn) (ms_im cs) (ms_im cd) (ms_im cl) (ms_im rd) (ms_im rl) (k + 1) (lN (ms_M es cw rt j)) (lN (ms_S es cw rt j)) (nI j) := by
  obtain ⟨w1, w2, _, _⟩ := hwd a ha
  have hM := ms_Mb (es := es) hwd
  have hS := ms_Sb (es := es) hwd
  intro k
  induction k with
  | zero =>
    intro j hj
    have e3 : j = 3 := by omega
    subst e3
    have m3 := hM 3 (Nat.le_refl 3)
    have s3 := hS 3 (Nat.le_refl 3)
    have p3 := ms_Sp hwd ha hes 3 (Nat.le_refl 3) ha
    generalize ms_M es cw rt 3 = M at m3 hp ⊢
    generalize ms_S es cw rt 3 = S at s3 p3 hp ⊢
    unfold ms_nc ms_i1 ms_in at hp
    have hA : 65536 * M / (S * S) ≤ 65536 * M := Nat.div_le_self _ _
    have hB : 65536 / cw a ≤ 65536 := Nat.div_le_self _ _
    refine pk_le 3 3 (fun _ => ?_) (fun z => absurd z (by omega))
    refine ms_x_quo (65536 * M) (S * S) (lN_mul 65536 M) (lN_mul S S) (by omega) (Nat.mul_pos (by omega) (by omega)) (ms_SS (by omega)) ⟨pk_in a 3 ha, ?_⟩
    refine ms_x_quo 65536 (cw a) rfl (by rw [ms_at (by omega), nI_l (by omega)]) (by decide) (by omega) (by omega) ?_
    generalize 65536 * M / (S * S) = A at hA hp ⊢
    generalize 65536 / cw a = D at hB hp ⊢
    refine ms_lle D A (fun z => ?_) (fun z => ?_) rfl rfl (by omega) (by omega)
    · rw [if_neg (show ¬ A < D by omega)] at hp
      exact ms_x_153 ha w2 hB hp
    · rw [if_pos z] at hp
      exact ms_x_153 ha w2 (by omega) hp
  | succ k ih =>
    intro j hj
    have g := ih (j + 1) (by omega)
    obtain ⟨q1, q2, q3, q4⟩ := hwd j (by omega)
    have mj := hM j (by omega)
    have pj := ms_Pb hwd (j := j) (by omega)
    refine pk_le 3 j (fun z => absurd z (by omega)) (fun _ => ms_x_est (by omega) ?_)
    by_cases c : es j = 1
    · rw [if_pos c]
      rw [ms_S1 c] at g
      refine br_f (by decide) ⟨pk_in j 3 (by omega), pk_in j 3 (by omega), pk_in j 3 (by omega), ?_⟩
      refine ms_x_quo (cw j * 144) (rt j * rt j) (by rw [ms_at (by omega), nI_l (by omega)]; exact lN_mul _ 144) (by rw [ms_at (by omega), pk_mul, nI_l (ms_rr q3 q4).2]) (by omega) (ms_rr q3 q4).1 (Nat.lt_trans (ms_rr q3 q4).2 (by decide)) ⟨pk_in j 3 (by omega), pk_in j 3 (by omega), ?_⟩
      refine ms_x_quo (cw j * 12) (rt j) (by rw [ms_at (by omega), nI_l (by omega)]; exact lN_mul _ 12) (by rw [ms_at (by omega), nI_l (by omega)]) (by omega) (by omega) (by omega) ?_
      refine ms_lle (ms_P cw rt j) (ms_M es cw rt j) (fun z => ?_) (fun z => ?_) rfl rfl (by omega) (by omega)
      · rw [ms_M2 c (by omega)] at g
        exact nm_r (lN_add _ _) (nm_r (nI_1 j) g)
      · rw [ms_M1 c z] at g
        exact nm_r (lN_add _ _) (nm_r (nI_1 j) g)
    · rw [if_neg c]
      rw [ms_S3 c, ms_M3 c] at g
      exact br_t rfl (nm_r (nI_1 j) g)
theorem ms_x_inc {post : SX → Prop} (ha : a < 3) (hwd : ms_wd cw rt) (hes : es a = 1) (hp : post (ms_X B W R sent disc st pe he es (ms_un cw a (ms_nc (ms_M es cw rt 3) (ms_S es cw rt 3) (cw a))) rt una nxt high rn cn cs cd cl rd rl)) : wpX_increaseCoupled post (ms_X B W R sent disc st pe he es cw rt una nxt high rn cn cs cd cl rd rl) (nI a) :=
  ⟨_, ms_x_incl ha hwd hes hp 3 0 rfl⟩
theorem ms_x_ack {post : SX → Prop} {b : Nat} (ha : a < 3) (hwd : ms_wd cw rt) (hes : es a = 1) (hrn : rn a = nI b) (hb : b < 2 ^ 30) (hx : nxt a < 2 ^ 30) (hp : ∀ n2 : Nat → Nat, ((nxt a < b ∧ n2 = ms_un nxt a b) ∨ (b ≤ nxt a ∧ n2 = nxt)) → post (ms_X B W R sent disc st pe he es (ms_un cw a (ms_nc (ms_M es cw rt 3) (ms_S es cw rt 3) (cw a))) rt (ms_un una a b) n2 high rn cn cs cd cl rd rl)) : wpX_acknowledge post (ms_X B W R sent disc st pe he es cw rt una nxt high rn cn cs cd cl rd rl) (nI a) := by
  refine ⟨pk_in a 3 ha, pk_in a 3 ha, nm_r (e' := ms_im (ms_un una a b)) (by rw [nI_clamp (show a < 2 ^ 31 by omega), hrn]; exact ms_imu _ _ _) ⟨pk_in a 3 ha, pk_in a 3 ha, ?_⟩⟩
  refine pk_le b (nxt a) (fun z => ms_x_inc ha hwd hes (hp nxt (Or.inr ⟨z, rfl⟩))) (fun z => ⟨pk_in a 3 ha, pk_in a 3 ha, nm_r (by rw [ms_at (by omega), ms_us]; exact ms_up (by omega)) (ms_x_inc ha hwd hes (hp _ (Or.inl ⟨z, rfl⟩)))⟩) (by rw [ms_at (by omega), ms_us]) (ms_at (by omega))
theorem ms_y_166 {post : SY → Prop} {i : Nat} (ha : a < 3) (hc : cw a ≤ 4096) (hi : i ≤ 65536) (hp : post (ms_Y B W U R sent disc st pe he es (ms_un cw a (if 4096 < cw a + i then 4096 else cw a + i)) rt una nxt high rn cn cs cd cl N ysf yss yds yle)) : wY_increase_166 post (nI a) (lN i) B (nI N) (nI W) (nI U) (nI R) sent disc (ms_im rt) es (ms_im cw) (ms_im una) (ms_im nxt) (ms_im high) rn (ms_im cn) (ms_im cs) (ms_im cd) (ms_im cl) (ms_im ysf) (ms_im yss) (ms_im yds) (ms_im yle) st pe he := by
  refine ⟨pk_in a 3 ha, nm_r (e' := lN (cw a + i)) (by rw [ms_at (by omega), nI_l (by omega), lN_add]) ?_⟩
  refine ms_lle (cw a + i) 4096 (fun z => ?_) (fun z => ?_) rfl rfl (by omega) (by decide)
  · rw [if_neg (by omega)] at hp
    exact ⟨pk_in a 3 ha, nm_r (by rw [lN_i]; exact ms_up (by omega)) hp⟩
  · rw [if_pos z] at hp
    exact ⟨pk_in a 3 ha, nm_r (e' := ms_im (ms_un cw a 4096)) (by rw [show (4096 : Int64).toInt32 = nI 4096 from by decide]; exact ms_up (by omega)) hp⟩
theorem ms_y_154 {post : SY → Prop} {i : Nat} (ha : a < 3) (hc : cw a ≤ 4096) (hi : i ≤ 65536) (hp : post (ms_Y B W U R sent disc st pe he es (ms_un cw a (if 4096 < cw a + (if i < 1 then 1 else i) then 4096 else cw a + (if i < 1 then 1 else i))) rt una nxt high rn cn cs cd cl N ysf yss yds yle)) : wY_increase_154 post (nI a) (lN i) B (nI N) (nI W) (nI U) (nI R) sent disc (ms_im rt) es (ms_im cw) (ms_im una) (ms_im nxt) (ms_im high) rn (ms_im cn) (ms_im cs) (ms_im cd) (ms_im cl) (ms_im ysf) (ms_im yss) (ms_im yds) (ms_im yle) st pe he := by
  refine ms_lle 1 i (fun z => ?_) (fun z => ?_) rfl rfl (by decide) (by omega)
  · rw [if_neg (show ¬ i < 1 by omega)] at hp
    exact ms_y_166 ha hc hi hp
  · rw [if_pos z] at hp
    exact ms_y_166 (i := 1) ha hc (by omega) hp
theorem ms_y_incl {post : SY → Prop} (ha : a < 3) (hwd : ms_wd cw rt) (hes : es a = 1) (hp : post (ms_Y B W U R sent disc st pe he es (ms_un cw a (ms_nc (ms_M es cw rt 3) (ms_S es cw rt 3) (cw a))) rt una nxt high rn cn cs cd cl N ysf yss yds yle)) : ∀ k j, j + k = 3 → wY_increase_8 post (nI a) B (nI N) (nI W) (nI U) (nI R) sent disc (ms_im rt) es (ms_im cw) (ms_im una) (ms_im nxt) (ms_im high) rn (ms_im cn) (ms_im cs) (ms_im cd) (ms_im cl) (ms_im ysf) (ms_im yss) (ms_im yds) (ms_im yle) st pe he (k + 1) (lN (ms_M es cw rt j)) (lN (ms_S es cw rt j)) (nI j) := by
  obtain ⟨w1, w2, _, _⟩ := hwd a ha
  have hM := ms_Mb (es := es) hwd
  have hS := ms_Sb (es := es) hwd
  intro k
  induction k with
  | zero =>
    intro j hj
    have e3 : j = 3 := by omega
    subst e3
    have m3 := hM 3 (Nat.le_refl 3)
    have s3 := hS 3 (Nat.le_refl 3)
    have p3 := ms_Sp hwd ha hes 3 (Nat.le_refl 3) ha
    generalize ms_M es cw rt 3 = M at m3 hp ⊢
    generalize ms_S es cw rt 3 = S at s3 p3 hp ⊢
    unfold ms_nc ms_i1 ms_in at hp
    have hA : 65536 * M / (S * S) ≤ 65536 * M := Nat.div_le_self _ _
    have hB : 65536 / cw a ≤ 65536 := Nat.div_le_self _ _
    have hSp : 0 < S * S := Nat.mul_pos (by omega) (by omega)
    have hSS := ms_SS (S := S) (by omega)
    have ec : (ms_im cw (nI a).toNatClampNeg).toInt64 = lN (cw a) := by rw [ms_at (by omega), nI_l (by omega)]
    refine pk_le 3 3 (fun _ => ms_lle S 0 (fun z => absurd z (by omega)) (fun _ => ⟨pk_in a 3 ha, ?_⟩) rfl rfl (by omega) (by decide)) (fun z => absurd z (by omega))
    refine pk_lt 0 (cw a) (fun _ => ⟨by rw [lN_mul]; exact ms_lne hSp hSS, nm_r (e' := lN (65536 * M / (S * S))) ?_ ⟨pk_in a 3 ha, by rw [ec]; exact ms_lne (by omega) (by omega), nm_r (e' := lN (65536 / cw a)) ?_ ?_⟩⟩) (fun z => absurd z (by omega)) rfl (ms_at (by omega))
    · rw [lN_mul S S, show (65536 : Int64) * lN M = lN (65536 * M) from lN_mul 65536 M]
      exact pk_lDiv (by omega) hSp hSS
    · rw [ec]
      exact pk_lDiv (a := 65536) (by decide) (by omega) (by omega)
    · generalize 65536 * M / (S * S) = A at hA hp ⊢
      generalize 65536 / cw a = D at hB hp ⊢
      refine ms_lle D A (fun z => ?_) (fun z => ?_) rfl rfl (by omega) (by omega)
      · rw [if_neg (show ¬ A < D by omega)] at hp
        exact ms_y_154 ha w2 hB hp
      · rw [if_pos z] at hp
        exact ms_y_154 ha w2 (by omega) hp
  | succ k ih =>
    intro j hj
    have g := ih (j + 1) (by omega)
    obtain ⟨q1, q2, q3, q4⟩ := hwd j (by omega)
    have mj := hM j (by omega)
    have pj := ms_Pb hwd (j := j) (by omega)
    have hr := ms_rr q3 q4
    have hr2 : rt j * rt j < 2 ^ 63 := Nat.lt_trans hr.2 (by decide)
    refine pk_le 3 j (fun z => absurd z (by omega)) (fun _ => ⟨pk_in j 3 (by omega), ?_⟩)
    rw [nI_clamp (show j < 2 ^ 31 by omega)]
    by_cases c : es j = 1
    · rw [ms_S1 c] at g
      refine br_t c ⟨pk_in j 3 (by omega), nm_r (nI_l (n := cw j) (by omega)) ⟨pk_in j 3 (by omega), nm_r (nI_l (n := rt j) (by omega)) ⟨by rw [lN_mul]; exact ms_lne hr.1 hr2, nm_r (e' := lN (ms_P cw rt j)) ?_ ⟨ms_lne (by omega) (by omega), nm_r (e' := lN (ms_Q cw rt j)) ?_ ?_⟩⟩⟩⟩
      · rw [lN_mul (rt j) (rt j), show lN (cw j) * 144 = lN (cw j * 144) from lN_mul _ 144]
        exact pk_lDiv (by omega) hr.1 hr2
      · rw [show lN (cw j) * 12 = lN (cw j * 12) from lN_mul _ 12]
        exact pk_lDiv (by omega) (by omega) (by omega)
      · refine ms_lle (ms_P cw rt j) (ms_M es cw rt j) (fun z => ?_) (fun z => ?_) rfl rfl (by omega) (by omega)
        · rw [ms_M2 c (by omega)] at g
          exact nm_r (lN_add _ _) (nm_r (nI_1 j) g)
        · rw [ms_M1 c z] at g
          exact nm_r (lN_add _ _) (nm_r (nI_1 j) g)
    · rw [ms_S3 c, ms_M3 c] at g
      exact br_f c (nm_r (nI_1 j) g)
theorem ms_y_inc {post : SY → Prop} (ha : a < 3) (hwd : ms_wd cw rt) (hes : es a = 1) (hp : post (ms_Y B W U R sent disc st pe he es (ms_un cw a (ms_nc (ms_M es cw rt 3) (ms_S es cw rt 3) (cw a))) rt una nxt high rn cn cs cd cl N ysf yss yds yle)) : wpY_increase post (ms_Y B W U R sent disc st pe he es cw rt una nxt high rn cn cs cd cl N ysf yss yds yle) (nI a) :=
  ⟨_, ms_y_incl ha hwd hes hp 3 0 rfl⟩
end
end
section
section
variable {B : Int32} {W R : Nat} {sent disc : Int32} {st pe he es : Nat → Int32} {cw rt una nxt high : Nat → Nat} {rn : Nat → Int32} {cn cs cd cl rd rl : Nat → Nat} {N : Nat} {ysf yss yds yle : Nat → Nat} {a U : Nat}
/-- the flags below are cleared -/
theorem ms_y_cll {post : Int32 → SY → Prop} {z : Int32} (hR : R ≤ 256) (hp : post z (ms_Y B W R R sent disc st (ms_cl pe 0 R) he es cw rt una nxt high rn cn cs cd cl N ysf yss yds yle)) : ∀ k j, j + k = R → wY_deliver_358 post z B (nI N) (nI W) (nI R) (nI R) sent disc (k + 1) (nI j) (ms_im rt) es (ms_im cw) (ms_im una) (ms_im nxt) (ms_im high) rn (ms_im cn) (ms_im cs) (ms_im cd) (ms_im cl) (ms_im ysf) (ms_im yss) (ms_im yds) (ms_im yle) st (ms_cl pe 0 j) he := by
  intro k
  induction k with
  | zero =>
    intro j hj
    have e : j = R := by omega
    subst e
    exact pk_le j j (fun _ => hp) (fun z => absurd z (by omega))
  | succ k ih =>
    intro j hj
    have g := ih (j + 1) (by omega)
    rw [← ms_clS pe (Nat.zero_le j)] at g
    exact pk_le R j (fun z => absurd z (by omega)) (fun _ => pk_le 256 j (fun z => absurd z (by omega)) (fun _ => ⟨pk_in j 256 (by omega), nm_r (by rw [nI_clamp (by omega), ms_n0]) (nm_r (nI_1 j) g)⟩))
theorem ms_y_cl {post : Int32 → SY → Prop} {z : Int32} (hR : R ≤ 256) (hp : post z (ms_Y B W R R sent disc st (ms_cl pe 0 R) he es cw rt una nxt high rn cn cs cd cl N ysf yss yds yle)) : ∃ n, wY_deliver_358 post z B (nI N) (nI W) (nI R) (nI R) sent disc n 0 (ms_im rt) es (ms_im cw) (ms_im una) (ms_im nxt) (ms_im high) rn (ms_im cn) (ms_im cs) (ms_im cd) (ms_im cl) (ms_im ysf) (ms_im yss) (ms_im yds) (ms_im yle) st pe he := by
  have h := ms_y_cll hR hp R 0 (Nat.zero_add R)
  rw [ms_cl0] at h
  exact ⟨_, h⟩
theorem ms_y_342 {post : Int32 → SY → Prop} {z : Int32} (ha : a < 3) (hwd : ms_wd cw rt) (hes : es a = 1) (hR : R ≤ 256) (hp : post z (ms_Y B W R R sent disc st (ms_cl pe 0 R) he es (ms_un cw a (ms_nc (ms_M es cw rt 3) (ms_S es cw rt 3) (cw a))) rt una nxt high rn cn cs cd cl N ysf yss yds yle)) : wY_deliver_342 post (nI a) z B (nI N) (nI W) (nI U) (nI R) sent disc (ms_im rt) es (ms_im cw) (ms_im una) (ms_im nxt) (ms_im high) rn (ms_im cn) (ms_im cs) (ms_im cd) (ms_im cl) (ms_im ysf) (ms_im yss) (ms_im yds) (ms_im yle) st pe he :=
  ms_y_inc ha hwd hes (ms_y_cl hR hp)
/-- the rows of a below b are removed -/
theorem ms_y_flt {post : Int32 → SY → Prop} {z : Int32} {b N0 : Nat} {sf0 ss0 ds0 le0 : Nat → Nat} (ha : a < 3) (hwd : ms_wd cw rt) (hes : es a = 1) (hR : R ≤ 256) (hb : una a = b) (hb2 : b < 2 ^ 30) (hx : nxt a < 2 ^ 30) (h0 : ∀ i, i < N0 → sf0 i < 2 ^ 31 ∧ ss0 i < 2 ^ 31) (hN0 : N0 ≤ 24)
    (H : ∀ (N : Nat) (ysf yss yds yle : Nat → Nat), ms_fi (fun x y => x = a ∧ y < b) N0 sf0 ss0 ds0 le0 0 N ysf yss yds yle → ∀ n2 : Nat → Nat, ((nxt a < b ∧ n2 = ms_un nxt a b) ∨ (b ≤ nxt a ∧ n2 = nxt)) → post z (ms_Y B W R R sent disc st (ms_cl pe 0 R) he es (ms_un cw a (ms_nc (ms_M es cw rt 3) (ms_S es cw rt 3) (cw a))) rt una n2 high rn cn cs cd cl N ysf yss yds yle)) :
    ∀ t (N : Nat) (ysf yss yds yle : Nat → Nat), t ≤ 24 → ms_fi (fun x y => x = a ∧ y < b) N0 sf0 ss0 ds0 le0 t N ysf yss yds yle → wY_deliver_262 post (nI a) z (t + 1) (nI t - 1) B (nI N) (nI W) (nI U) (nI R) sent disc (ms_im rt) es (ms_im cw) (ms_im una) (ms_im nxt) (ms_im high) rn (ms_im cn) (ms_im cs) (ms_im cd) (ms_im cl) (ms_im ysf) (ms_im yss) (ms_im yds) (ms_im yle) st pe he := by
  intro t
  induction t with
  | zero =>
    intro N ysf yss yds yle _ hf
    refine br_t (by decide) ⟨pk_in a 3 ha, pk_in a 3 ha, pk_le b (nxt a) (fun z => ?_) (fun z => ⟨pk_in a 3 ha, pk_in a 3 ha, nm_r (e' := ms_im (ms_un nxt a b)) (by rw [ms_at (by omega), hb]; exact ms_up (by omega)) ?_⟩) (by rw [ms_at (by omega), hb]) (ms_at (by omega))⟩
    · exact ms_y_342 ha hwd hes hR (H N ysf yss yds yle hf nxt (Or.inr ⟨z, rfl⟩))
    · exact ms_y_342 ha hwd hes hR (H N ysf yss yds yle hf _ (Or.inl ⟨z, rfl⟩))
  | succ t ih =>
    intro N ysf yss yds yle ht hf
    have hN : N ≤ 24 := Nat.le_trans hf.1 hN0
    rw [nI_pred]
    refine br_f (nI_pos (by omega)) ?_
    have next : (t < N → ¬ (ysf t = a ∧ yss t < b)) → ∀ x, x = nI t + (-1) → wY_deliver_262 post (nI a) z (t + 1) x B (nI N) (nI W) (nI U) (nI R) sent disc (ms_im rt) es (ms_im cw) (ms_im una) (ms_im nxt) (ms_im high) rn (ms_im cn) (ms_im cs) (ms_im cd) (ms_im cl) (ms_im ysf) (ms_im yss) (ms_im yds) (ms_im yle) st pe he := fun q => nm_r (ms_mm t) (ih N ysf yss yds yle (by omega) (ms_fik hf q))
    refine pk_le N t (fun z => next (fun z2 => absurd z2 (by omega))) (fun z => ⟨pk_in t 24 (by omega), ?_⟩)
    obtain ⟨j, j1, j2, j3, _⟩ := hf.2.2.2.1 _ _ _ _ ⟨t, z, rfl, rfl, rfl, rfl⟩
    have hbj := h0 j j1
    refine pk_eq (ysf t) a (fun z1 => ⟨pk_in t 24 (by omega), pk_in a 3 ha, ?_⟩) (fun z1 => next (fun _ q => z1 q.1)) (ms_at (by omega)) rfl (by omega) (by omega)
    refine pk_le b (yss t) (fun z2 => next (fun _ q => absurd q.2 (by omega))) (fun z2 => ?_) (by rw [ms_at (by omega), hb]) (ms_at (by omega)) (by omega) (by omega)
    exact ms_y_rem hN z (nm_r (ms_mm t) (ih _ _ _ _ _ (by omega) (ms_fir hf z ⟨z1, z2⟩)))
theorem ms_y_236e {post : Int32 → SY → Prop} {z : Int32} {b : Nat} (ha : a < 3) (hwd : ms_wd cw rt) (hes : es a = 1) (hR : R ≤ 256) (hrn : rn a = nI b) (hb2 : b < 2 ^ 30) (hx : nxt a < 2 ^ 30) (h0 : ∀ i, i < N → ysf i < 2 ^ 31 ∧ yss i < 2 ^ 31) (hN : N ≤ 24) (hu : ms_uq N ysf yss)
    (H : ∀ (N2 : Nat) (sf2 ss2 ds2 le2 : Nat → Nat), ms_fi (fun x y => x = a ∧ y < b) N ysf yss yds yle 0 N2 sf2 ss2 ds2 le2 → ∀ n2 : Nat → Nat, ((nxt a < b ∧ n2 = ms_un nxt a b) ∨ (b ≤ nxt a ∧ n2 = nxt)) → post z (ms_Y B W R R sent disc st (ms_cl pe 0 R) he es (ms_un cw a (ms_nc (ms_M es cw rt 3) (ms_S es cw rt 3) (cw a))) rt (ms_un una a b) n2 high rn cn cs cd cl N2 sf2 ss2 ds2 le2)) :
    wY_deliver_236 post (nI a) z B (nI N) (nI W) (nI U) (nI R) sent disc (ms_im rt) es (ms_im cw) (ms_im una) (ms_im nxt) (ms_im high) rn (ms_im cn) (ms_im cs) (ms_im cd) (ms_im cl) (ms_im ysf) (ms_im yss) (ms_im yds) (ms_im yle) st pe he := by
  refine ⟨pk_in a 3 ha, br_t (by rw [nI_clamp (by omega)]; exact hes) ⟨pk_in a 3 ha, pk_in a 3 ha, nm_r (e' := ms_im (ms_un una a b)) (by rw [nI_clamp (show a < 2 ^ 31 by omega), hrn]; exact ms_imu _ _ _) ⟨25, ?_⟩⟩⟩
  have h := ms_y_flt (U := U) (una := ms_un una a b) ha hwd hes hR ms_us hb2 hx h0 hN H 24 N ysf yss yds yle (Nat.le_refl 24) (ms_fi0 hN hu)
  rw [← ms_23] at h
  exact h
theorem ms_y_236f {post : Int32 → SY → Prop} {z : Int32} (ha : a < 3) (hes : ¬ es a = 1) (hR : R ≤ 256) (hp : post z (ms_Y B W R R sent disc st (ms_cl pe 0 R) he es cw rt una nxt high rn cn cs cd cl N ysf yss yds yle)) : wY_deliver_236 post (nI a) z B (nI N) (nI W) (nI U) (nI R) sent disc (ms_im rt) es (ms_im cw) (ms_im una) (ms_im nxt) (ms_im high) rn (ms_im cn) (ms_im cs) (ms_im cd) (ms_im cl) (ms_im ysf) (ms_im yss) (ms_im yds) (ms_im yle) st pe he :=
  ⟨pk_in a 3 ha, br_f (by rw [nI_clamp (by omega)]; exact hes) (ms_y_cl hR hp)⟩
/-- the prefix, by the reference -/
theorem ms_y_prel {post : Int32 → SY → Prop} {m : Nat} (hm : ms_px he R m) (H : wY_deliver_236 post (nI a) (nI m) B (nI N) (nI W) (nI R) (nI (R + m)) sent disc (ms_im rt) es (ms_im cw) (ms_im una) (ms_im nxt) (ms_im high) rn (ms_im cn) (ms_im cs) (ms_im cd) (ms_im cl) (ms_im ysf) (ms_im yss) (ms_im yds) (ms_im yle) st pe (ms_cl he R (R + m))) : ∀ k j, j + k = m → wY_deliver_177 post (nI a) B (nI N) (nI W) (nI R) sent disc (k + 1) (nI j) (nI j) (nI (R + j)) (ms_im rt) es (ms_im cw) (ms_im una) (ms_im nxt) (ms_im high) rn (ms_im cn) (ms_im cs) (ms_im cd) (ms_im cl) (ms_im ysf) (ms_im yss) (ms_im yds) (ms_im yle) st pe (ms_cl he R (R + j)) := by
  obtain ⟨h1, h2, h3⟩ := hm
  intro k
  induction k with
  | zero =>
    intro j hj
    have e : j = m := by omega
    subst e
    refine pk_le 256 j (fun _ => H) (fun z => pk_le 256 (R + j) (fun _ => H) (fun z => ⟨pk_in (R + j) 256 (by omega), br_t ?_ H⟩))
    rw [nI_clamp (by omega), ms_clo (by omega)]
    rcases h3 with h3 | h3
    · omega
    · exact h3
  | succ k ih =>
    intro j hj
    have g := ih (j + 1) (by omega)
    rw [← Nat.add_assoc, ← ms_clS he (Nat.le_add_right R j)] at g
    refine pk_le 256 j (fun z => absurd z (by omega)) (fun _ => pk_le 256 (R + j) (fun z => absurd z (by omega)) (fun z => ⟨pk_in (R + j) 256 (by omega), br_f ?_ ⟨pk_in (R + j) 256 (by omega), nm_r (by rw [nI_clamp (by omega), ms_n0]) (nm_r (nI_1 (R + j)) (nm_r (nI_1 j) (nm_r (nI_1 j) g)))⟩⟩))
    rw [nI_clamp (by omega), ms_clo (by omega)]
    exact h2 j (by omega)
/-- hold, by the reference -/
theorem ms_y_holdl {post : Int32 → SY → Prop} {d l : Nat} (hd : d + l ≤ 256) (H : ∃ n, wY_deliver_177 post (nI a) B (nI N) (nI W) (nI R) sent (ms_hd R B d disc he l).1 n 0 0 (nI R) (ms_im rt) es (ms_im cw) (ms_im una) (ms_im nxt) (ms_im high) rn (ms_im cn) (ms_im cs) (ms_im cd) (ms_im cl) (ms_im ysf) (ms_im yss) (ms_im yds) (ms_im yle) st pe ((ms_hd R B d disc he l).2)) : ∀ m j, j + m = l → wY_deliver_86 post (nI a) (nI d) (nI l) (nI R) B (nI N) (nI W) (nI R) (nI R) sent (m + 1) (nI j) (ms_hd R B d disc he j).1 (ms_im rt) es (ms_im cw) (ms_im una) (ms_im nxt) (ms_im high) rn (ms_im cn) (ms_im cs) (ms_im cd) (ms_im cl) (ms_im ysf) (ms_im yss) (ms_im yds) (ms_im yle) st pe ((ms_hd R B d disc he j).2) := by
  intro m
  induction m with
  | zero =>
    intro j hj
    have e : j = l := by omega
    subst e
    exact pk_le j j (fun _ => H) (fun z => absurd z (by omega))
  | succ m ih =>
    intro j hj
    have g := ih (j + 1) (by omega)
    refine pk_le l j (fun z => absurd z (by omega)) (fun _ => nm_r (nI_add d j) ?_)
    by_cases c1 : nI (d + j) < nI R
    · rw [ms_hd1 (Or.inl c1)] at g
      exact br_t c1 (nm_e (nm_r (nI_1 j) g))
    · refine br_f c1 ?_
      by_cases c2 : nI R + B ≤ nI (d + j)
      · rw [ms_hd1 (Or.inr (Or.inl c2))] at g
        exact br_t c2 (nm_e (nm_r (nI_1 j) g))
      · refine br_f c2 (br_f (nI_pos (by omega)) (pk_lt 255 (d + j) (fun z => absurd z (by omega)) (fun _ => ⟨pk_in (d + j) 256 (by omega), ?_⟩)))
        by_cases c3 : (ms_hd R B d disc he j).2 (d + j) = 0
        · rw [ms_hd2 (by rintro (z | z | z); exact c1 z; exact c2 z; exact z c3)] at g
          exact br_t (by rw [nI_clamp (by omega)]; exact c3) ⟨pk_in (d + j) 256 (by omega), nm_r (by rw [nI_clamp (by omega), ms_n1]) (nm_r (nI_1 j) g)⟩
        · rw [ms_hd1 (Or.inr (Or.inr c3))] at g
          exact br_f (by rw [nI_clamp (by omega)]; exact c3) (nm_e (nm_r (nI_1 j) g))
theorem ms_y_dl {post : Int32 → SY → Prop} {d l m : Nat} (hd : d + l ≤ 256) (hm : ms_px (ms_hd R B d disc he l).2 R m) (H : wY_deliver_236 post (nI a) (nI m) B (nI N) (nI W) (nI R) (nI (R + m)) sent ((ms_hd R B d disc he l).1) (ms_im rt) es (ms_im cw) (ms_im una) (ms_im nxt) (ms_im high) rn (ms_im cn) (ms_im cs) (ms_im cd) (ms_im cl) (ms_im ysf) (ms_im yss) (ms_im yds) (ms_im yle) st pe (ms_cl (ms_hd R B d disc he l).2 R (R + m))) : ∃ n, wY_deliver_86 post (nI a) (nI d) (nI l) (nI R) B (nI N) (nI W) (nI R) (nI R) sent n 0 disc (ms_im rt) es (ms_im cw) (ms_im una) (ms_im nxt) (ms_im high) rn (ms_im cn) (ms_im cs) (ms_im cd) (ms_im cl) (ms_im ysf) (ms_im yss) (ms_im yds) (ms_im yle) st pe he := by
  have h := ms_y_prel hm H m 0 (Nat.zero_add m)
  rw [Nat.add_zero R, ms_cl0] at h
  exact ⟨_, ms_y_holdl hd ⟨_, h⟩ l 0 (Nat.zero_add l)⟩
/-- the reference's deliver, up to the test of the number -/
theorem ms_y_d0 {post : Int32 → SY → Prop} (ha : a < 3) (h0 : 0 < cn a) (h8 : cn a ≤ 8)
    (H1 : nI (cs (a * 8)) = rn a → ∃ n, wY_deliver_86 post (nI a) (nI (cd (a * 8))) (nI (cl (a * 8))) (nI R) B (nI N) (nI W) (nI R) (nI R) sent n 0 disc (ms_im rt) es (ms_im cw) (ms_im una) (ms_im nxt) (ms_im high) (upd rn a (rn a + 1)) (ms_im (ms_un cn a (cn a - 1))) (ms_im (ms_sh cs (a * 8) (a * 8 + (cn a - 1)))) (ms_im (ms_sh cd (a * 8) (a * 8 + (cn a - 1)))) (ms_im (ms_sh cl (a * 8) (a * 8 + (cn a - 1)))) (ms_im ysf) (ms_im yss) (ms_im yds) (ms_im yle) st pe he)
    (H2 : ¬ nI (cs (a * 8)) = rn a → post 0 (ms_Y B W R R sent disc st pe he es cw rt una nxt high rn (ms_un cn a (cn a - 1)) (ms_sh cs (a * 8) (a * 8 + (cn a - 1))) (ms_sh cd (a * 8) (a * 8 + (cn a - 1))) (ms_sh cl (a * 8) (a * 8 + (cn a - 1))) N ysf yss yds yle)) :
    wpY_deliver post (ms_Y B W R R sent disc st pe he es cw rt una nxt high rn cn cs cd cl N ysf yss yds yle) (nI a) := by
  unfold wpY_deliver
  refine ms_y_sub ha ?_
  refine br_t rfl ⟨pk_in a 3 ha, pk_eq (cn a) 0 (fun z => absurd z (by omega)) (fun _ => ?_) (ms_at (by omega))⟩
  refine nm_r (ms_m8 a) ⟨pk_in (a * 8) 24 (by omega), nm_r (ms_at (by omega)) ⟨pk_in (a * 8) 24 (by omega), nm_r (ms_at (by omega)) ⟨pk_in (a * 8) 24 (by omega), nm_r (ms_at (by omega)) ?_⟩⟩⟩
  refine ms_y_pop ha h0 h8 ⟨pk_in a 3 ha, ?_⟩
  rw [nI_clamp (show a < 2 ^ 31 by omega)]
  exact br_c (fun z => ⟨pk_in a 3 ha, pk_in a 3 ha, nm_e (H1 z)⟩) (fun z => H2 z)
/-- the class's deliver: another number -/
theorem ms_x_dn {post : Int32 → SX → Prop} (ha : a < 3) (h0 : 0 < cn a) (h8 : cn a ≤ 8) (hne : ¬ nI (cs (a * 8)) = rn a) (hp : post 0 (ms_X B W R sent disc st pe he es cw rt una nxt high rn (ms_un cn a (cn a - 1)) (ms_sh cs (a * 8) (a * 8 + (cn a - 1))) (ms_sh cd (a * 8) (a * 8 + (cn a - 1))) (ms_sh cl (a * 8) (a * 8 + (cn a - 1))) rd rl)) : wpX_deliver post (ms_X B W R sent disc st pe he es cw rt una nxt high rn cn cs cd cl rd rl) (nI a) := by
  unfold wpX_deliver
  refine ms_x_sub ha ?_
  refine br_f (by decide) ⟨pk_in a 3 ha, pk_eq (cn a) 0 (fun z => absurd z (by omega)) (fun _ => ?_) (ms_at (by omega))⟩
  refine nm_r (ms_m8 a) ⟨pk_in (a * 8) 24 (by omega), nm_r (ms_at (by omega)) ⟨pk_in (a * 8) 24 (by omega), nm_r (ms_at (by omega)) ⟨pk_in (a * 8) 24 (by omega), nm_r (ms_at (by omega)) ?_⟩⟩⟩
  refine ms_x_pop ha h0 h8 ⟨pk_in a 3 ha, ?_⟩
  rw [nI_clamp (show a < 2 ^ 31 by omega)]
  exact br_f hne hp
/-- the class's deliver: the next number, a failed subflow -/
theorem ms_x_df {post : Int32 → SX → Prop} {m : Nat} (ha : a < 3) (h0 : 0 < cn a) (h8 : cn a ≤ 8) (heq : nI (cs (a * 8)) = rn a) (hes : ¬ es a = 1) (hd : cd (a * 8) + cl (a * 8) ≤ 256) (hm : ms_px (ms_hd R B (cd (a * 8)) disc he (cl (a * 8))).2 R m) (hp : post (nI m) (ms_X B W (R + m) sent ((ms_hd R B (cd (a * 8)) disc he (cl (a * 8))).1) st (ms_cl pe R (R + m)) (ms_cl (ms_hd R B (cd (a * 8)) disc he (cl (a * 8))).2 R (R + m)) es cw rt una nxt high (upd rn a (rn a + 1)) (ms_un cn a (cn a - 1)) (ms_sh cs (a * 8) (a * 8 + (cn a - 1))) (ms_sh cd (a * 8) (a * 8 + (cn a - 1))) (ms_sh cl (a * 8) (a * 8 + (cn a - 1))) rd rl)) : wpX_deliver post (ms_X B W R sent disc st pe he es cw rt una nxt high rn cn cs cd cl rd rl) (nI a) := by
  unfold wpX_deliver
  refine ms_x_sub ha ?_
  refine br_f (by decide) ⟨pk_in a 3 ha, pk_eq (cn a) 0 (fun z => absurd z (by omega)) (fun _ => ?_) (ms_at (by omega))⟩
  refine nm_r (ms_m8 a) ⟨pk_in (a * 8) 24 (by omega), nm_r (ms_at (by omega)) ⟨pk_in (a * 8) 24 (by omega), nm_r (ms_at (by omega)) ⟨pk_in (a * 8) 24 (by omega), nm_r (ms_at (by omega)) ?_⟩⟩⟩
  refine ms_x_pop ha h0 h8 ⟨pk_in a 3 ha, ?_⟩
  rw [nI_clamp (show a < 2 ^ 31 by omega)]
  refine br_t heq ⟨pk_in a 3 ha, pk_in a 3 ha, nm_e (ms_x_hold hd (ms_x_pre hm (ms_x_est ha ?_)))⟩
  rw [if_neg hes]
  exact br_t rfl hp
/-- the class's deliver: the next number, an established subflow -/
theorem ms_x_de {post : Int32 → SX → Prop} {m b : Nat} (ha : a < 3) (h0 : 0 < cn a) (h8 : cn a ≤ 8) (heq : nI (cs (a * 8)) = rn a) (hes : es a = 1) (hwd : ms_wd cw rt) (hrn : rn a + 1 = nI b) (hb : b < 2 ^ 30) (hx : nxt a < 2 ^ 30) (hd : cd (a * 8) + cl (a * 8) ≤ 256) (hm : ms_px (ms_hd R B (cd (a * 8)) disc he (cl (a * 8))).2 R m) (hp : ∀ n2 : Nat → Nat, ((nxt a < b ∧ n2 = ms_un nxt a b) ∨ (b ≤ nxt a ∧ n2 = nxt)) → post (nI m) (ms_X B W (R + m) sent ((ms_hd R B (cd (a * 8)) disc he (cl (a * 8))).1) st (ms_cl pe R (R + m)) (ms_cl (ms_hd R B (cd (a * 8)) disc he (cl (a * 8))).2 R (R + m)) es (ms_un cw a (ms_nc (ms_M es cw rt 3) (ms_S es cw rt 3) (cw a))) rt (ms_un una a b) n2 high (upd rn a (rn a + 1)) (ms_un cn a (cn a - 1)) (ms_sh cs (a * 8) (a * 8 + (cn a - 1))) (ms_sh cd (a * 8) (a * 8 + (cn a - 1))) (ms_sh cl (a * 8) (a * 8 + (cn a - 1))) rd rl)) : wpX_deliver post (ms_X B W R sent disc st pe he es cw rt una nxt high rn cn cs cd cl rd rl) (nI a) := by
  unfold wpX_deliver
  refine ms_x_sub ha ?_
  refine br_f (by decide) ⟨pk_in a 3 ha, pk_eq (cn a) 0 (fun z => absurd z (by omega)) (fun _ => ?_) (ms_at (by omega))⟩
  refine nm_r (ms_m8 a) ⟨pk_in (a * 8) 24 (by omega), nm_r (ms_at (by omega)) ⟨pk_in (a * 8) 24 (by omega), nm_r (ms_at (by omega)) ⟨pk_in (a * 8) 24 (by omega), nm_r (ms_at (by omega)) ?_⟩⟩⟩
  refine ms_x_pop ha h0 h8 ⟨pk_in a 3 ha, ?_⟩
  rw [nI_clamp (show a < 2 ^ 31 by omega)]
  refine br_t heq ⟨pk_in a 3 ha, pk_in a 3 ha, nm_e (ms_x_hold hd (ms_x_pre hm (ms_x_est ha ?_)))⟩
  rw [if_pos hes]
  exact br_f (by decide) (ms_x_ack ha hwd hes (by rw [pk_us]; exact hrn) hb hx hp)
end
end
section
section
variable {B : Int32} {W R : Nat} {sent disc : Int32} {st pe he es : Nat → Int32} {cw rt una nxt high : Nat → Nat} {rn : Nat → Int32} {cn cs cd cl rd rl : Nat → Nat} {N : Nat} {ysf yss yds yle : Nat → Nat} {a h c : Nat}
theorem ms_x_faill {post : Int32 → SX → Prop} (ha : a < 3) (hes : es a = 1) (hu : una a ≤ high a) (hh : high a < 2 ^ 30) (hxr : ms_xr W es una high rd rl) (hW : W ≤ 256) (hR : R ≤ 256) (hp : post 1 (ms_X B W R sent disc st (ms_fx pe R rd rl a (una a) (high a - una a)) he (upd es a 2) cw rt una nxt high rn cn cs cd cl rd rl)) : ∀ k j, j + k = high a - una a → wX_fail_24 post (nI a) (k + 1) (nI (una a + j)) B (nI W) (nI R) sent disc st (ms_fx pe R rd rl a (una a) j) he es (ms_im cw) (ms_im rt) (ms_im una) (ms_im nxt) (ms_im high) rn (ms_im cn) (ms_im cs) (ms_im cd) (ms_im cl) (ms_im rd) (ms_im rl) := by
  intro k
  induction k with
  | zero =>
    intro j hj
    have e : j = high a - una a := by omega
    subst e
    exact ⟨pk_in a 3 ha, pk_le (high a) (una a + (high a - una a)) (fun _ => ⟨pk_in a 3 ha, nm_r (ms_cu (by omega)) hp⟩) (fun z => absurd z (by omega)) (ms_at (by omega))⟩
  | succ k ih =>
    intro j hj
    have g := ih (j + 1) (by omega)
    obtain ⟨r1, r2, r3⟩ := hxr a (una a + j) ha hes (by omega) (by omega)
    refine ⟨pk_in a 3 ha, pk_le (high a) (una a + j) (fun z => absurd z (by omega)) (fun _ => ms_x_slot (by omega) ⟨pk_in (a * 8 + (una a + j) % 8) 24 (by omega), pk_in (a * 8 + (una a + j) % 8) 24 (by omega), ?_⟩) (ms_at (by omega))⟩
    rw [ms_at (by omega), ms_at (by omega)]
    exact ms_x_ri (by omega) hR (nm_r (nI_1 (una a + j)) g)
/-- one row's offsets, by the reference -/
theorem ms_y_fi {post : Int32 → SY → Prop} {J : Int32 → (Nat → Int32) → (Nat → Int32) → (Nat → Int32) → (Nat → Int32) → (Nat → Int32) → (Nat → Int32) → (Nat → Int32) → (Nat → Int32) → (Nat → Int32) → (Nat → Int32) → (Nat → Int32) → (Nat → Int32) → (Nat → Int32) → (Nat → Int32) → (Nat → Int32) → (Nat → Int32) → (Nat → Int32) → (Nat → Int32) → Prop} {i : Nat} (hi : i < 24) (hd : yds i + yle i ≤ W) (hW : W ≤ 256) (hR : R ≤ 256) (K : J (nI (i + 1)) (ms_im rt) es (ms_im cw) (ms_im una) (ms_im nxt) (ms_im high) rn (ms_im cn) (ms_im cs) (ms_im cd) (ms_im cl) (ms_im ysf) (ms_im yss) (ms_im yds) (ms_im yle) st (ms_ri pe R (yds i) (yle i)) he) : ∀ m j, j + m = yle i → wY_fail_51 post J (nI a) (nI i) B (nI N) (nI W) (nI R) (nI R) sent disc (m + 1) (nI j) (ms_im rt) es (ms_im cw) (ms_im una) (ms_im nxt) (ms_im high) rn (ms_im cn) (ms_im cs) (ms_im cd) (ms_im cl) (ms_im ysf) (ms_im yss) (ms_im yds) (ms_im yle) st (ms_ri pe R (yds i) j) he := by
  intro m
  induction m with
  | zero =>
    intro j hj
    have e : j = yle i := by omega
    subst e
    exact ⟨pk_in i 24 hi, pk_le (yle i) (yle i) (fun _ => nm_r (nI_1 i) K) (fun z => absurd z (by omega)) (ms_at (by omega))⟩
  | succ m ih =>
    intro j hj
    have g := ih (j + 1) (by omega)
    refine ⟨pk_in i 24 hi, pk_le (yle i) j (fun z => absurd z (by omega)) (fun _ => ⟨pk_in i 24 hi, nm_r (e' := nI (yds i + j)) (by rw [ms_at (by omega), nI_add]) ?_⟩) (ms_at (by omega))⟩
    refine pk_lt (yds i + j) R (fun z => ?_) (fun z => pk_le W (yds i + j) (fun z => absurd z (by omega)) (fun _ => br_f (nI_pos (by omega)) (pk_le 256 (yds i + j) (fun z => absurd z (by omega)) (fun _ => ⟨pk_in (yds i + j) 256 (by omega), nm_r (by rw [nI_clamp (by omega), ms_n1, ms_riS pe z]) (nm_r (nI_1 j) g)⟩))))
    rw [← ms_riK pe z] at g
    exact nm_r (nI_1 j) g
theorem ms_y_fo {post : Int32 → SY → Prop} (ha : a < 3) (hN : N ≤ 24) (hrc : ∀ i, i < N → ysf i < 3 ∧ yds i + yle i ≤ W) (hW : W ≤ 256) (hR : R ≤ 256) (H : ∃ n, wY_fail_125 post (nI a) n 23 B (nI N) (nI W) (nI R) (nI R) sent disc (ms_im rt) es (ms_im cw) (ms_im una) (ms_im nxt) (ms_im high) rn (ms_im cn) (ms_im cs) (ms_im cd) (ms_im cl) (ms_im ysf) (ms_im yss) (ms_im yds) (ms_im yle) st (ms_fy pe R ysf yds yle a N) he) : ∀ k i, i + k = N → wY_fail_22 post (nI a) B (nI N) (nI W) (nI R) (nI R) sent disc (k + 1) (nI i) (ms_im rt) es (ms_im cw) (ms_im una) (ms_im nxt) (ms_im high) rn (ms_im cn) (ms_im cs) (ms_im cd) (ms_im cl) (ms_im ysf) (ms_im yss) (ms_im yds) (ms_im yle) st (ms_fy pe R ysf yds yle a i) he := by
  intro k
  induction k with
  | zero =>
    intro i hi
    have e : i = N := by omega
    subst e
    exact pk_le i i (fun _ => H) (fun z => absurd z (by omega))
  | succ k ih =>
    intro i hi
    have g := ih (i + 1) (by omega)
    obtain ⟨s1, s2⟩ := hrc i (by omega)
    refine pk_le N i (fun z => absurd z (by omega)) (fun _ => pk_le 24 i (fun z => absurd z (by omega)) (fun _ => ⟨pk_in i 24 (by omega), pk_eq (ysf i) a (fun z => ?_) (fun z => ?_) (ms_at (by omega))⟩))
    · rw [ms_fy, if_pos z] at g
      have h := ms_y_fi (B := B) (sent := sent) (disc := disc) (N := N) (post := post) (a := a) (pe := ms_fy pe R ysf yds yle a i) (by omega) s2 hW hR g (yle i) 0 (Nat.zero_add _)
      rw [ms_ri0] at h
      exact ⟨_, h⟩
    · rw [ms_fy, if_neg z] at g
      exact nm_r (nI_1 i) g
/-- the rows of a are removed -/
theorem ms_y_ff {post : Int32 → SY → Prop} {N0 : Nat} {sf0 ss0 ds0 le0 : Nat → Nat} (ha : a < 3) (h0 : ∀ i, i < N0 → sf0 i < 2 ^ 31 ∧ ss0 i < 2 ^ 31) (hN0 : N0 ≤ 24)
    (H : ∀ (N : Nat) (ysf yss yds yle : Nat → Nat), ms_fi (fun x _ => x = a) N0 sf0 ss0 ds0 le0 0 N ysf yss yds yle → post 1 (ms_Y B W R R sent disc st pe he (upd es a 2) cw rt una nxt high rn cn cs cd cl N ysf yss yds yle)) :
    ∀ t (N : Nat) (ysf yss yds yle : Nat → Nat), t ≤ 24 → ms_fi (fun x _ => x = a) N0 sf0 ss0 ds0 le0 t N ysf yss yds yle → wY_fail_125 post (nI a) (t + 1) (nI t - 1) B (nI N) (nI W) (nI R) (nI R) sent disc (ms_im rt) es (ms_im cw) (ms_im una) (ms_im nxt) (ms_im high) rn (ms_im cn) (ms_im cs) (ms_im cd) (ms_im cl) (ms_im ysf) (ms_im yss) (ms_im yds) (ms_im yle) st pe he := by
  intro t
  induction t with
  | zero =>
    intro N ysf yss yds yle _ hf
    exact br_t (by decide) ⟨pk_in a 3 ha, nm_r (ms_cu (by omega)) (H N ysf yss yds yle hf)⟩
  | succ t ih =>
    intro N ysf yss yds yle ht hf
    have hN : N ≤ 24 := Nat.le_trans hf.1 hN0
    rw [nI_pred]
    refine br_f (nI_pos (by omega)) ?_
    have next : (t < N → ¬ ysf t = a) → ∀ x, x = nI t + (-1) → wY_fail_125 post (nI a) (t + 1) x B (nI N) (nI W) (nI R) (nI R) sent disc (ms_im rt) es (ms_im cw) (ms_im una) (ms_im nxt) (ms_im high) rn (ms_im cn) (ms_im cs) (ms_im cd) (ms_im cl) (ms_im ysf) (ms_im yss) (ms_im yds) (ms_im yle) st pe he := fun q => nm_r (ms_mm t) (ih N ysf yss yds yle (by omega) (ms_fik hf q))
    refine pk_le N t (fun z => next (fun z2 => absurd z2 (by omega))) (fun z => ⟨pk_in t 24 (by omega), ?_⟩)
    obtain ⟨j, j1, j2, j3, _⟩ := hf.2.2.2.1 _ _ _ _ ⟨t, z, rfl, rfl, rfl, rfl⟩
    have hbj := h0 j j1
    refine pk_eq (ysf t) a (fun z1 => ?_) (fun z1 => next (fun _ q => z1 q)) (ms_at (by omega)) rfl (by omega) (by omega)
    exact ms_y_rem hN z (nm_r (ms_mm t) (ih _ _ _ _ _ (by omega) (ms_fir hf z z1)))
theorem ms_x_fail {post : Int32 → SX → Prop} (ha : a < 3) (hes : es a = 1) (hu : una a ≤ high a) (hh : high a < 2 ^ 30) (hxr : ms_xr W es una high rd rl) (hW : W ≤ 256) (hR : R ≤ 256) (hp : post 1 (ms_X B W R sent disc st (ms_fx pe R rd rl a (una a) (high a - una a)) he (upd es a 2) cw rt una nxt high rn cn cs cd cl rd rl)) : wpX_fail post (ms_X B W R sent disc st pe he es cw rt una nxt high rn cn cs cd cl rd rl) (nI a) := by
  unfold wpX_fail
  refine ms_x_sub ha ?_
  refine br_f (by decide) ?_
  refine ms_x_est ha ?_
  rw [if_pos hes]
  exact br_f (by decide) ⟨pk_in a 3 ha, nm_r (ms_at (by omega)) ⟨_, ms_x_faill ha hes hu hh hxr hW hR hp (high a - una a) 0 (Nat.zero_add _)⟩⟩
theorem ms_y_fail {post : Int32 → SY → Prop} (ha : a < 3) (hes : es a = 1) (hN : N ≤ 24) (hu : ms_uq N ysf yss) (hrc : ∀ i, i < N → ysf i < 3 ∧ yds i + yle i ≤ W) (h0 : ∀ i, i < N → ysf i < 2 ^ 31 ∧ yss i < 2 ^ 31) (hW : W ≤ 256) (hR : R ≤ 256)
    (H : ∀ (N2 : Nat) (sf2 ss2 ds2 le2 : Nat → Nat), ms_fi (fun x _ => x = a) N ysf yss yds yle 0 N2 sf2 ss2 ds2 le2 → post 1 (ms_Y B W R R sent disc st (ms_fy pe R ysf yds yle a N) he (upd es a 2) cw rt una nxt high rn cn cs cd cl N2 sf2 ss2 ds2 le2)) : wpY_fail post (ms_Y B W R R sent disc st pe he es cw rt una nxt high rn cn cs cd cl N ysf yss yds yle) (nI a) := by
  have h := ms_y_ff (pe := ms_fy pe R ysf yds yle a N) ha h0 hN H 24 N ysf yss yds yle (Nat.le_refl 24) (ms_fi0 hN hu)
  rw [← ms_23] at h
  unfold wpY_fail
  refine ms_y_sub ha ?_
  exact br_t rfl ⟨pk_in a 3 ha, br_t (by rw [nI_clamp (by omega)]; exact hes) ⟨_, ms_y_fo ha hN hrc hW hR ⟨_, h⟩ N 0 (Nat.zero_add N)⟩⟩
end
end
section
def ms_lX (post : Int32 → SX → Prop) (n : Nat) (x : Int32) (u : SX) : Prop := match u with
  | (q0, q1, q2, q3, q4, q5, q6, q7, q8, q9, q10, q11, q12, q13, q14, q15, q16, q17, q18, q19, q20) => wX_sendAll_2 post n x q0 q1 q2 q3 q4 q5 q6 q7 q8 q9 q10 q11 q12 q13 q14 q15 q16 q17 q18 q19 q20
def ms_lY (post : Int32 → SY → Prop) (n : Nat) (x y : Int32) (v : SY) : Prop := match v with
  | (q0, q1, q2, q3, q4, q5, q6, q7, q8, q9, q10, q11, q12, q13, q14, q15, q16, q17, q18, q19, q20, q21, q22, q23, q24) => wY_sendAll_4 post n x y q0 q1 q2 q3 q4 q5 q6 q7 q8 q9 q10 q11 q12 q13 q14 q15 q16 q17 q18 q19 q20 q21 q22 q23 q24
section
variable {B : Int32} {W R : Nat} {sent disc : Int32} {st pe he es : Nat → Int32} {cw rt una nxt high : Nat → Nat} {rn : Nat → Int32} {cn cs cd cl rd rl : Nat → Nat} {N : Nat} {ysf yss yds yle : Nat → Nat} {a h c : Nat}
/-- the fastest, by the reference: E is what is asked behind it -/
theorem ms_y_fel {post : Int32 → SY → Prop} {n : Nat} {e : Nat} (hW : W ≤ 256) (hlp : ms_lp pe R W e) (hct : ms_ct h es una nxt high rn) (hwd : ms_wd cw rt) (hch : ms_ch W high cn cs cd cl) (hh : h < 2 ^ 29) (H : wY_sendAll_15 post (wY_sendAll_4 post n) (nI c) (nI c) B (nI N) (nI W) (nI R) (nI R) sent disc (ms_im rt) es (ms_im cw) (ms_im una) (ms_im nxt) (ms_im high) rn (ms_im cn) (ms_im cs) (ms_im cd) (ms_im cl) (ms_im ysf) (ms_im yss) (ms_im yds) (ms_im yle) st pe he 1 (ms_bi (ms_bs (ms_rf es cw una nxt high cn e W) rt 3)) (nI 3)) : ∀ k i, i + k = 3 → wY_sendAll_15 post (wY_sendAll_4 post n) (nI c) (nI c) B (nI N) (nI W) (nI R) (nI R) sent disc (ms_im rt) es (ms_im cw) (ms_im una) (ms_im nxt) (ms_im high) rn (ms_im cn) (ms_im cs) (ms_im cd) (ms_im cl) (ms_im ysf) (ms_im yss) (ms_im yds) (ms_im yle) st pe he (k + 1) (ms_bi (ms_bs (ms_rf es cw una nxt high cn e W) rt i)) (nI i) := by
  intro k
  induction k with
  | zero =>
    intro i hi
    have e0 : i = 3 := by omega
    subst e0
    exact H
  | succ k ih =>
    intro i hi
    have g := ih (i + 1) (by omega)
    obtain ⟨c1, c2, c3, c4, _⟩ := hct i (by omega)
    obtain ⟨_, d2, d3, d4⟩ := hwd i (by omega)
    obtain ⟨k8, _⟩ := hch i (by omega)
    refine pk_le 3 i (fun z => absurd z (by omega)) (fun _ => ms_y_el (by omega) hW hlp c1 c2 (by omega) d2 k8 ?_)
    have hb := ms_bsb (f := ms_rf es cw una nxt high cn e W) (rt := rt) i
    rw [ms_bs] at g
    generalize ms_bs (ms_rf es cw una nxt high cn e W) rt i = b at g hb ⊢
    by_cases q1 : ms_rf es cw una nxt high cn e W i = 0
    · rw [if_pos q1]
      refine br_f (by decide) ?_
      by_cases q2 : b = 3
      · rw [if_pos ⟨q1, Or.inl q2⟩] at g
        refine br_t (by rw [q2]; exact (show ms_bi 3 < 0 by decide)) (nm_r (nI_1 i) ?_)
        unfold ms_bi at g
        rw [if_neg (by omega)] at g
        exact g
      · have hb3 : b < 3 := by omega
        have hb' : ms_bi b = nI b := by unfold ms_bi; rw [if_neg q2]
        obtain ⟨_, _, e3, e4⟩ := hwd b hb3
        rw [hb']
        refine br_f (nI_pos (by omega)) ⟨pk_in i 3 (by omega), pk_in b 3 hb3, pk_le (rt b) (rt i) (fun z => ?_) (fun z => ?_) (ms_at (by omega)) (ms_at (by omega))⟩
        · rw [if_neg (by omega), hb'] at g
          exact nm_r (nI_1 i) g
        · rw [if_pos ⟨q1, Or.inr z⟩] at g
          unfold ms_bi at g
          rw [if_neg (by omega)] at g
          exact nm_r (nI_1 i) g
    · rw [if_neg q1]
      rw [if_neg (fun z => q1 z.1)] at g
      exact br_t rfl (nm_r (nI_1 i) g)
end
theorem ms_bi3 : ms_bi 3 = -1 := if_pos rfl
theorem ms_bin {b : Nat} (h : b < 3) : ms_bi b = nI b := if_neg (by omega)
theorem ms_all : ∀ (m c h : Nat) (u : SX) (v : SY), c + m = 24 → h + m < 2 ^ 29 → ms_R h c u v → ∃ (r : Int32) (u' : SX) (v' : SY), ms_R (h + m) 0 u' v' ∧ (∀ post : Int32 → SX → Prop, post r u' → ms_lX post (m + 1) (nI c) u) ∧ (∀ post : Int32 → SY → Prop, post r v' → ms_lY post (m + 1) (nI c) (nI c) v) := by
  intro m
  induction m with
  | zero =>
    intro c h u v hc hh I
    have e24 : c = 24 := by omega
    subst e24
    obtain ⟨B, W, R, sent, disc, st, pe, he, es, cw, rt, una, nxt, high, rn, cn, cs, cd, cl, rd, rl, N, ysf, yss, yds, yle, rfl, rfl, h1, h2, h3, h4, h5, h6⟩ := I
    obtain ⟨e, hlp⟩ := ms_lpE pe h1.1
    have hno := ms_smF (es := es) (cw := cw) (high := high) (cn := cn) (e := e) (W := W) (fun i hi => ⟨(h2 i hi).1, by have := h2 i hi; omega⟩) h6
    have hb := ms_bsn (f := ms_rf es cw una nxt high cn e W) (rt := rt) hno 3 (Nat.le_refl 3)
    refine ⟨nI 24, (ms_X B W R sent disc st pe he es cw rt una nxt high rn cn cs cd cl rd rl), (ms_Y B W R R sent disc st pe he es cw rt una nxt high rn cn cs cd cl N ysf yss yds yle), ms_mk h1 h2 h3 h4 h5 (Nat.zero_le _), fun post hp => pk_le 24 24 (fun _ => hp) (fun z => absurd z (by omega)), fun post hp => pk_le 100 24 (fun z => absurd z (by omega)) (fun _ => ⟨4, ms_y_fel h1.2.1 hlp h2 h3 h4 (by omega) ?_ 3 0 rfl⟩)⟩
    rw [hb, ms_bi3]
    exact pk_le 3 3 (fun _ => br_f (by decide) hp) (fun z => absurd z (by omega))
  | succ m ih =>
    intro c h u v hc hh I
    obtain ⟨B, W, R, sent, disc, st, pe, he, es, cw, rt, una, nxt, high, rn, cn, cs, cd, cl, rd, rl, N, ysf, yss, yds, yle, rfl, rfl, h1, h2, h3, h4, h5, h6⟩ := I
    obtain ⟨e, hlp⟩ := ms_lpE pe h1.1
    rcases ms_bsb (f := ms_rf es cw una nxt high cn e W) (rt := rt) 3 with hb | ⟨hb, h0⟩
    · refine ⟨nI c, (ms_X B W R sent disc st pe he es cw rt una nxt high rn cn cs cd cl rd rl), (ms_Y B W R R sent disc st pe he es cw rt una nxt high rn cn cs cd cl N ysf yss yds yle), ms_mk h1 (ms_ctH (by omega) h2) h3 h4 h5 (Nat.zero_le _), fun post hp => pk_le 24 c (fun z => absurd z (by omega)) (fun _ => ?_), fun post hp => pk_le 100 c (fun z => absurd z (by omega)) (fun _ => ⟨4, ms_y_fel h1.2.1 hlp h2 h3 h4 (by omega) ?_ 3 0 rfl⟩)⟩
      · refine ms_x_fe h1.2.1 hlp h2 h3 h4 (by omega) ?_
        rw [hb, ms_bi3]
        exact br_t rfl hp
      · rw [hb, ms_bi3]
        exact pk_le 3 3 (fun _ => br_f (by decide) hp) (fun z => absurd z (by omega))
    · obtain ⟨l, u1, v1, l1, l4, hR1, hX, hY⟩ := ms_step hb h1 h2 h3 h4 h5 h6 (by omega) hlp h0
      obtain ⟨r, u', v', hR', gX, gY⟩ := ih (c + 1) (h + 1) u1 v1 (by omega) (by omega) hR1
      obtain ⟨_, _, _, _, _, _, _, _, _, _, _, _, _, _, _, _, _, _, _, _, _, _, _, _, _, _, rfl, rfl, _⟩ := hR1
      refine ⟨r, u', v', by rw [show h + (m + 1) = h + 1 + m by omega]; exact hR', fun post hp => pk_le 24 c (fun z => absurd z (by omega)) (fun _ => ?_), fun post hp => pk_le 100 c (fun z => absurd z (by omega)) (fun _ => ⟨4, ms_y_fel h1.2.1 hlp h2 h3 h4 (by omega) ?_ 3 0 rfl⟩)⟩
      · refine ms_x_fe h1.2.1 hlp h2 h3 h4 (by omega) ?_
        rw [ms_bin hb]
        exact br_f (ms_nm1 (by omega)) (hX _ (nm_r (nI_1 c) (gX post hp)))
      · rw [ms_bin hb]
        exact pk_le 3 3 (fun _ => br_t (nI_pos' (by omega)) (hY _ (pk_lt 0 l (fun _ => nm_r (nI_1 c) (nm_r (nI_1 c) (gY post hp))) (fun z => absurd z (by omega))))) (fun z => absurd z (by omega))
end
section
def ms_cE (es : Nat → Int32) : Nat → Nat
  | 0 => 0
  | i + 1 => if es i = 1 then ms_cE es i + 1 else ms_cE es i
section
variable {B : Int32} {W R : Nat} {sent disc : Int32} {st pe he es : Nat → Int32} {cw rt una nxt high : Nat → Nat} {rn : Nat → Int32} {cn cs cd cl rd rl : Nat → Nat} {N : Nat} {ysf yss yds yle : Nat → Nat}
theorem ms_x_ce {post : Int32 → Prop} (hp : post (nI (ms_cE es 3))) : ∀ k i, i + k = 3 → wX_countEstablished_4 post B (nI W) (nI R) sent disc st pe he es (ms_im cw) (ms_im rt) (ms_im una) (ms_im nxt) (ms_im high) rn (ms_im cn) (ms_im cs) (ms_im cd) (ms_im cl) (ms_im rd) (ms_im rl) (k + 1) (nI (ms_cE es i)) (nI i) := by
  intro k
  induction k with
  | zero =>
    intro i hi
    have e : i = 3 := by omega
    subst e
    exact pk_le 3 3 (fun _ => hp) (fun z => absurd z (by omega))
  | succ k ih =>
    intro i hi
    have g := ih (i + 1) (by omega)
    refine pk_le 3 i (fun z => absurd z (by omega)) (fun _ => ms_x_est (by omega) ?_)
    by_cases c : es i = 1
    · rw [if_pos c]
      rw [ms_cE, if_pos c] at g
      exact br_f (by decide) (nm_r (nI_1 _) (nm_r (nI_1 i) g))
    · rw [if_neg c]
      rw [ms_cE, if_neg c] at g
      exact br_t rfl (nm_r (nI_1 i) g)
theorem ms_y_ce {post : Int32 → Prop} (hp : post (nI (ms_cE es 3))) : ∀ k i, i + k = 3 → wY_conn_158 post B (nI N) (nI W) (nI R) (nI R) sent disc (ms_im rt) es (ms_im cw) (ms_im una) (ms_im nxt) (ms_im high) rn (ms_im cn) (ms_im cs) (ms_im cd) (ms_im cl) (ms_im ysf) (ms_im yss) (ms_im yds) (ms_im yle) st pe he (k + 1) (nI (ms_cE es i)) (nI i) := by
  intro k
  induction k with
  | zero =>
    intro i hi
    have e : i = 3 := by omega
    subst e
    exact pk_le 3 3 (fun _ => hp) (fun z => absurd z (by omega))
  | succ k ih =>
    intro i hi
    have g := ih (i + 1) (by omega)
    refine pk_le 3 i (fun z => absurd z (by omega)) (fun _ => ⟨pk_in i 3 (by omega), ?_⟩)
    rw [nI_clamp (show i < 2 ^ 31 by omega)]
    by_cases c : es i = 1
    · rw [ms_cE, if_pos c] at g
      exact br_t c (nm_r (nI_1 _) (nm_r (nI_1 i) g))
    · rw [ms_cE, if_neg c] at g
      exact br_f c (nm_r (nI_1 i) g)
theorem ms_x_cp {post : Int32 → Prop} (hp : post (nI (ms_cf pe 0 256))) : ∀ k i, i + k = 256 → wX_countSet__pending_4 post B (nI W) (nI R) sent disc st pe he es (ms_im cw) (ms_im rt) (ms_im una) (ms_im nxt) (ms_im high) rn (ms_im cn) (ms_im cs) (ms_im cd) (ms_im cl) (ms_im rd) (ms_im rl) (k + 1) (nI (ms_cf pe 0 i)) (nI i) := by
  intro k
  induction k with
  | zero =>
    intro i hi
    have e : i = 256 := by omega
    subst e
    exact pk_le 256 256 (fun _ => hp) (fun z => absurd z (by omega))
  | succ k ih =>
    intro i hi
    have g := ih (i + 1) (by omega)
    refine pk_le 256 i (fun z => absurd z (by omega)) (fun _ => ⟨pk_in i 256 (by omega), ?_⟩)
    rw [nI_clamp (show i < 2 ^ 31 by omega)]
    rw [ms_cf, Nat.zero_add] at g
    by_cases c : pe i = 0
    · rw [if_pos c] at g
      exact br_t c (nm_r (nI_1 i) g)
    · rw [if_neg c] at g
      exact br_f c (nm_r (nI_1 _) (nm_r (nI_1 i) g))
theorem ms_x_ch {post : Int32 → Prop} (hp : post (nI (ms_cf he 0 256))) : ∀ k i, i + k = 256 → wX_countSet__held_4 post B (nI W) (nI R) sent disc st pe he es (ms_im cw) (ms_im rt) (ms_im una) (ms_im nxt) (ms_im high) rn (ms_im cn) (ms_im cs) (ms_im cd) (ms_im cl) (ms_im rd) (ms_im rl) (k + 1) (nI (ms_cf he 0 i)) (nI i) := by
  intro k
  induction k with
  | zero =>
    intro i hi
    have e : i = 256 := by omega
    subst e
    exact pk_le 256 256 (fun _ => hp) (fun z => absurd z (by omega))
  | succ k ih =>
    intro i hi
    have g := ih (i + 1) (by omega)
    refine pk_le 256 i (fun z => absurd z (by omega)) (fun _ => ⟨pk_in i 256 (by omega), ?_⟩)
    rw [nI_clamp (show i < 2 ^ 31 by omega)]
    rw [ms_cf, Nat.zero_add] at g
    by_cases c : he i = 0
    · rw [if_pos c] at g
      exact br_t c (nm_r (nI_1 i) g)
    · rw [if_neg c] at g
      exact br_f c (nm_r (nI_1 _) (nm_r (nI_1 i) g))
theorem ms_y_ch {post : Int32 → Prop} (hp : post (nI (ms_cf he 0 256))) : ∀ k i, i + k = 256 → wY_conn_89 post B (nI N) (nI W) (nI R) (nI R) sent disc (ms_im rt) es (ms_im cw) (ms_im una) (ms_im nxt) (ms_im high) rn (ms_im cn) (ms_im cs) (ms_im cd) (ms_im cl) (ms_im ysf) (ms_im yss) (ms_im yds) (ms_im yle) st pe he (k + 1) (nI (ms_cf he 0 i)) (nI i) := by
  intro k
  induction k with
  | zero =>
    intro i hi
    have e : i = 256 := by omega
    subst e
    exact pk_le 256 256 (fun _ => hp) (fun z => absurd z (by omega))
  | succ k ih =>
    intro i hi
    have g := ih (i + 1) (by omega)
    refine pk_le 256 i (fun z => absurd z (by omega)) (fun _ => ⟨pk_in i 256 (by omega), ?_⟩)
    rw [nI_clamp (show i < 2 ^ 31 by omega)]
    rw [ms_cf, Nat.zero_add] at g
    by_cases c : he i = 0
    · rw [if_pos c] at g
      exact br_t c (nm_r (nI_1 i) g)
    · rw [if_neg c] at g
      exact br_f c (nm_r (nI_1 _) (nm_r (nI_1 i) g))
theorem ms_y_cp {post : Int32 → Prop} (hR : R ≤ W) (hW : W ≤ 256) (hp : post (nI (ms_cf pe R (W - R)))) : ∀ k i, i + k = W - R → wY_conn_41 post B (nI N) (nI W) (nI R) (nI R) sent disc (ms_im rt) es (ms_im cw) (ms_im una) (ms_im nxt) (ms_im high) rn (ms_im cn) (ms_im cs) (ms_im cd) (ms_im cl) (ms_im ysf) (ms_im yss) (ms_im yds) (ms_im yle) st pe he (k + 1) (nI (ms_cf pe R i)) (nI (R + i)) := by
  intro k
  induction k with
  | zero =>
    intro i hi
    have e : i = W - R := by omega
    subst e
    exact pk_le W (R + (W - R)) (fun _ => hp) (fun z => absurd z (by omega))
  | succ k ih =>
    intro i hi
    have g := ih (i + 1) (by omega)
    refine pk_le W (R + i) (fun z => absurd z (by omega)) (fun _ => br_f (nI_pos (by omega)) (pk_le 256 (R + i) (fun z => absurd z (by omega)) (fun _ => ⟨pk_in (R + i) 256 (by omega), ?_⟩)))
    rw [nI_clamp (show R + i < 2 ^ 31 by omega)]
    rw [ms_cf] at g
    by_cases c : pe (R + i) = 0
    · rw [if_pos c] at g
      exact br_t c (nm_r (nI_1 (R + i)) g)
    · rw [if_neg c] at g
      exact br_f c (nm_r (nI_1 _) (nm_r (nI_1 (R + i)) g))
end
end
section
def i_Rel (k : Nat) (u : SX) (v : SY) : Prop := ms_R (6 * k) 0 u v
theorem i_up {k : Nat} {u : SX} {v : SY} (h : i_Rel k u v) : i_Rel (k + 4) u v := ms_Rup (by omega) (Nat.le_refl 0) h
section
variable {B : Int32} {W R : Nat} {sent disc : Int32} {st pe he es : Nat → Int32} {cw rt una nxt high : Nat → Nat} {rn : Nat → Int32} {cn cs cd cl rd rl : Nat → Nat} {N : Nat} {ysf yss yds yle : Nat → Nat} {a : Nat}
theorem ms_x_refb {post : Int32 → Prop} {x : Int32} (hx : x < 0 ∨ (3 : Int32) ≤ x) (hp : post (-1)) : wpX_refusalOfSend post (ms_X B W R sent disc st pe he es cw rt una nxt high rn cn cs cd cl rd rl) x := by
  unfold wpX_refusalOfSend
  refine ms_x_nsb hx ?_
  exact br_t rfl hp
end
theorem i_vc_write {k : Nat} {u : SX} {v : SY} (I : i_Rel k u v) (hk : k + 4 ≤ 2052) (v1 : Int32) : wpX_write (fun r u' => wpY_write (fun r' v' => r' = r ∧ i_Rel (k + 4) u' v') v v1) u v1 := by
  have I2 := i_up I
  obtain ⟨B, W, R, sent, disc, st, pe, he, es, cw, rt, una, nxt, high, rn, cn, cs, cd, cl, rd, rl, N, ysf, yss, yds, yle, rfl, rfl, h1, h2, h3, h4, h5, h6⟩ := I
  have hW := h1.2.1
  refine pk_eq W 256 (fun z => ?_) (fun z => ?_)
  · exact pk_eq W 256 (fun _ => ⟨rfl, I2⟩) (fun q => absurd z q)
  · by_cases c : nI W - nI R = B
    · exact br_t c (pk_eq W 256 (fun q => absurd q z) (fun _ => br_t c ⟨rfl, I2⟩))
    · refine br_f c ⟨pk_in W 256 (by omega), nm_r (ms_cu (by omega)) ⟨pk_in W 256 (by omega), nm_r (e' := upd pe W 1) (by rw [ms_cu (by omega), ms_n1]) (nm_r (nI_1 W) ?_)⟩⟩
      refine pk_eq W 256 (fun q => absurd q z) (fun _ => br_f c ⟨pk_in W 256 (by omega), nm_r (ms_cu (by omega)) ⟨pk_in W 256 (by omega), nm_r (e' := upd pe W 1) (by rw [ms_cu (by omega), ms_n1]) (nm_r (nI_1 W) ?_)⟩⟩)
      exact ⟨rfl, ms_mk (ms_k_write h1 (by omega)) (ms_ctH (by omega) h2) h3 (ms_chW (by omega) (fun _ _ => Nat.le_refl _) h4) (ms_rcW (by omega) h5) (Nat.zero_le _)⟩
theorem i_vc_send {k : Nat} {u : SX} {v : SY} (I : i_Rel k u v) (hk : k + 4 ≤ 2052) (v1 : Int32) : wpX_send (fun r u' => wpY_send (fun r' v' => r' = r ∧ i_Rel (k + 4) u' v') v v1) u v1 := by
  have I2 := i_up I
  obtain ⟨B, W, R, sent, disc, st, pe, he, es, cw, rt, una, nxt, high, rn, cn, cs, cd, cl, rd, rl, N, ysf, yss, yds, yle, rfl, rfl, h1, h2, h3, h4, h5, h6⟩ := I
  rcases ms_bd v1 with hb | ⟨a, ha, rfl⟩
  · unfold wpX_send
    refine ms_x_refb hb ?_
    refine br_f (by decide) ?_
    unfold wpY_send
    refine ms_y_nsb hb ?_
    exact br_f (by decide) ⟨rfl, I2⟩
  · obtain ⟨e, hlp⟩ := ms_lpE pe h1.1
    obtain ⟨c1, c2, c3, c4, _⟩ := h2 a ha
    obtain ⟨_, d2, _, _⟩ := h3 a ha
    obtain ⟨k8, _⟩ := h4 a ha
    unfold wpX_send
    refine ms_x_ref ha h1.2.1 hlp c1 c2 (by omega) d2 k8 ?_
    by_cases h0 : ms_rf es cw una nxt high cn e W a = 0
    · obtain ⟨l, u', v', _, _, hR, hX, hY⟩ := ms_step ha h1 h2 h3 h4 h5 h6 (by omega) hlp h0
      have hR2 : i_Rel (k + 4) u' v' := ms_Rup (by omega) (Nat.zero_le _) hR
      obtain ⟨_, _, _, _, _, _, _, _, _, _, _, _, _, _, _, _, _, _, _, _, _, _, _, _, _, _, rfl, rfl, _⟩ := hR
      exact br_t h0 (hX _ (hY _ ⟨rfl, hR2⟩))
    · exact br_f h0 (ms_y_s0 ha h1.2.1 hlp c1 c2 (by omega) d2 k8 (fun z => absurd z h0) ⟨rfl, I2⟩)
theorem i_vc_sendAll {k : Nat} {u : SX} {v : SY} (I : i_Rel k u v) (hk : k + 4 ≤ 2052) : wpX_sendAll (fun r u' => wpY_sendAll (fun r' v' => r' = r ∧ i_Rel (k + 4) u' v') v) u := by
  obtain ⟨r, u', v', hR, hX, hY⟩ := ms_all 24 0 (6 * k) u v rfl (by omega) I
  have hR2 : i_Rel (k + 4) u' v' := ms_Rup (by omega) (Nat.le_refl 0) hR
  obtain ⟨B, W, R, sent, disc, st, pe, he, es, cw, rt, una, nxt, high, rn, cn, cs, cd, cl, rd, rl, N, ysf, yss, yds, yle, rfl, rfl, h1, h2, h3, h4, h5, h6⟩ := I
  have gY : ms_lY (fun r' v' => r' = r ∧ i_Rel (k + 4) u' v') 25 0 0 (ms_Y B W R R sent disc st pe he es cw rt una nxt high rn cn cs cd cl N ysf yss yds yle) := by
    have h := hY (fun r' v' => r' = r ∧ i_Rel (k + 4) u' v') ⟨rfl, hR2⟩
    rw [nI_0] at h
    exact h
  have hY2 : wpY_sendAll (fun r' v' => r' = r ∧ i_Rel (k + 4) u' v') (ms_Y B W R R sent disc st pe he es cw rt una nxt high rn cn cs cd cl N ysf yss yds yle) := by
    unfold ms_lY at gY
    exact ⟨25, gY⟩
  have gX : ms_lX (fun r u' => wpY_sendAll (fun r' v' => r' = r ∧ i_Rel (k + 4) u' v') (ms_Y B W R R sent disc st pe he es cw rt una nxt high rn cn cs cd cl N ysf yss yds yle)) 25 0 (ms_X B W R sent disc st pe he es cw rt una nxt high rn cn cs cd cl rd rl) := by
    have h := hX (fun r u' => wpY_sendAll (fun r' v' => r' = r ∧ i_Rel (k + 4) u' v') (ms_Y B W R R sent disc st pe he es cw rt una nxt high rn cn cs cd cl N ysf yss yds yle)) hY2
    rw [nI_0] at h
    exact h
  unfold ms_lX at gX
  exact ⟨25, gX⟩
theorem i_vc_drop {k : Nat} {u : SX} {v : SY} (I : i_Rel k u v) (hk : k + 4 ≤ 2052) (v1 : Int32) : wpX_drop (fun r u' => wpY_drop (fun r' v' => r' = r ∧ i_Rel (k + 4) u' v') v v1) u v1 := by
  have I2 := i_up I
  obtain ⟨B, W, R, sent, disc, st, pe, he, es, cw, rt, una, nxt, high, rn, cn, cs, cd, cl, rd, rl, N, ysf, yss, yds, yle, rfl, rfl, h1, h2, h3, h4, h5, h6⟩ := I
  rcases ms_bd v1 with hb | ⟨a, ha, rfl⟩
  · unfold wpX_drop
    refine ms_x_nsb hb ?_
    refine br_t rfl ?_
    unfold wpY_drop
    refine ms_y_nsb hb ?_
    exact br_f (by decide) ⟨rfl, I2⟩
  · obtain ⟨k8, _⟩ := h4 a ha
    unfold wpX_drop
    refine ms_x_sub ha ?_
    refine br_f (by decide) ⟨pk_in a 3 ha, pk_eq (cn a) 0 (fun z => ?_) (fun z => ?_) (ms_at (by omega))⟩
    · unfold wpY_drop
      refine ms_y_sub ha ?_
      exact br_t rfl ⟨pk_in a 3 ha, pk_eq (cn a) 0 (fun _ => ⟨rfl, I2⟩) (fun q => absurd z q) (ms_at (by omega))⟩
    · refine ms_x_pop ha (by omega) k8 ?_
      unfold wpY_drop
      refine ms_y_sub ha ?_
      refine br_t rfl ⟨pk_in a 3 ha, pk_eq (cn a) 0 (fun q => absurd q z) (fun _ => ?_) (ms_at (by omega))⟩
      exact ms_y_pop ha (by omega) k8 ⟨rfl, ms_mk h1 (ms_ctH (by omega) h2) h3 (ms_ch_pop h4 ha (by omega)) h5 (Nat.zero_le _)⟩
theorem i_vc_duplicate {k : Nat} {u : SX} {v : SY} (I : i_Rel k u v) (hk : k + 4 ≤ 2052) (v1 : Int32) : wpX_duplicate (fun r u' => wpY_duplicate (fun r' v' => r' = r ∧ i_Rel (k + 4) u' v') v v1) u v1 := by
  have I2 := i_up I
  obtain ⟨B, W, R, sent, disc, st, pe, he, es, cw, rt, una, nxt, high, rn, cn, cs, cd, cl, rd, rl, N, ysf, yss, yds, yle, rfl, rfl, h1, h2, h3, h4, h5, h6⟩ := I
  rcases ms_bd v1 with hb | ⟨a, ha, rfl⟩
  · unfold wpX_duplicate
    refine ms_x_nsb hb ?_
    refine br_t rfl ?_
    unfold wpY_duplicate
    refine ms_y_nsb hb ?_
    exact br_f (by decide) ⟨rfl, I2⟩
  · obtain ⟨k8, hs⟩ := h4 a ha
    unfold wpX_duplicate
    refine ms_x_sub ha ?_
    refine br_f (by decide) ⟨pk_in a 3 ha, pk_eq (cn a) 0 (fun z => ?_) (fun z => ⟨pk_in a 3 ha, pk_eq (cn a) 8 (fun z2 => ?_) (fun z2 => ?_) (ms_at (by omega))⟩) (ms_at (by omega))⟩
    · unfold wpY_duplicate
      refine ms_y_sub ha ?_
      exact br_t rfl ⟨pk_in a 3 ha, pk_eq (cn a) 0 (fun _ => ⟨rfl, I2⟩) (fun q => absurd z q) (ms_at (by omega))⟩
    · unfold wpY_duplicate
      refine ms_y_sub ha ?_
      exact br_t rfl ⟨pk_in a 3 ha, pk_eq (cn a) 0 (fun q => absurd q z) (fun _ => ⟨pk_in a 3 ha, pk_lt (cn a) 8 (fun q => absurd q (by omega)) (fun _ => ⟨rfl, I2⟩) (ms_at (by omega))⟩) (ms_at (by omega))⟩
    · have h0 := hs 0 (by omega)
      rw [Nat.add_zero (a * 8)] at h0
      refine nm_r (ms_m8 a) ⟨pk_in (a * 8) 24 (by omega), pk_in (a * 8) 24 (by omega), pk_in (a * 8) 24 (by omega), ?_⟩
      rw [ms_at (by omega), ms_at (by omega), ms_at (by omega)]
      refine ms_x_app ha (by omega) ?_
      unfold wpY_duplicate
      refine ms_y_sub ha ?_
      refine br_t rfl ⟨pk_in a 3 ha, pk_eq (cn a) 0 (fun q => absurd q z) (fun _ => ⟨pk_in a 3 ha, pk_lt (cn a) 8 (fun _ => ?_) (fun q => absurd q (by omega)) (ms_at (by omega))⟩) (ms_at (by omega))⟩
      refine nm_r (ms_m8 a) ⟨pk_in (a * 8) 24 (by omega), pk_in (a * 8) 24 (by omega), pk_in (a * 8) 24 (by omega), ?_⟩
      rw [ms_at (by omega), ms_at (by omega), ms_at (by omega)]
      exact ms_y_push ha (by omega) ⟨rfl, ms_mk h1 (ms_ctH (by omega) h2) h3 (ms_ch_push h4 ha (by omega) h0.1 h0.2) h5 (Nat.zero_le _)⟩
section
variable {B : Int32} {W R : Nat} {sent disc : Int32} {st pe he es : Nat → Int32} {cw rt una nxt high : Nat → Nat} {rn : Nat → Int32} {cn cs cd cl rd rl : Nat → Nat} {N : Nat} {ysf yss yds yle : Nat → Nat} {a : Nat}
theorem ms_x_60 {post : Int32 → SX → Prop} {c : Nat} (ha : a < 3) (hp : post 1 (ms_X B W R sent disc st pe he es (ms_un cw a c) rt una (ms_un nxt a (una a)) high rn cn cs cd cl rd rl)) : wX_timeout_60 post (nI a) (nI c) (nI a) B (nI W) (nI R) sent disc st pe he es (ms_im cw) (ms_im rt) (ms_im una) (ms_im nxt) (ms_im high) rn (ms_im cn) (ms_im cs) (ms_im cd) (ms_im cl) (ms_im rd) (ms_im rl) :=
  ⟨pk_in a 3 ha, nm_r (ms_up (by omega)) ⟨pk_in a 3 ha, pk_in a 3 ha, nm_r (by rw [ms_at (by omega)]; exact ms_up (by omega)) hp⟩⟩
theorem ms_y_63 {post : Int32 → SY → Prop} {c : Nat} (ha : a < 3) (hp : post 1 (ms_Y B W R R sent disc st pe he es (ms_un cw a c) rt una (ms_un nxt a (una a)) high rn cn cs cd cl N ysf yss yds yle)) : wY_timeout_63 post (nI a) (nI c) (nI a) B (nI N) (nI W) (nI R) (nI R) sent disc (ms_im rt) es (ms_im cw) (ms_im una) (ms_im nxt) (ms_im high) rn (ms_im cn) (ms_im cs) (ms_im cd) (ms_im cl) (ms_im ysf) (ms_im yss) (ms_im yds) (ms_im yle) st pe he :=
  ⟨pk_in a 3 ha, nm_r (ms_up (by omega)) ⟨pk_in a 3 ha, pk_in a 3 ha, nm_r (by rw [ms_at (by omega)]; exact ms_up (by omega)) hp⟩⟩
theorem ms_x_to {post : Int32 → SX → Prop} (ha : a < 3) (hes : es a = 1) (hc : cw a ≤ 4096) (hh : high a < 2 ^ 30) (hu : una a < high a) (hp : post 1 (ms_X B W R sent disc st pe he es (ms_un cw a (if cw a / 2 < 256 then 256 else cw a / 2)) rt una (ms_un nxt a (una a)) high rn cn cs cd cl rd rl)) : wpX_timeout post (ms_X B W R sent disc st pe he es cw rt una nxt high rn cn cs cd cl rd rl) (nI a) := by
  unfold wpX_timeout
  refine ms_x_sub ha ?_
  refine br_f (by decide) ?_
  refine ms_x_est ha ?_
  rw [if_pos hes]
  refine br_f (by decide) ⟨pk_in a 3 ha, pk_in a 3 ha, pk_eq (high a) (una a) (fun z => absurd z (by omega)) (fun _ => ⟨pk_in a 3 ha, by decide, nm_r (e' := nI (cw a / 2)) ?_ ?_⟩) (ms_at (by omega)) (ms_at (by omega))⟩
  · rw [ms_at (by omega)]
    exact pk_div (d := 2) (by omega) (by decide) (by decide)
  · refine pk_le 256 (cw a / 2) (fun z => ?_) (fun z => ?_)
    · rw [if_neg (by omega)] at hp
      exact ms_x_60 ha hp
    · rw [if_pos z] at hp
      exact ms_x_60 ha hp
theorem ms_y_to {post : Int32 → SY → Prop} (ha : a < 3) (hes : es a = 1) (hc : cw a ≤ 4096) (hh : high a < 2 ^ 30) (hu : una a < high a) (hp : post 1 (ms_Y B W R R sent disc st pe he es (ms_un cw a (if cw a / 2 < 256 then 256 else cw a / 2)) rt una (ms_un nxt a (una a)) high rn cn cs cd cl N ysf yss yds yle)) : wpY_timeout post (ms_Y B W R R sent disc st pe he es cw rt una nxt high rn cn cs cd cl N ysf yss yds yle) (nI a) := by
  unfold wpY_timeout
  refine ms_y_sub ha ?_
  refine br_t rfl ⟨pk_in a 3 ha, br_t (by rw [nI_clamp (by omega)]; exact hes) ⟨pk_in a 3 ha, pk_in a 3 ha, pk_eq (high a) (una a) (fun z => absurd z (by omega)) (fun _ => ⟨pk_in a 3 ha, by decide, nm_r (e' := nI (cw a / 2)) ?_ ?_⟩) (ms_at (by omega)) (ms_at (by omega))⟩⟩
  · rw [ms_at (by omega)]
    exact pk_div (d := 2) (by omega) (by decide) (by decide)
  · refine pk_le 256 (cw a / 2) (fun z => ?_) (fun z => ?_)
    · rw [if_neg (by omega)] at hp
      exact ms_y_63 ha hp
    · rw [if_pos z] at hp
      exact ms_y_63 ha hp
end
theorem i_vc_timeout {k : Nat} {u : SX} {v : SY} (I : i_Rel k u v) (hk : k + 4 ≤ 2052) (v1 : Int32) : wpX_timeout (fun r u' => wpY_timeout (fun r' v' => r' = r ∧ i_Rel (k + 4) u' v') v v1) u v1 := by
  have I2 := i_up I
  obtain ⟨B, W, R, sent, disc, st, pe, he, es, cw, rt, una, nxt, high, rn, cn, cs, cd, cl, rd, rl, N, ysf, yss, yds, yle, rfl, rfl, h1, h2, h3, h4, h5, h6⟩ := I
  rcases ms_bd v1 with hb | ⟨a, ha, rfl⟩
  · unfold wpX_timeout
    refine ms_x_nsb hb ?_
    refine br_t rfl ?_
    unfold wpY_timeout
    refine ms_y_nsb hb ?_
    exact br_f (by decide) ⟨rfl, I2⟩
  · obtain ⟨c1, c2, c3, c4, _⟩ := h2 a ha
    obtain ⟨d1, d2, _, _⟩ := h3 a ha
    by_cases hes : es a = 1
    · by_cases hu : high a = una a
      · unfold wpX_timeout
        refine ms_x_sub ha ?_
        refine br_f (by decide) ?_
        refine ms_x_est ha ?_
        rw [if_pos hes]
        refine br_f (by decide) ⟨pk_in a 3 ha, pk_in a 3 ha, pk_eq (high a) (una a) (fun _ => ?_) (fun z => absurd hu z) (ms_at (by omega)) (ms_at (by omega))⟩
        unfold wpY_timeout
        refine ms_y_sub ha ?_
        exact br_t rfl ⟨pk_in a 3 ha, br_t (by rw [nI_clamp (by omega)]; exact hes) ⟨pk_in a 3 ha, pk_in a 3 ha, pk_eq (high a) (una a) (fun _ => ⟨rfl, I2⟩) (fun z => absurd hu z) (ms_at (by omega)) (ms_at (by omega))⟩⟩
      · have hb : 256 ≤ (if cw a / 2 < 256 then 256 else cw a / 2) ∧ (if cw a / 2 < 256 then 256 else cw a / 2) ≤ 4096 := by split <;> omega
        exact ms_x_to ha hes d2 (by omega) (by omega) (ms_y_to ha hes d2 (by omega) (by omega) ⟨rfl, ms_mk h1 (ms_ctH (by omega) (ms_k_to h2)) (ms_k_wd h3 hb.1 hb.2) h4 h5 (Nat.zero_le _)⟩)
    · unfold wpX_timeout
      refine ms_x_sub ha ?_
      refine br_f (by decide) ?_
      refine ms_x_est ha ?_
      rw [if_neg hes]
      refine br_t rfl ?_
      unfold wpY_timeout
      refine ms_y_sub ha ?_
      exact br_t rfl ⟨pk_in a 3 ha, br_f (by rw [nI_clamp (by omega)]; exact hes) ⟨rfl, I2⟩⟩
theorem i_vc_fail {k : Nat} {u : SX} {v : SY} (I : i_Rel k u v) (hk : k + 4 ≤ 2052) (v1 : Int32) : wpX_fail (fun r u' => wpY_fail (fun r' v' => r' = r ∧ i_Rel (k + 4) u' v') v v1) u v1 := by
  have I2 := i_up I
  obtain ⟨B, W, R, sent, disc, st, pe, he, es, cw, rt, una, nxt, high, rn, cn, cs, cd, cl, rd, rl, N, ysf, yss, yds, yle, rfl, rfl, h1, h2, h3, h4, h5, h6⟩ := I
  rcases ms_bd v1 with hb | ⟨a, ha, rfl⟩
  · unfold wpX_fail
    refine ms_x_nsb hb ?_
    refine br_t rfl ?_
    unfold wpY_fail
    refine ms_y_nsb hb ?_
    exact br_f (by decide) ⟨rfl, I2⟩
  · obtain ⟨c1, c2, c3, c4, _⟩ := h2 a ha
    have hW := h1.2.1
    have hR := h1.1
    by_cases hes : es a = 1
    · refine ms_x_fail ha hes (by omega) (by omega) (ms_xrE h5) hW (by omega) ?_
      rw [ms_fxy pe h5 ha hes (by omega)]
      refine ms_y_fail ha hes h5.1 h5.2.1 (fun i hi => ⟨(ms_k_in h5 hi).1, (ms_k_in h5 hi).2.2.2.2⟩) (ms_k_b h2 h5 (by omega)) hW (by omega) (fun N2 sf2 ss2 ds2 le2 hf => ?_)
      exact ⟨rfl, ms_mk (ms_fxw h1 h5) (ms_ctH (by omega) (ms_k_es (by decide) h2)) h3 h4 (ms_rc_fail h5 (by decide) hf) (Nat.zero_le _)⟩
    · unfold wpX_fail
      refine ms_x_sub ha ?_
      refine br_f (by decide) ?_
      refine ms_x_est ha ?_
      rw [if_neg hes]
      refine br_t rfl ?_
      unfold wpY_fail
      refine ms_y_sub ha ?_
      exact br_t rfl ⟨pk_in a 3 ha, br_f (by rw [nI_clamp (by omega)]; exact hes) ⟨rfl, I2⟩⟩
end
section
theorem i_vc_deliver {k : Nat} {u : SX} {v : SY} (I : i_Rel k u v) (hk : k + 4 ≤ 2052) (v1 : Int32) : wpX_deliver (fun r u' => wpY_deliver (fun r' v' => r' = r ∧ i_Rel (k + 4) u' v') v v1) u v1 := by
  have I2 := i_up I
  obtain ⟨B, W, R, sent, disc, st, pe, he, es, cw, rt, una, nxt, high, rn, cn, cs, cd, cl, rd, rl, N, ysf, yss, yds, yle, rfl, rfl, h1, h2, h3, h4, h5, h6⟩ := I
  rcases ms_bd v1 with hb | ⟨a, ha, rfl⟩
  · unfold wpX_deliver
    refine ms_x_nsb hb ?_
    refine br_t rfl ?_
    unfold wpY_deliver
    refine ms_y_nsb hb ?_
    exact br_f (by decide) ⟨rfl, I2⟩
  · obtain ⟨k8, hsg⟩ := h4 a ha
    by_cases hc0 : cn a = 0
    · unfold wpX_deliver
      refine ms_x_sub ha ?_
      refine br_f (by decide) ⟨pk_in a 3 ha, pk_eq (cn a) 0 (fun _ => ?_) (fun z => absurd hc0 z) (ms_at (by omega))⟩
      unfold wpY_deliver
      refine ms_y_sub ha ?_
      exact br_t rfl ⟨pk_in a 3 ha, pk_eq (cn a) 0 (fun _ => ⟨rfl, I2⟩) (fun z => absurd hc0 z) (ms_at (by omega))⟩
    · have h0 := hsg 0 (by omega)
      rw [Nat.add_zero (a * 8)] at h0
      have hch := ms_ch_pop h4 ha (by omega)
      have hW := h1.2.1
      have hRW := h1.1
      obtain ⟨c1, c2, c3, c4, c5⟩ := h2 a ha
      have hd : cd (a * 8) + cl (a * 8) ≤ 256 := by omega
      by_cases hs : nI (cs (a * 8)) = rn a
      · obtain ⟨m, hm⟩ := ms_pxE (ms_hd R B (cd (a * 8)) disc he (cl (a * 8))).2 (R := R) (by omega)
        have hw := ms_hdW (R := R) (B := B) (d := cd (a * 8)) (q := disc) (p := he) h1.2.2.2 (cl (a * 8)) h0.2
        have hfg := ms_k_pf h1 hw hm
        have hlow := ms_k_low (m := m) h1
        have hRm : R + m ≤ 256 := hm.1
        by_cases hes : es a = 1
        · have rn1 := c5 hes
          have ern : rn a + 1 = nI (una a + 1) := by rw [rn1, nI_1]
          have su : cs (a * 8) = una a := by
            rw [rn1] at hs
            exact (nI_eq (by omega) (by omega)).mp hs
          refine ms_x_de (b := una a + 1) ha (by omega) k8 hs hes h3 ern (by omega) (by omega) hd hm (fun n2 hn2 => ?_)
          refine ms_y_d0 ha (by omega) k8 (fun _ => ?_) (fun z => absurd hs z)
          refine ms_y_dl hd hm ?_
          refine ms_y_236e (b := una a + 1) ha h3 hes hRm (by rw [pk_us, ern]) (by omega) (by omega) (ms_k_b h2 h5 (by omega)) h5.1 h5.2.1 (fun N2 sf2 ss2 ds2 le2 hfi n3 hn3 => ?_)
          have e23 : n3 = n2 := by
            rcases hn2 with ⟨p1, p2⟩ | ⟨p1, p2⟩
            · rcases hn3 with ⟨q1, q2⟩ | ⟨q1, q2⟩
              · rw [p2, q2]
              · omega
            · rcases hn3 with ⟨q1, q2⟩ | ⟨q1, q2⟩
              · omega
              · rw [p2, q2]
          subst e23
          rw [hlow, ern]
          have hnc := ms_ncb (M := ms_M es cw rt 3) (S := ms_S es cw rt 3) (h3 a ha).1 (h3 a ha).2.1
          exact ⟨rfl, ms_mk hfg (ms_ctH (by omega) (ms_k_ack h2 (by omega) hn2)) (ms_k_wd h3 hnc.1 hnc.2) hch (ms_rc_ack h5 hfi) (Nat.zero_le _)⟩
        · refine ms_x_df ha (by omega) k8 hs hes hd hm ?_
          refine ms_y_d0 ha (by omega) k8 (fun _ => ?_) (fun z => absurd hs z)
          refine ms_y_dl hd hm ?_
          refine ms_y_236f ha hes hRm ?_
          rw [hlow]
          exact ⟨rfl, ms_mk hfg (ms_ctH (by omega) (ms_k_rn h2 hes)) h3 hch h5 (Nat.zero_le _)⟩
      · refine ms_x_dn ha (by omega) k8 hs ?_
        exact ms_y_d0 ha (by omega) k8 (fun z => absurd z hs) (fun _ => ⟨rfl, ms_mk h1 (ms_ctH (by omega) h2) h3 hch h5 (Nat.zero_le _)⟩)
end
section
/-- a call's switch: which field -/
theorem ms_ix {x : Int32} (n : Nat) (hn : n < 2 ^ 31) : (x < 0 ∨ nI n ≤ x) ∨ ∃ j : Nat, j < n ∧ x = nI j := by
  rcases pk_ix x hn with h | h | h
  · exact Or.inl (Or.inl h)
  · exact Or.inl (Or.inr h)
  · exact Or.inr h
theorem ms_x_md {post : Int32 → Prop} {q x y z : Int32} (hq : q < 0 ∨ nI 3 ≤ q) (hp : post (-1)) : wpX_mappingField post q x y z := by
  by_cases h : q < 0
  · exact br_t h hp
  · rcases hq with hq | hq
    · exact absurd hq h
    · exact br_f h (br_t (Int32.lt_of_lt_of_le (show (2 : Int32) < nI 3 by decide) hq) hp)
theorem ms_x_m0 {post : Int32 → Prop} {x y z : Int32} (hp : post x) : wpX_mappingField post (nI 0) x y z := br_f (by decide) (br_f (by decide) (br_t rfl hp))
theorem ms_x_m1 {post : Int32 → Prop} {x y z : Int32} (hp : post y) : wpX_mappingField post (nI 1) x y z := br_f (by decide) (br_f (by decide) (br_f (by decide) (br_t rfl hp)))
theorem ms_x_m2 {post : Int32 → Prop} {x y z : Int32} (hp : post z) : wpX_mappingField post (nI 2) x y z := br_f (by decide) (br_f (by decide) (br_f (by decide) (br_f (by decide) (br_t rfl hp))))
theorem i_vc_subflow {k : Nat} {u : SX} {v : SY} (I : i_Rel k u v) (hk : k + 4 ≤ 2052) (v1 : Int32) (v2 : Int32) : wpX_subflow (fun r => wpY_subflow (fun r' => r' = r ∧ i_Rel (k + 4) u v) v v1 v2) u v1 v2 := by
  have I2 := i_up I
  obtain ⟨B, W, R, sent, disc, st, pe, he, es, cw, rt, una, nxt, high, rn, cn, cs, cd, cl, rd, rl, N, ysf, yss, yds, yle, rfl, rfl, h1, h2, h3, h4, h5, h6⟩ := I
  rcases ms_bd v1 with hb | ⟨a, ha, rfl⟩
  · unfold wpX_subflow
    refine ms_x_nsb hb ?_
    refine br_t rfl ?_
    unfold wpY_subflow
    refine ms_y_nsb hb ?_
    exact br_f (by decide) ⟨rfl, I2⟩
  · unfold wpX_subflow
    refine ms_x_sub ha ?_
    refine br_f (by decide) ?_
    rcases ms_ix (x := v2) 8 (by decide) with hq | ⟨j, hj, rfl⟩
    · have Y : wpY_subflow (fun r' => r' = -1 ∧ i_Rel (k + 4) (ms_X B W R sent disc st pe he es cw rt una nxt high rn cn cs cd cl rd rl) (ms_Y B W R R sent disc st pe he es cw rt una nxt high rn cn cs cd cl N ysf yss yds yle)) (ms_Y B W R R sent disc st pe he es cw rt una nxt high rn cn cs cd cl N ysf yss yds yle) (nI a) v2 := by
        unfold wpY_subflow
        refine ms_y_sub ha ?_
        exact br_t rfl (br_f (fun z => by rw [z] at hq; exact absurd hq (by decide)) (br_f (fun z => by rw [z] at hq; exact absurd hq (by decide)) (br_f (fun z => by rw [z] at hq; exact absurd hq (by decide)) (br_f (fun z => by rw [z] at hq; exact absurd hq (by decide)) (br_f (fun z => by rw [z] at hq; exact absurd hq (by decide)) (br_f (fun z => by rw [z] at hq; exact absurd hq (by decide)) (br_f (fun z => by rw [z] at hq; exact absurd hq (by decide)) (br_f (fun z => by rw [z] at hq; exact absurd hq (by decide)) (⟨rfl, I2⟩)))))))))
      by_cases h : v2 < 0
      · exact br_t h Y
      · rcases hq with hq | hq
        · exact absurd hq h
        · exact br_f h (br_t (Int32.lt_of_lt_of_le (show (7 : Int32) < nI 8 by decide) hq) Y)
    · have hj8 : j = 0 ∨ j = 1 ∨ j = 2 ∨ j = 3 ∨ j = 4 ∨ j = 5 ∨ j = 6 ∨ j = 7 := by omega
      rcases hj8 with rfl | rfl | rfl | rfl | rfl | rfl | rfl | rfl
      · refine br_f (by decide) (br_f (by decide) (br_t rfl (⟨pk_in a 3 ha, ?_⟩)))
        unfold wpY_subflow
        refine ms_y_sub ha ?_
        exact br_t rfl (br_t rfl (⟨pk_in a 3 ha, rfl, I2⟩))
      · refine br_f (by decide) (br_f (by decide) (br_f (by decide) (br_t rfl ?_)))
        refine ms_x_est ha ?_
        by_cases hes : es a = 1
        · rw [if_pos hes]
          refine br_f (by decide) ⟨pk_in a 3 ha, ?_⟩
          unfold wpY_subflow
          refine ms_y_sub ha ?_
          exact br_t rfl (br_f (by decide) (br_t rfl ⟨pk_in a 3 ha, br_t (by rw [nI_clamp (by omega)]; exact hes) ⟨pk_in a 3 ha, rfl, I2⟩⟩))
        · rw [if_neg hes]
          refine br_t rfl ?_
          unfold wpY_subflow
          refine ms_y_sub ha ?_
          exact br_t rfl (br_f (by decide) (br_t rfl ⟨pk_in a 3 ha, br_f (by rw [nI_clamp (by omega)]; exact hes) ⟨rfl, I2⟩⟩))
      · refine br_f (by decide) (br_f (by decide) (br_f (by decide) (br_f (by decide) (br_t rfl (⟨pk_in a 3 ha, ?_⟩)))))
        unfold wpY_subflow
        refine ms_y_sub ha ?_
        exact br_t rfl (br_f (by decide) (br_f (by decide) (br_t rfl (⟨pk_in a 3 ha, rfl, I2⟩))))
      · refine br_f (by decide) (br_f (by decide) (br_f (by decide) (br_f (by decide) (br_f (by decide) (br_t rfl (⟨pk_in a 3 ha, ?_⟩))))))
        unfold wpY_subflow
        refine ms_y_sub ha ?_
        exact br_t rfl (br_f (by decide) (br_f (by decide) (br_f (by decide) (br_t rfl (⟨pk_in a 3 ha, rfl, I2⟩)))))
      · refine br_f (by decide) (br_f (by decide) (br_f (by decide) (br_f (by decide) (br_f (by decide) (br_f (by decide) (br_t rfl (⟨pk_in a 3 ha, ?_⟩)))))))
        unfold wpY_subflow
        refine ms_y_sub ha ?_
        exact br_t rfl (br_f (by decide) (br_f (by decide) (br_f (by decide) (br_f (by decide) (br_t rfl (⟨pk_in a 3 ha, rfl, I2⟩))))))
      · refine br_f (by decide) (br_f (by decide) (br_f (by decide) (br_f (by decide) (br_f (by decide) (br_f (by decide) (br_f (by decide) (br_t rfl (⟨pk_in a 3 ha, ?_⟩))))))))
        unfold wpY_subflow
        refine ms_y_sub ha ?_
        exact br_t rfl (br_f (by decide) (br_f (by decide) (br_f (by decide) (br_f (by decide) (br_f (by decide) (br_t rfl (⟨pk_in a 3 ha, rfl, I2⟩)))))))
      · refine br_f (by decide) (br_f (by decide) (br_f (by decide) (br_f (by decide) (br_f (by decide) (br_f (by decide) (br_f (by decide) (br_f (by decide) (br_t rfl (⟨pk_in a 3 ha, ?_⟩)))))))))
        unfold wpY_subflow
        refine ms_y_sub ha ?_
        exact br_t rfl (br_f (by decide) (br_f (by decide) (br_f (by decide) (br_f (by decide) (br_f (by decide) (br_f (by decide) (br_t rfl (⟨pk_in a 3 ha, rfl, I2⟩))))))))
      · refine br_f (by decide) (br_f (by decide) (br_f (by decide) (br_f (by decide) (br_f (by decide) (br_f (by decide) (br_f (by decide) (br_f (by decide) (br_f (by decide) (br_t rfl (⟨pk_in a 3 ha, ?_⟩))))))))))
        unfold wpY_subflow
        refine ms_y_sub ha ?_
        exact br_t rfl (br_f (by decide) (br_f (by decide) (br_f (by decide) (br_f (by decide) (br_f (by decide) (br_f (by decide) (br_f (by decide) (br_t rfl (⟨pk_in a 3 ha, rfl, I2⟩)))))))))
theorem i_vc_segment {k : Nat} {u : SX} {v : SY} (I : i_Rel k u v) (hk : k + 4 ≤ 2052) (v1 : Int32) (v2 : Int32) (v3 : Int32) : wpX_segment (fun r => wpY_segment (fun r' => r' = r ∧ i_Rel (k + 4) u v) v v1 v2 v3) u v1 v2 v3 := by
  have I2 := i_up I
  obtain ⟨B, W, R, sent, disc, st, pe, he, es, cw, rt, una, nxt, high, rn, cn, cs, cd, cl, rd, rl, N, ysf, yss, yds, yle, rfl, rfl, h1, h2, h3, h4, h5, h6⟩ := I
  rcases ms_bd v1 with hb | ⟨a, ha, rfl⟩
  · unfold wpX_segment
    refine ms_x_nsb hb ?_
    refine br_t rfl ?_
    unfold wpY_segment
    refine ms_y_nsb hb ?_
    exact br_f (by decide) ⟨rfl, I2⟩
  · obtain ⟨k8, _⟩ := h4 a ha
    unfold wpX_segment
    refine ms_x_sub ha ?_
    refine br_f (by decide) ?_
    by_cases hp0 : v2 < 0
    · refine br_t hp0 ?_
      unfold wpY_segment
      refine ms_y_sub ha ?_
      exact br_t rfl (br_t hp0 ⟨rfl, I2⟩)
    · obtain ⟨j, hj, rfl⟩ := nI_of hp0
      refine br_f hp0 ⟨pk_in a 3 ha, pk_lt j (cn a) (fun z => ?_) (fun z => ?_) rfl (ms_at (by omega))⟩
      · refine nm_r (ms_sl a j) ⟨pk_in (a * 8 + j) 24 (by omega), pk_in (a * 8 + j) 24 (by omega), pk_in (a * 8 + j) 24 (by omega), ?_⟩
        rcases ms_ix (x := v3) 3 (by decide) with hq | ⟨f, hf, rfl⟩
        · refine ms_x_md hq ?_
          unfold wpY_segment
          refine ms_y_sub ha ?_
          exact br_t rfl (br_f hp0 ⟨pk_in a 3 ha, pk_lt j (cn a) (fun _ => nm_r (ms_sl a j) (br_f (fun z => by rw [z] at hq; exact absurd hq (by decide)) (br_f (fun z => by rw [z] at hq; exact absurd hq (by decide)) (br_f (fun z => by rw [z] at hq; exact absurd hq (by decide)) (⟨rfl, I2⟩))))) (fun q => absurd q (by omega)) rfl (ms_at (by omega))⟩)
        · have hf3 : f = 0 ∨ f = 1 ∨ f = 2 := by omega
          rcases hf3 with rfl | rfl | rfl
          · refine ms_x_m0 ?_
            unfold wpY_segment
            refine ms_y_sub ha ?_
            exact br_t rfl (br_f hp0 ⟨pk_in a 3 ha, pk_lt j (cn a) (fun _ => nm_r (ms_sl a j) (br_t rfl (⟨pk_in (a * 8 + j) 24 (by omega), rfl, I2⟩))) (fun q => absurd q (by omega)) rfl (ms_at (by omega))⟩)
          · refine ms_x_m1 ?_
            unfold wpY_segment
            refine ms_y_sub ha ?_
            exact br_t rfl (br_f hp0 ⟨pk_in a 3 ha, pk_lt j (cn a) (fun _ => nm_r (ms_sl a j) (br_f (by decide) (br_t rfl (⟨pk_in (a * 8 + j) 24 (by omega), rfl, I2⟩)))) (fun q => absurd q (by omega)) rfl (ms_at (by omega))⟩)
          · refine ms_x_m2 ?_
            unfold wpY_segment
            refine ms_y_sub ha ?_
            exact br_t rfl (br_f hp0 ⟨pk_in a 3 ha, pk_lt j (cn a) (fun _ => nm_r (ms_sl a j) (br_f (by decide) (br_f (by decide) (br_t rfl (⟨pk_in (a * 8 + j) 24 (by omega), rfl, I2⟩))))) (fun q => absurd q (by omega)) rfl (ms_at (by omega))⟩)
      · unfold wpY_segment
        refine ms_y_sub ha ?_
        exact br_t rfl (br_f hp0 ⟨pk_in a 3 ha, pk_lt j (cn a) (fun q => absurd q (by omega)) (fun _ => ⟨rfl, I2⟩) rfl (ms_at (by omega))⟩)
theorem i_vc_record {k : Nat} {u : SX} {v : SY} (I : i_Rel k u v) (hk : k + 4 ≤ 2052) (v1 : Int32) (v2 : Int32) (v3 : Int32) : wpX_record (fun r => wpY_record (fun r' => r' = r ∧ i_Rel (k + 4) u v) v v1 v2 v3) u v1 v2 v3 := by
  have I2 := i_up I
  obtain ⟨B, W, R, sent, disc, st, pe, he, es, cw, rt, una, nxt, high, rn, cn, cs, cd, cl, rd, rl, N, ysf, yss, yds, yle, rfl, rfl, h1, h2, h3, h4, h5, h6⟩ := I
  rcases ms_bd v1 with hb | ⟨a, ha, rfl⟩
  · unfold wpX_record
    refine ms_x_nsb hb ?_
    refine br_t rfl ?_
    unfold wpY_record
    refine ms_y_nsb hb ?_
    exact br_f (by decide) ⟨rfl, I2⟩
  · obtain ⟨c1, c2, c3, c4, _⟩ := h2 a ha
    unfold wpX_record
    refine ms_x_sub ha ?_
    refine br_f (by decide) ?_
    refine ms_x_est ha ?_
    by_cases hes : es a = 1
    · have hes' : es (nI a).toNatClampNeg = 1 := by rw [nI_clamp (by omega)]; exact hes
      have eu : ms_im una (nI a).toNatClampNeg = nI (una a) := ms_at (by omega)
      have eh : ms_im high (nI a).toNatClampNeg = nI (high a) := ms_at (by omega)
      rw [if_pos hes]
      refine br_f (by decide) ⟨pk_in a 3 ha, ?_⟩
      by_cases q1 : v2 < nI (una a)
      · refine br_t (by rw [eu]; exact q1) ?_
        unfold wpY_record
        refine ms_y_sub ha ?_
        exact br_t rfl ⟨pk_in a 3 ha, br_t hes' ⟨pk_in a 3 ha, br_t (by rw [eu]; exact q1) ⟨rfl, I2⟩⟩⟩
      · refine br_f (by rw [eu]; exact q1) ⟨pk_in a 3 ha, ?_⟩
        by_cases q2 : v2 < nI (high a)
        · have hn : ¬ v2 < 0 := fun z => q1 (Int32.lt_of_lt_of_le z (nI_pos' (by omega)))
          obtain ⟨b, hb, rfl⟩ := nI_of hn
          rw [nI_ltI hb (by omega)] at q1 q2
          obtain ⟨j, j1, j2, j3, j4, j5, j6⟩ := ms_k_find h5 ha hes (Nat.not_lt.mp q1) q2
          have hN := h5.1
          have F : ∀ P : Int32 → Prop, P (nI j) → wpY_findRecord P (ms_Y B W R R sent disc st pe he es cw rt una nxt high rn cn cs cd cl N ysf yss yds yle) (nI a) (nI b) := fun P hP => ms_y_find h5.1 j1 j2 j3 j6 (ms_k_b h2 h5 (by omega)) hP
          refine br_t (by rw [eh]; exact nI_lt q2 (by omega)) ?_
          refine ms_x_slot hb ⟨pk_in (a * 8 + b % 8) 24 (by omega), pk_in (a * 8 + b % 8) 24 (by omega), ?_⟩
          rw [ms_at (show a * 8 + b % 8 < 2 ^ 31 by omega), ms_at (show a * 8 + b % 8 < 2 ^ 31 by omega)]
          rcases ms_ix (x := v3) 3 (by decide) with hq | ⟨f, hf, rfl⟩
          · refine ms_x_md hq ?_
            unfold wpY_record
            refine ms_y_sub ha ?_
            refine br_t rfl ⟨pk_in a 3 ha, br_t hes' ⟨pk_in a 3 ha, br_f (by rw [eu]; exact nI_nlt (Nat.not_lt.mp q1) hb) ⟨pk_in a 3 ha, br_t (by rw [eh]; exact nI_lt q2 (by omega)) ?_⟩⟩⟩
            refine F _ ?_
            exact br_t (nI_pos' (by omega)) (br_f (fun z => by rw [z] at hq; exact absurd hq (by decide)) (br_f (fun z => by rw [z] at hq; exact absurd hq (by decide)) (br_f (fun z => by rw [z] at hq; exact absurd hq (by decide)) (⟨rfl, I2⟩))))
          · have hf3 : f = 0 ∨ f = 1 ∨ f = 2 := by omega
            rcases hf3 with rfl | rfl | rfl
            · refine ms_x_m0 ?_
              unfold wpY_record
              refine ms_y_sub ha ?_
              refine br_t rfl ⟨pk_in a 3 ha, br_t hes' ⟨pk_in a 3 ha, br_f (by rw [eu]; exact nI_nlt (Nat.not_lt.mp q1) hb) ⟨pk_in a 3 ha, br_t (by rw [eh]; exact nI_lt q2 (by omega)) ?_⟩⟩⟩
              refine F _ ?_
              exact br_t (nI_pos' (by omega)) (br_t rfl (⟨pk_in j 24 (by omega), by rw [ms_at (by omega), j3], I2⟩))
            · refine ms_x_m1 ?_
              unfold wpY_record
              refine ms_y_sub ha ?_
              refine br_t rfl ⟨pk_in a 3 ha, br_t hes' ⟨pk_in a 3 ha, br_f (by rw [eu]; exact nI_nlt (Nat.not_lt.mp q1) hb) ⟨pk_in a 3 ha, br_t (by rw [eh]; exact nI_lt q2 (by omega)) ?_⟩⟩⟩
              refine F _ ?_
              exact br_t (nI_pos' (by omega)) (br_f (by decide) (br_t rfl (⟨pk_in j 24 (by omega), by rw [ms_at (by omega), j4], I2⟩)))
            · refine ms_x_m2 ?_
              unfold wpY_record
              refine ms_y_sub ha ?_
              refine br_t rfl ⟨pk_in a 3 ha, br_t hes' ⟨pk_in a 3 ha, br_f (by rw [eu]; exact nI_nlt (Nat.not_lt.mp q1) hb) ⟨pk_in a 3 ha, br_t (by rw [eh]; exact nI_lt q2 (by omega)) ?_⟩⟩⟩
              refine F _ ?_
              exact br_t (nI_pos' (by omega)) (br_f (by decide) (br_f (by decide) (br_t rfl (⟨pk_in j 24 (by omega), by rw [ms_at (by omega), j5], I2⟩))))
        · refine br_f (by rw [eh]; exact q2) ?_
          unfold wpY_record
          refine ms_y_sub ha ?_
          exact br_t rfl ⟨pk_in a 3 ha, br_t hes' ⟨pk_in a 3 ha, br_f (by rw [eu]; exact q1) ⟨pk_in a 3 ha, br_f (by rw [eh]; exact q2) ⟨rfl, I2⟩⟩⟩⟩
    · rw [if_neg hes]
      refine br_t rfl ?_
      unfold wpY_record
      refine ms_y_sub ha ?_
      exact br_t rfl ⟨pk_in a 3 ha, br_f (by rw [nI_clamp (by omega)]; exact hes) ⟨rfl, I2⟩⟩
theorem i_vc_conn {k : Nat} {u : SX} {v : SY} (I : i_Rel k u v) (hk : k + 4 ≤ 2052) (v1 : Int32) : wpX_conn (fun r => wpY_conn (fun r' => r' = r ∧ i_Rel (k + 4) u v) v v1) u v1 := by
  have I2 := i_up I
  obtain ⟨B, W, R, sent, disc, st, pe, he, es, cw, rt, una, nxt, high, rn, cn, cs, cd, cl, rd, rl, N, ysf, yss, yds, yle, rfl, rfl, h1, h2, h3, h4, h5, h6⟩ := I
  have hR := h1.1
  have hW := h1.2.1
  rcases ms_ix (x := v1) 9 (by decide) with hq | ⟨j, hj, rfl⟩
  · have Y : wpY_conn (fun r' => r' = -1 ∧ i_Rel (k + 4) (ms_X B W R sent disc st pe he es cw rt una nxt high rn cn cs cd cl rd rl) (ms_Y B W R R sent disc st pe he es cw rt una nxt high rn cn cs cd cl N ysf yss yds yle)) (ms_Y B W R R sent disc st pe he es cw rt una nxt high rn cn cs cd cl N ysf yss yds yle) v1 := br_f (fun z => by rw [z] at hq; exact absurd hq (by decide)) (br_f (fun z => by rw [z] at hq; exact absurd hq (by decide)) (br_f (fun z => by rw [z] at hq; exact absurd hq (by decide)) (br_f (fun z => by rw [z] at hq; exact absurd hq (by decide)) (br_f (fun z => by rw [z] at hq; exact absurd hq (by decide)) (br_f (fun z => by rw [z] at hq; exact absurd hq (by decide)) (br_f (fun z => by rw [z] at hq; exact absurd hq (by decide)) (br_f (fun z => by rw [z] at hq; exact absurd hq (by decide)) (br_f (fun z => by rw [z] at hq; exact absurd hq (by decide)) (⟨rfl, I2⟩)))))))))
    by_cases h : v1 < 0
    · exact br_t h Y
    · rcases hq with hq | hq
      · exact absurd hq h
      · exact br_f h (br_t (Int32.lt_of_lt_of_le (show (8 : Int32) < nI 9 by decide) hq) Y)
  · have hj9 : j = 0 ∨ j = 1 ∨ j = 2 ∨ j = 3 ∨ j = 4 ∨ j = 5 ∨ j = 6 ∨ j = 7 ∨ j = 8 := by omega
    rcases hj9 with rfl | rfl | rfl | rfl | rfl | rfl | rfl | rfl | rfl
    · exact br_f (by decide) (br_f (by decide) (br_t rfl (br_t rfl (⟨rfl, I2⟩))))
    · exact br_f (by decide) (br_f (by decide) (br_f (by decide) (br_t rfl (br_f (by decide) (br_t rfl (⟨rfl, I2⟩))))))
    · exact br_f (by decide) (br_f (by decide) (br_f (by decide) (br_f (by decide) (br_t rfl (br_f (by decide) (br_f (by decide) (br_t rfl (⟨rfl, I2⟩))))))))
    · have hY := ms_y_cp (post := fun r' => r' = nI (ms_cf pe 0 256) ∧ i_Rel (k + 4) (ms_X B W R sent disc st pe he es cw rt una nxt high rn cn cs cd cl rd rl) (ms_Y B W R R sent disc st pe he es cw rt una nxt high rn cn cs cd cl N ysf yss yds yle)) (B := B) (sent := sent) (disc := disc) (st := st) (he := he) (es := es) (cw := cw) (rt := rt) (una := una) (nxt := nxt) (high := high) (rn := rn) (cn := cn) (cs := cs) (cd := cd) (cl := cl) (N := N) (ysf := ysf) (yss := yss) (yds := yds) (yle := yle) hR hW ⟨by rw [ms_cfE hR hW h1.2.2.1], I2⟩ (W - R) 0 (Nat.zero_add _)
      have hY2 : wpY_conn (fun r' => r' = nI (ms_cf pe 0 256) ∧ i_Rel (k + 4) (ms_X B W R sent disc st pe he es cw rt una nxt high rn cn cs cd cl rd rl) (ms_Y B W R R sent disc st pe he es cw rt una nxt high rn cn cs cd cl N ysf yss yds yle)) (ms_Y B W R R sent disc st pe he es cw rt una nxt high rn cn cs cd cl N ysf yss yds yle) (nI 3) := br_f (by decide) (br_f (by decide) (br_f (by decide) (br_t rfl (⟨_, hY⟩))))
      exact br_f (by decide) (br_f (by decide) (br_f (by decide) (br_f (by decide) (br_f (by decide) (br_t rfl (⟨257, ms_x_cp hY2 256 0 rfl⟩))))))
    · have hY2 : wpY_conn (fun r' => r' = nI (ms_cf he 0 256) ∧ i_Rel (k + 4) (ms_X B W R sent disc st pe he es cw rt una nxt high rn cn cs cd cl rd rl) (ms_Y B W R R sent disc st pe he es cw rt una nxt high rn cn cs cd cl N ysf yss yds yle)) (ms_Y B W R R sent disc st pe he es cw rt una nxt high rn cn cs cd cl N ysf yss yds yle) (nI 4) := br_f (by decide) (br_f (by decide) (br_f (by decide) (br_f (by decide) (br_t rfl (⟨257, ms_y_ch ⟨rfl, I2⟩ 256 0 rfl⟩)))))
      exact br_f (by decide) (br_f (by decide) (br_f (by decide) (br_f (by decide) (br_f (by decide) (br_f (by decide) (br_t rfl (⟨257, ms_x_ch hY2 256 0 rfl⟩)))))))
    · exact br_f (by decide) (br_f (by decide) (br_f (by decide) (br_f (by decide) (br_f (by decide) (br_f (by decide) (br_f (by decide) (br_t rfl (br_f (by decide) (br_f (by decide) (br_f (by decide) (br_f (by decide) (br_f (by decide) (br_t rfl (⟨rfl, I2⟩))))))))))))))
    · exact br_f (by decide) (br_f (by decide) (br_f (by decide) (br_f (by decide) (br_f (by decide) (br_f (by decide) (br_f (by decide) (br_f (by decide) (br_t rfl (br_f (by decide) (br_f (by decide) (br_f (by decide) (br_f (by decide) (br_f (by decide) (br_f (by decide) (br_t rfl (⟨rfl, I2⟩))))))))))))))))
    · exact br_f (by decide) (br_f (by decide) (br_f (by decide) (br_f (by decide) (br_f (by decide) (br_f (by decide) (br_f (by decide) (br_f (by decide) (br_f (by decide) (br_t rfl (br_f (by decide) (br_f (by decide) (br_f (by decide) (br_f (by decide) (br_f (by decide) (br_f (by decide) (br_f (by decide) (br_t rfl (⟨rfl, I2⟩))))))))))))))))))
    · have hY2 : wpY_conn (fun r' => r' = nI (ms_cE es 3) ∧ i_Rel (k + 4) (ms_X B W R sent disc st pe he es cw rt una nxt high rn cn cs cd cl rd rl) (ms_Y B W R R sent disc st pe he es cw rt una nxt high rn cn cs cd cl N ysf yss yds yle)) (ms_Y B W R R sent disc st pe he es cw rt una nxt high rn cn cs cd cl N ysf yss yds yle) (nI 8) := br_f (by decide) (br_f (by decide) (br_f (by decide) (br_f (by decide) (br_f (by decide) (br_f (by decide) (br_f (by decide) (br_f (by decide) (br_t rfl (⟨4, ms_y_ce ⟨rfl, I2⟩ 3 0 rfl⟩)))))))))
      exact br_f (by decide) (br_f (by decide) (br_f (by decide) (br_f (by decide) (br_f (by decide) (br_f (by decide) (br_f (by decide) (br_f (by decide) (br_f (by decide) (br_f (by decide) (br_t rfl (⟨4, ms_x_ce hY2 3 0 rfl⟩)))))))))))
theorem i_vc_offset {k : Nat} {u : SX} {v : SY} (I : i_Rel k u v) (hk : k + 4 ≤ 2052) (v1 : Int32) (v2 : Int32) : wpX_offset (fun r => wpY_offset (fun r' => r' = r ∧ i_Rel (k + 4) u v) v v1 v2) u v1 v2 := by
  have I2 := i_up I
  obtain ⟨B, W, R, sent, disc, st, pe, he, es, cw, rt, una, nxt, high, rn, cn, cs, cd, cl, rd, rl, N, ysf, yss, yds, yle, rfl, rfl, h1, h2, h3, h4, h5, h6⟩ := I
  have hR := h1.1
  have hW := h1.2.1
  by_cases hn : v1 < 0
  · exact br_t hn (br_t hn ⟨rfl, I2⟩)
  · obtain ⟨d, hd, rfl⟩ := nI_of hn
    refine br_f hn (pk_lt d 256 (fun hd2 => ?_) (fun hd2 => ?_))
    · have hi : vp_in (nI d) 256 := pk_in d 256 hd2
      rcases ms_ix (x := v2) 4 (by decide) with hq | ⟨j, hj, rfl⟩
      · have Y : wpY_offset (fun r' => r' = -1 ∧ i_Rel (k + 4) (ms_X B W R sent disc st pe he es cw rt una nxt high rn cn cs cd cl rd rl) (ms_Y B W R R sent disc st pe he es cw rt una nxt high rn cn cs cd cl N ysf yss yds yle)) (ms_Y B W R R sent disc st pe he es cw rt una nxt high rn cn cs cd cl N ysf yss yds yle) (nI d) v2 := br_f hn (pk_le d 255 (fun _ => br_f (fun z => by rw [z] at hq; exact absurd hq (by decide)) (br_f (fun z => by rw [z] at hq; exact absurd hq (by decide)) (br_f (fun z => by rw [z] at hq; exact absurd hq (by decide)) (br_f (fun z => by rw [z] at hq; exact absurd hq (by decide)) (⟨rfl, I2⟩))))) (fun z => absurd z (by omega)))
        by_cases h : v2 < 0
        · exact br_t h Y
        · rcases hq with hq | hq
          · exact absurd hq h
          · exact br_f h (br_t (Int32.lt_of_lt_of_le (show (3 : Int32) < nI 4 by decide) hq) Y)
      · have hj4 : j = 0 ∨ j = 1 ∨ j = 2 ∨ j = 3 := by omega
        rcases hj4 with rfl | rfl | rfl | rfl
        · refine br_f (by decide) (br_f (by decide) (br_t rfl (pk_le W d (fun z => ?_) (fun z => ⟨hi, ?_⟩))))
          · exact br_f hn (pk_le d 255 (fun _ => br_t rfl (pk_lt d W (fun q => absurd q (by omega)) (fun _ => ⟨rfl, I2⟩))) (fun z => absurd z (by omega)))
          · exact br_f hn (pk_le d 255 (fun _ => br_t rfl (pk_lt d W (fun _ => ⟨hi, rfl, I2⟩) (fun q => absurd q (by omega)))) (fun z => absurd z (by omega)))
        · refine br_f (by decide) (br_f (by decide) (br_f (by decide) (br_t rfl (pk_le R d (fun z => ?_) (fun z => ⟨hi, ?_⟩)))))
          · exact br_f hn (pk_le d 255 (fun _ => br_f (by decide) (br_t rfl (pk_lt d R (fun q => absurd q (by omega)) (fun _ => ⟨rfl, I2⟩)))) (fun z => absurd z (by omega)))
          · exact br_f hn (pk_le d 255 (fun _ => br_f (by decide) (br_t rfl (pk_lt d R (fun _ => ⟨hi, rfl, I2⟩) (fun q => absurd q (by omega))))) (fun z => absurd z (by omega)))
        · by_cases c : pe d = 0
          · have cc : pe (nI d).toNatClampNeg = 0 := by rw [nI_clamp hd]; exact c
            refine br_f (by decide) (br_f (by decide) (br_f (by decide) (br_f (by decide) (br_t rfl (⟨hi, br_t cc ?_⟩)))))
            exact br_f hn (pk_le d 255 (fun _ => br_f (by decide) (br_f (by decide) (br_t rfl (pk_lt d R (fun _ => ⟨rfl, I2⟩) (fun _ => pk_le W d (fun _ => ⟨rfl, I2⟩) (fun _ => ⟨hi, br_t cc ⟨rfl, I2⟩⟩)))))) (fun z => absurd z (by omega)))
          · have cc : ¬ pe (nI d).toNatClampNeg = 0 := by rw [nI_clamp hd]; exact c
            have hr := h1.2.2.1 d c
            refine br_f (by decide) (br_f (by decide) (br_f (by decide) (br_f (by decide) (br_t rfl (⟨hi, br_f cc ?_⟩)))))
            exact br_f hn (pk_le d 255 (fun _ => br_f (by decide) (br_f (by decide) (br_t rfl (pk_lt d R (fun q => absurd q (by omega)) (fun _ => pk_le W d (fun q => absurd q (by omega)) (fun _ => ⟨hi, br_f cc ⟨rfl, I2⟩⟩)))))) (fun z => absurd z (by omega)))
        · by_cases c : he (nI d).toNatClampNeg = 0
          · refine br_f (by decide) (br_f (by decide) (br_f (by decide) (br_f (by decide) (br_f (by decide) (br_t rfl (⟨hi, br_t c ?_⟩))))))
            exact br_f hn (pk_le d 255 (fun _ => br_f (by decide) (br_f (by decide) (br_f (by decide) (br_t rfl (⟨hi, br_t c ⟨rfl, I2⟩⟩))))) (fun z => absurd z (by omega)))
          · refine br_f (by decide) (br_f (by decide) (br_f (by decide) (br_f (by decide) (br_f (by decide) (br_t rfl (⟨hi, br_f c ?_⟩))))))
            exact br_f hn (pk_le d 255 (fun _ => br_f (by decide) (br_f (by decide) (br_f (by decide) (br_t rfl (⟨hi, br_f c ⟨rfl, I2⟩⟩))))) (fun z => absurd z (by omega)))
    · exact br_f hn (pk_le d 255 (fun z => absurd z (by omega)) (fun _ => ⟨rfl, I2⟩))
end
section
theorem ms_cpw (P : Int32 → Prop) (x lo hi : Int32) (h : P (ms_cp x lo hi)) : (lo ≤ x → ((x ≤ hi → P x) ∧ (¬ x ≤ hi → P hi))) ∧ (¬ lo ≤ x → P lo) := by
  unfold ms_cp at h
  by_cases c : x < lo
  · rw [if_pos c] at h
    exact br_f (fun z => (Int32.not_le.mpr c) z) h
  · rw [if_neg c] at h
    refine br_t (Int32.not_lt.mp c) ?_
    by_cases c2 : hi < x
    · rw [if_pos c2] at h
      exact br_f (fun z => (Int32.not_le.mpr c2) z) h
    · rw [if_neg c2] at h
      exact br_t (Int32.not_lt.mp c2) h
theorem ms_x_clp {post : Int32 → Prop} {x lo hi : Int32} (hp : post (ms_cp x lo hi)) : wpX_clamp post x lo hi := ms_cpw post x lo hi hp
def ms_e : Nat → Nat → Int32
  | 0 => ms_im (fun _ => 0)
  | i + 1 => upd (ms_e i) i 1
def ms_c : Nat → Nat → Nat
  | 0 => fun _ => 0
  | i + 1 => ms_un (ms_c i) i 512
section
variable {f0 f1 f2 f3 f4 f5 f6 : Int32} {g0 g1 g2 g3 g4 g5 g6 g7 g8 g9 g10 g11 g12 g13 g14 g15 g16 g17 : Nat → Int32}
theorem ms_x_in {post : SX → Prop} (hp : post (f0, f1, f2, f3, f4, g0, g1, g2, ms_e 3, ms_im (ms_c 3), g5, g6, g7, g8, g9, g10, g11, g12, g13, g14, g15)) : ∀ k i, i + k = 3 → wX_init_199 post f0 f1 f2 f3 f4 (k + 1) (nI i) g0 g1 g2 (ms_e i) (ms_im (ms_c i)) g5 g6 g7 g8 g9 g10 g11 g12 g13 g14 g15 := by
  intro k
  induction k with
  | zero =>
    intro i hi
    have e : i = 3 := by omega
    subst e
    exact pk_le 3 3 (fun _ => hp) (fun z => absurd z (by omega))
  | succ k ih =>
    intro i hi
    have g := ih (i + 1) (by omega)
    exact pk_le 3 i (fun z => absurd z (by omega)) (fun _ => ⟨pk_in i 3 (by omega), nm_r (e' := ms_e (i + 1)) (ms_cu (by omega)) ⟨pk_in i 3 (by omega), nm_r (e' := ms_im (ms_c (i + 1))) (ms_up (v := 512) (by omega)) (nm_r (nI_1 i) g)⟩⟩)
theorem ms_y_in {post : SY → Prop} (hp : post (f0, f1, f2, f3, f4, f5, f6, g0, ms_e 3, ms_im (ms_c 3), g3, g4, g5, g6, g7, g8, g9, g10, g11, g12, g13, g14, g15, g16, g17)) : ∀ k i, i + k = 3 → wY_init_251 post f0 f1 f2 f3 f4 f5 f6 (k + 1) (nI i) g0 (ms_e i) (ms_im (ms_c i)) g3 g4 g5 g6 g7 g8 g9 g10 g11 g12 g13 g14 g15 g16 g17 := by
  intro k
  induction k with
  | zero =>
    intro i hi
    have e : i = 3 := by omega
    subst e
    exact pk_le 3 3 (fun _ => hp) (fun z => absurd z (by omega))
  | succ k ih =>
    intro i hi
    have g := ih (i + 1) (by omega)
    exact pk_le 3 i (fun z => absurd z (by omega)) (fun _ => ⟨pk_in i 3 (by omega), nm_r (e' := ms_e (i + 1)) (ms_cu (by omega)) ⟨pk_in i 3 (by omega), nm_r (e' := ms_im (ms_c (i + 1))) (ms_up (v := 512) (by omega)) (nm_r (nI_1 i) g)⟩⟩)
theorem ms_y_219 {post : SY → Prop} {x : Int32} {r1 r2 : Nat} {rt : Nat → Nat} (e : ms_cp x 1 4 = nI r2) (H : ∃ n, wY_init_251 post f0 f1 f2 f3 f4 f5 f6 n 0 (ms_im (ms_un (ms_un rt 1 r1) 2 r2)) g1 g2 g3 g4 g5 g6 g7 g8 g9 g10 g11 g12 g13 g14 g15 g16 g17) : wY_init_219 post x (nI r1) 1 f0 f1 f2 f3 f4 f5 f6 (ms_im rt) g1 g2 g3 g4 g5 g6 g7 g8 g9 g10 g11 g12 g13 g14 g15 g16 g17 := by
  refine ⟨pk_in 1 3 (by decide), nm_r (e' := ms_im (ms_un rt 1 r1)) (ms_up (k := 1) (by decide)) ?_⟩
  refine ms_cpw (fun z => ∀ y, y = upd (ms_im (ms_un rt 1 r1)) 2 z → ∃ n, wY_init_251 post f0 f1 f2 f3 f4 f5 f6 n 0 y g1 g2 g3 g4 g5 g6 g7 g8 g9 g10 g11 g12 g13 g14 g15 g16 g17) x 1 4 ?_
  rw [e]
  exact nm_r (ms_imu _ _ _) H
theorem ms_y_194 {post : SY → Prop} {x3 x4 : Int32} {r0 r1 r2 : Nat} {rt : Nat → Nat} (e3 : ms_cp x3 1 4 = nI r1) (e4 : ms_cp x4 1 4 = nI r2) (H : ∃ n, wY_init_251 post f0 f1 f2 f3 f4 f5 f6 n 0 (ms_im (ms_un (ms_un (ms_un rt 0 r0) 1 r1) 2 r2)) g1 g2 g3 g4 g5 g6 g7 g8 g9 g10 g11 g12 g13 g14 g15 g16 g17) : wY_init_194 post x3 x4 (nI r0) 0 f0 f1 f2 f3 f4 f5 f6 (ms_im rt) g1 g2 g3 g4 g5 g6 g7 g8 g9 g10 g11 g12 g13 g14 g15 g16 g17 := by
  refine ⟨pk_in 0 3 (by decide), nm_r (e' := ms_im (ms_un rt 0 r0)) (ms_up (k := 0) (by decide)) ?_⟩
  refine ms_cpw (fun z => wY_init_219 post x4 z 1 f0 f1 f2 f3 f4 f5 f6 (ms_im (ms_un rt 0 r0)) g1 g2 g3 g4 g5 g6 g7 g8 g9 g10 g11 g12 g13 g14 g15 g16 g17) x3 1 4 ?_
  rw [e3]
  exact ms_y_219 e4 H
theorem ms_y_167 {post : SY → Prop} {x2 x3 x4 : Int32} {r0 r1 r2 : Nat} {rt : Nat → Nat} (e2 : ms_cp x2 1 4 = nI r0) (e3 : ms_cp x3 1 4 = nI r1) (e4 : ms_cp x4 1 4 = nI r2) (H : ∃ n, wY_init_251 post f0 f1 f2 f3 f4 f5 f6 n 0 (ms_im (ms_un (ms_un (ms_un rt 0 r0) 1 r1) 2 r2)) g1 g2 g3 g4 g5 g6 g7 g8 g9 g10 g11 g12 g13 g14 g15 g16 g17) : wY_init_167 post x2 x3 x4 f0 0 f1 f2 f3 f4 f5 f6 (ms_im rt) g1 g2 g3 g4 g5 g6 g7 g8 g9 g10 g11 g12 g13 g14 g15 g16 g17 := by
  refine ms_cpw (fun z => wY_init_194 post x3 x4 z 0 f0 f1 f2 f3 f4 f5 f6 (ms_im rt) g1 g2 g3 g4 g5 g6 g7 g8 g9 g10 g11 g12 g13 g14 g15 g16 g17) x2 1 4 ?_
  rw [e2]
  exact ms_y_194 e3 e4 H
end
theorem ms_z0 (d : Nat) : ms_im (fun _ => 0) d = 0 := nI_0
theorem ms_Y0 {r0 r1 r2 : Nat} {b : Int32} (a0 : 1 ≤ r0 ∧ r0 ≤ 4) (a1 : 1 ≤ r1 ∧ r1 ≤ 4) (a2 : 1 ≤ r2 ∧ r2 ≤ 4) :
    ms_R 24 0 (ms_X b 0 0 0 0 (ms_im (fun _ => 0)) (ms_im (fun _ => 0)) (ms_im (fun _ => 0)) (ms_e 3) (ms_c 3) (ms_un (ms_un (ms_un (fun _ => 0) 0 r0) 1 r1) 2 r2) (fun _ => 0) (fun _ => 0) (fun _ => 0) (ms_im (fun _ => 0)) (fun _ => 0) (fun _ => 0) (fun _ => 0) (fun _ => 0) (fun _ => 0) (fun _ => 0))
      (ms_Y b 0 0 0 0 0 (ms_im (fun _ => 0)) (ms_im (fun _ => 0)) (ms_im (fun _ => 0)) (ms_e 3) (ms_c 3) (ms_un (ms_un (ms_un (fun _ => 0) 0 r0) 1 r1) 2 r2) (fun _ => 0) (fun _ => 0) (fun _ => 0) (ms_im (fun _ => 0)) (fun _ => 0) (fun _ => 0) (fun _ => 0) (fun _ => 0) 0 (fun _ => 0) (fun _ => 0) (fun _ => 0) (fun _ => 0)) := by
  refine ms_mk ⟨Nat.le_refl 0, by omega, fun d hd => absurd (ms_z0 d) hd, fun d hd => absurd (ms_z0 d) hd⟩ ?_ ?_ ?_ ?_ (Nat.zero_le _)
  · intro i hi
    exact ⟨Nat.le_refl 0, Nat.le_refl 0, Nat.zero_le _, Nat.zero_le 24, fun _ => rfl⟩
  · intro i hi
    have h3 : i = 0 ∨ i = 1 ∨ i = 2 := by omega
    rcases h3 with rfl | rfl | rfl
    · exact ⟨by decide, by decide, a0⟩
    · exact ⟨by decide, by decide, a1⟩
    · exact ⟨by decide, by decide, a2⟩
  · intro i hi
    exact ⟨Nat.zero_le 8, fun j hj => absurd hj (Nat.not_lt_zero j)⟩
  · refine ⟨by omega, fun i j hi => absurd hi (Nat.not_lt_zero i), ?_, ?_⟩
    · rintro a b c d ⟨j, hj, _⟩
      exact absurd hj (Nat.not_lt_zero j)
    · intro a b _ _ _ hb
      exact absurd hb (Nat.not_lt_zero b)
end
section
theorem i_vc0 (k0 : Int32) (k1 : Int32) (k2 : Int32) (k3 : Int32) : wpX_init (fun u => wpY_init (fun v => i_Rel 4 u v) k0 k1 k2 k3) k0 k1 k2 k3 := by
  obtain ⟨r0, p0, q0, e0⟩ := ms_cpr k1
  obtain ⟨r1, p1, q1, e1⟩ := ms_cpr k2
  obtain ⟨r2, p2, q2, e2⟩ := ms_cpr k3
  have R0 := ms_Y0 (b := ms_cp k0 8 32) ⟨p0, q0⟩ ⟨p1, q1⟩ ⟨p2, q2⟩
  unfold wpX_init
  refine ms_x_clp ?_
  refine ms_x_clp ?_
  rw [e0]
  refine nm_r (e' := ms_im (ms_un (fun _ => 0) 0 r0)) (ms_imu (fun _ => 0) 0 r0) ?_
  refine ms_x_clp ?_
  rw [e1]
  refine nm_r (ms_imu _ _ _) ?_
  refine ms_x_clp ?_
  rw [e2]
  refine nm_r (ms_imu _ _ _) ⟨4, ms_x_in ?_ 3 0 rfl⟩
  unfold wpY_init
  refine ms_cpw (fun z => wY_init_167 _ k1 k2 k3 z 0 0 0 0 0 0 0 (ms_im (fun _ => 0)) (ms_im (fun _ => 0)) (ms_im (fun _ => 0)) (ms_im (fun _ => 0)) (ms_im (fun _ => 0)) (ms_im (fun _ => 0)) (ms_im (fun _ => 0)) (ms_im (fun _ => 0)) (ms_im (fun _ => 0)) (ms_im (fun _ => 0)) (ms_im (fun _ => 0)) (ms_im (fun _ => 0)) (ms_im (fun _ => 0)) (ms_im (fun _ => 0)) (ms_im (fun _ => 0)) (ms_im (fun _ => 0)) (ms_im (fun _ => 0)) (ms_im (fun _ => 0))) k0 8 32 ?_
  exact ms_y_167 e0 e1 e2 ⟨4, ms_y_in R0 3 0 rfl⟩
end
