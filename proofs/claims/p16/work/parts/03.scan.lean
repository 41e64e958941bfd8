/-- how far flags stand from d on, at most m -/
theorem ms_run (p : Nat → Int32) (d : Nat) : ∀ m, ∃ l, l ≤ m ∧ (∀ j, j < l → ¬ p (d + j) = 0) ∧ (l = m ∨ p (d + l) = 0) := by
  intro m
  induction m with
  | zero => exact ⟨0, Nat.le_refl 0, fun j hj => absurd hj (Nat.not_lt_zero j), Or.inl rfl⟩
  | succ m ih =>
    obtain ⟨l, h1, h2, h3⟩ := ih
    rcases h3 with h3 | h3
    · subst h3
      by_cases c : p (d + l) = 0
      · exact ⟨l, by omega, h2, Or.inr c⟩
      · refine ⟨l + 1, by omega, fun j hj => ?_, Or.inl rfl⟩
        by_cases e : j = l
        · subst e; exact c
        · exact h2 j (by omega)
    · exact ⟨l, by omega, h2, Or.inr h3⟩
/-- the least flag from R on, or R + m -/
theorem ms_lst (p : Nat → Int32) (R : Nat) : ∀ m, ∃ e, R ≤ e ∧ e ≤ R + m ∧ (∀ j, R ≤ j → j < e → p j = 0) ∧ (e < R + m → ¬ p e = 0) := by
  intro m
  induction m with
  | zero => exact ⟨R, Nat.le_refl R, Nat.le_refl _, fun j h1 h2 => absurd h2 (by omega), fun h => absurd h (by omega)⟩
  | succ m ih =>
    obtain ⟨e, h1, h2, h3, h4⟩ := ih
    by_cases c : e < R + m
    · exact ⟨e, h1, by omega, h3, fun _ => h4 c⟩
    · have ee : e = R + m := by omega
      subst ee
      by_cases z : p (R + m) = 0
      · refine ⟨R + (m + 1), by omega, Nat.le_refl _, fun j g1 g2 => ?_, fun h => absurd h (by omega)⟩
        by_cases ej : j = R + m
        · subst ej; exact z
        · exact h3 j g1 (by omega)
      · exact ⟨R + m, h1, by omega, h3, fun _ => z⟩
/-- e is the least pending offset, or W -/
def ms_lp (p : Nat → Int32) (R W e : Nat) : Prop := R ≤ e ∧ e ≤ W ∧ (∀ j, R ≤ j → j < e → p j = 0) ∧ (e < W → ¬ p e = 0)
theorem ms_lpE (p : Nat → Int32) {R W : Nat} (h : R ≤ W) : ∃ e, ms_lp p R W e := by
  obtain ⟨e, h1, h2, h3, h4⟩ := ms_lst p R (W - R)
  have hh : R + (W - R) = W := by omega
  rw [hh] at h2 h4
  exact ⟨e, h1, h2, h3, h4⟩
theorem ms_lpU {p : Nat → Int32} {R W e f : Nat} (h : ms_lp p R W e) (g : ms_lp p R W f) : e = f := by
  obtain ⟨h1, h2, h3, h4⟩ := h
  obtain ⟨g1, g2, g3, g4⟩ := g
  by_cases c : e < f
  · exact absurd (g3 e h1 c) (h4 (by omega))
  · by_cases c2 : f < e
    · exact absurd (h3 f g1 c2) (g4 (by omega))
    · omega
/-- l is the length of the run of flags at d, at most four, below W -/
def ms_ln (p : Nat → Int32) (W d l : Nat) : Prop := l ≤ 4 ∧ d + l ≤ W ∧ (∀ j, j < l → ¬ p (d + j) = 0) ∧ (l = 4 ∨ d + l = W ∨ p (d + l) = 0)
theorem ms_lnE (p : Nat → Int32) {W d : Nat} (h : d ≤ W) : ∃ l, ms_ln p W d l := by
  obtain ⟨l, h1, h2, h3⟩ := ms_run p d (min 4 (W - d))
  refine ⟨l, by omega, by omega, h2, ?_⟩
  rcases h3 with h3 | h3
  · by_cases c : 4 ≤ W - d
    · left; omega
    · right; left; omega
  · exact Or.inr (Or.inr h3)
theorem ms_ln1 {p : Nat → Int32} {W d l : Nat} (h : ms_ln p W d l) (hd : d < W) (hp : ¬ p d = 0) : 1 ≤ l := by
  obtain ⟨h1, h2, h3, h4⟩ := h
  by_cases c : l = 0
  · subst c
    rcases h4 with h4 | h4 | h4
    · omega
    · omega
    · exact absurd h4 hp
  · omega
/-- m offsets come next -/
def ms_px (p : Nat → Int32) (R m : Nat) : Prop := R + m ≤ 256 ∧ (∀ j, j < m → ¬ p (R + j) = 0) ∧ (R + m = 256 ∨ p (R + m) = 0)
theorem ms_pxE (p : Nat → Int32) {R : Nat} (h : R ≤ 256) : ∃ m, ms_px p R m := by
  obtain ⟨l, h1, h2, h3⟩ := ms_run p R (256 - R)
  refine ⟨l, by omega, h2, ?_⟩
  rcases h3 with h3 | h3
  · left; omega
  · exact Or.inr h3
theorem ms_pxW {p : Nat → Int32} {R W m : Nat} (h : ms_px p R m) (hW : ∀ d, ¬ p d = 0 → d < W) (hR : R ≤ W) : R + m ≤ W := by
  obtain ⟨_, h2, _⟩ := h
  by_cases c : m = 0
  · omega
  · have := hW _ (h2 (m - 1) (by omega))
    omega
/-- what hold does with j offsets from d on -/
def ms_hd (R : Nat) (B : Int32) (d : Nat) (q : Int32) (p : Nat → Int32) : Nat → Int32 × (Nat → Int32)
  | 0 => (q, p)
  | j + 1 => if nI (d + j) < nI R ∨ nI R + B ≤ nI (d + j) ∨ ¬ (ms_hd R B d q p j).2 (d + j) = 0 then ((ms_hd R B d q p j).1 + 1, (ms_hd R B d q p j).2) else ((ms_hd R B d q p j).1, upd (ms_hd R B d q p j).2 (d + j) 1)
theorem ms_hd1 {R : Nat} {B : Int32} {d : Nat} {q : Int32} {p : Nat → Int32} {j : Nat} (h : nI (d + j) < nI R ∨ nI R + B ≤ nI (d + j) ∨ ¬ (ms_hd R B d q p j).2 (d + j) = 0) : ms_hd R B d q p (j + 1) = ((ms_hd R B d q p j).1 + 1, (ms_hd R B d q p j).2) := if_pos h
theorem ms_hd2 {R : Nat} {B : Int32} {d : Nat} {q : Int32} {p : Nat → Int32} {j : Nat} (h : ¬ (nI (d + j) < nI R ∨ nI R + B ≤ nI (d + j) ∨ ¬ (ms_hd R B d q p j).2 (d + j) = 0)) : ms_hd R B d q p (j + 1) = ((ms_hd R B d q p j).1, upd (ms_hd R B d q p j).2 (d + j) 1) := if_neg h
theorem ms_hdW {R : Nat} {B : Int32} {d : Nat} {q : Int32} {p : Nat → Int32} {W : Nat} (hp : ∀ i, ¬ p i = 0 → i < W) : ∀ j, d + j ≤ W → ∀ i, ¬ (ms_hd R B d q p j).2 i = 0 → i < W := by
  intro j
  induction j with
  | zero => intro _; exact hp
  | succ j ih =>
    intro hj i
    have h := ih (by omega) i
    by_cases c : nI (d + j) < nI R ∨ nI R + B ≤ nI (d + j) ∨ ¬ (ms_hd R B d q p j).2 (d + j) = 0
    · rw [ms_hd1 c]
      exact h
    · rw [ms_hd2 c]
      by_cases e : i = d + j
      · intro _; omega
      · show ¬ upd (ms_hd R B d q p j).2 (d + j) 1 i = 0 → i < W
        rw [pk_un e]
        exact h
/-- what reinjection does with a record's offsets -/
def ms_ri (p : Nat → Int32) (R d l : Nat) : Nat → Int32 := fun j => if R ≤ j ∧ d ≤ j ∧ j < d + l then 1 else p j
theorem ms_ri0 (p : Nat → Int32) (R d : Nat) : ms_ri p R d 0 = p := by
  funext j
  unfold ms_ri
  rw [if_neg (by omega)]
theorem ms_riS (p : Nat → Int32) {R d l : Nat} (h : R ≤ d + l) : upd (ms_ri p R d l) (d + l) 1 = ms_ri p R d (l + 1) := by
  funext j
  by_cases e : j = d + l
  · subst e
    rw [pk_us]
    unfold ms_ri
    rw [if_pos (by omega)]
  · rw [pk_un e]
    unfold ms_ri
    by_cases c : R ≤ j ∧ d ≤ j ∧ j < d + l
    · rw [if_pos c, if_pos (by omega)]
    · rw [if_neg c, if_neg (by omega)]
theorem ms_riK (p : Nat → Int32) {R d l : Nat} (h : d + l < R) : ms_ri p R d l = ms_ri p R d (l + 1) := by
  funext j
  unfold ms_ri
  by_cases c : R ≤ j ∧ d ≤ j ∧ j < d + l
  · rw [if_pos c, if_pos (by omega)]
  · rw [if_neg c, if_neg (by omega)]
/-- p' is p with ones at S -/
def ms_pt (S : Nat → Prop) (p p' : Nat → Int32) : Prop := ∀ d, (S d → p' d = 1) ∧ (¬ S d → p' d = p d)
theorem ms_ptU {S T : Nat → Prop} {p p' p'' : Nat → Int32} (hS : ∀ d, S d ↔ T d) (h : ms_pt S p p') (g : ms_pt T p p'') : p' = p'' := by
  funext d
  by_cases c : S d
  · rw [(h d).1 c, (g d).1 ((hS d).mp c)]
  · rw [(h d).2 c, (g d).2 (fun t => c ((hS d).mpr t))]
theorem ms_pt0 (p : Nat → Int32) : ms_pt (fun _ => False) p p := fun _ => ⟨fun h => h.elim, fun _ => rfl⟩
theorem ms_ptS {S T : Nat → Prop} {p p' : Nat → Int32} (hS : ∀ d, S d ↔ T d) (h : ms_pt S p p') : ms_pt T p p' :=
  fun d => ⟨fun t => (h d).1 ((hS d).mpr t), fun t => (h d).2 (fun s => t ((hS d).mp s))⟩
theorem ms_ptR {S : Nat → Prop} {p p' : Nat → Int32} {R d l : Nat} (h : ms_pt S p p') : ms_pt (fun j => S j ∨ (R ≤ j ∧ d ≤ j ∧ j < d + l)) p (ms_ri p' R d l) := by
  intro j
  unfold ms_ri
  refine ⟨fun t => ?_, fun t => ?_⟩
  · by_cases c : R ≤ j ∧ d ≤ j ∧ j < d + l
    · rw [if_pos c]
    · rw [if_neg c]
      rcases t with t | t
      · exact (h j).1 t
      · exact absurd t c
  · rw [if_neg (fun c => t (Or.inr c))]
    exact (h j).2 (fun s => t (Or.inl s))
/-- flags counted from s on -/
def ms_cf (p : Nat → Int32) (s : Nat) : Nat → Nat
  | 0 => 0
  | l + 1 => if p (s + l) = 0 then ms_cf p s l else ms_cf p s l + 1
theorem ms_cfb (p : Nat → Int32) (s : Nat) : ∀ l, ms_cf p s l ≤ l := by
  intro l
  induction l with
  | zero => exact Nat.le_refl 0
  | succ l ih => unfold ms_cf; split <;> omega
theorem ms_cfa (p : Nat → Int32) (s a : Nat) : ∀ b, ms_cf p s (a + b) = ms_cf p s a + ms_cf p (s + a) b := by
  intro b
  induction b with
  | zero => rfl
  | succ b ih =>
    show ms_cf p s (a + b + 1) = _
    rw [ms_cf, ms_cf, ih, Nat.add_assoc s a b]
    split
    · rfl
    · omega
theorem ms_cf0 {p : Nat → Int32} {s : Nat} : ∀ l, (∀ j, s ≤ j → j < s + l → p j = 0) → ms_cf p s l = 0 := by
  intro l
  induction l with
  | zero => intro _; rfl
  | succ l ih =>
    intro h
    rw [ms_cf, if_pos (h (s + l) (by omega) (by omega))]
    exact ih (fun j h1 h2 => h j h1 (by omega))
theorem ms_cfE {p : Nat → Int32} {R W : Nat} (hR : R ≤ W) (hW : W ≤ 256) (h : ∀ d, ¬ p d = 0 → R ≤ d ∧ d < W) : ms_cf p 0 256 = ms_cf p R (W - R) := by
  have hz : ∀ j, ¬ (R ≤ j ∧ j < W) → p j = 0 := by
    intro j hj
    by_cases c : p j = 0
    · exact c
    · exact absurd (h j c) hj
  have e1 : 256 = R + ((W - R) + (256 - W)) := by omega
  have e2 : ms_cf p 0 256 = ms_cf p 0 (R + ((W - R) + (256 - W))) := congrArg (ms_cf p 0) e1
  rw [e2, ms_cfa, ms_cfa, ms_cf0 R (fun j _ h2 => hz j (by omega)), ms_cf0 (256 - W) (fun j h1 _ => hz j (by omega))]
  rw [Nat.zero_add, Nat.zero_add, Nat.add_zero]
/-- windows -/
def ms_wi (c : Nat) : Nat := if 8 < c / 256 then 8 else c / 256
theorem ms_wib (c : Nat) : ms_wi c ≤ 8 := by unfold ms_wi; split <;> omega
/-- what send refuses: 0 is accepted -/
def ms_rf (es : Nat → Int32) (cw una nxt high cn : Nat → Nat) (e W a : Nat) : Int32 :=
  if ¬ es a = 1 then -2 else if ms_wi (cw a) ≤ nxt a - una a then -3 else if cn a = 8 then -4 else if nxt a = high a ∧ e = W then -5 else 0
theorem ms_rf0 {es : Nat → Int32} {cw una nxt high cn : Nat → Nat} {e W a : Nat} (h : ms_rf es cw una nxt high cn e W a = 0) : es a = 1 ∧ nxt a - una a < ms_wi (cw a) ∧ ¬ cn a = 8 ∧ (nxt a = high a → ¬ e = W) := by
  unfold ms_rf at h
  by_cases c1 : es a = 1
  · rw [if_neg (fun z => z c1)] at h
    by_cases c2 : ms_wi (cw a) ≤ nxt a - una a
    · rw [if_pos c2] at h; exact absurd h (by decide)
    · rw [if_neg c2] at h
      by_cases c3 : cn a = 8
      · rw [if_pos c3] at h; exact absurd h (by decide)
      · rw [if_neg c3] at h
        by_cases c4 : nxt a = high a ∧ e = W
        · rw [if_pos c4] at h; exact absurd h (by decide)
        · exact ⟨c1, by omega, c3, fun q r => c4 ⟨q, r⟩⟩
  · rw [if_pos c1] at h; exact absurd h (by decide)
theorem ms_rfA {es : Nat → Int32} {cw una nxt high cn : Nat → Nat} {e W a : Nat} (c1 : ¬ es a = 1) : ms_rf es cw una nxt high cn e W a = -2 := if_pos c1
theorem ms_rfB {es : Nat → Int32} {cw una nxt high cn : Nat → Nat} {e W a : Nat} (c1 : es a = 1) (c2 : ms_wi (cw a) ≤ nxt a - una a) : ms_rf es cw una nxt high cn e W a = -3 := (if_neg (fun z => z c1)).trans (if_pos c2)
theorem ms_rfC {es : Nat → Int32} {cw una nxt high cn : Nat → Nat} {e W a : Nat} (c1 : es a = 1) (c2 : ¬ ms_wi (cw a) ≤ nxt a - una a) (c3 : cn a = 8) : ms_rf es cw una nxt high cn e W a = -4 := (if_neg (fun z => z c1)).trans ((if_neg c2).trans (if_pos c3))
theorem ms_rfD {es : Nat → Int32} {cw una nxt high cn : Nat → Nat} {e W a : Nat} (c1 : es a = 1) (c2 : ¬ ms_wi (cw a) ≤ nxt a - una a) (c3 : ¬ cn a = 8) (c4 : nxt a = high a ∧ e = W) : ms_rf es cw una nxt high cn e W a = -5 := (if_neg (fun z => z c1)).trans ((if_neg c2).trans ((if_neg c3).trans (if_pos c4)))
theorem ms_rfE {es : Nat → Int32} {cw una nxt high cn : Nat → Nat} {e W a : Nat} (c1 : es a = 1) (c2 : ¬ ms_wi (cw a) ≤ nxt a - una a) (c3 : ¬ cn a = 8) (c4 : ¬ (nxt a = high a ∧ e = W)) : ms_rf es cw una nxt high cn e W a = 0 := (if_neg (fun z => z c1)).trans ((if_neg c2).trans ((if_neg c3).trans (if_neg c4)))
/-- places taken -/
def ms_sm (una nxt : Nat → Nat) : Nat := (nxt 0 - una 0) + (nxt 1 - una 1) + (nxt 2 - una 2)
theorem ms_smS {una nxt : Nat → Nat} {a : Nat} (ha : a < 3) (h : una a ≤ nxt a) : ms_sm una (ms_un nxt a (nxt a + 1)) = ms_sm una nxt + 1 := by
  have h3 : a = 0 ∨ a = 1 ∨ a = 2 := by omega
  rcases h3 with rfl | rfl | rfl
  · unfold ms_sm
    rw [ms_us, ms_uo (by decide), ms_uo (by decide)]
    omega
  · unfold ms_sm
    rw [ms_us, ms_uo (by decide), ms_uo (by decide)]
    omega
  · unfold ms_sm
    rw [ms_us, ms_uo (by decide), ms_uo (by decide)]
    omega
theorem ms_smF {es : Nat → Int32} {cw una nxt high cn : Nat → Nat} {e W : Nat} (hc : ∀ i, i < 3 → una i ≤ nxt i ∧ nxt i ≤ una i + 8) (h : 24 ≤ ms_sm una nxt) : ∀ i, i < 3 → ¬ ms_rf es cw una nxt high cn e W i = 0 := by
  intro i hi hr
  obtain ⟨_, h2, _, _⟩ := ms_rf0 hr
  have h8 := ms_wib (cw i)
  have g0 := hc 0 (by omega)
  have g1 := hc 1 (by omega)
  have g2 := hc 2 (by omega)
  unfold ms_sm at h
  have h3 : i = 0 ∨ i = 1 ∨ i = 2 := by omega
  rcases h3 with rfl | rfl | rfl <;> omega
/-- the fastest of those that are accepted among the first i; 3: none -/
def ms_bs (f : Nat → Int32) (rt : Nat → Nat) : Nat → Nat
  | 0 => 3
  | i + 1 => if f i = 0 ∧ (ms_bs f rt i = 3 ∨ rt i < rt (ms_bs f rt i)) then i else ms_bs f rt i
theorem ms_bsb {f : Nat → Int32} {rt : Nat → Nat} : ∀ i, ms_bs f rt i = 3 ∨ (ms_bs f rt i < i ∧ f (ms_bs f rt i) = 0) := by
  intro i
  induction i with
  | zero => exact Or.inl rfl
  | succ i ih =>
    unfold ms_bs
    split
    · rename_i h
      exact Or.inr ⟨by omega, h.1⟩
    · rcases ih with ih | ih
      · exact Or.inl ih
      · exact Or.inr ⟨by omega, ih.2⟩
theorem ms_bsn {f : Nat → Int32} {rt : Nat → Nat} (h : ∀ i, i < 3 → ¬ f i = 0) : ∀ i, i ≤ 3 → ms_bs f rt i = 3 := by
  intro i
  induction i with
  | zero => intro _; rfl
  | succ i ih =>
    intro hi
    rw [ms_bs, if_neg (fun c => h i (by omega) c.1)]
    exact ih (by omega)
/-- as an int: none is -1 -/
def ms_bi (b : Nat) : Int32 := if b = 3 then -1 else nI b
