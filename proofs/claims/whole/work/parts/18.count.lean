def ms_cE (es : Nat → Int32) : Nat → Nat
  | 0 => 0
  | i + 1 => if es i = 1 then ms_cE es i + 1 else ms_cE es i
section
variable {B : Int32} {W R : Nat} {sent disc : Int32} {st pe he es : Nat → Int32} {cw rt una nxt high : Nat → Nat} {rn : Nat → Int32} {cn cs cd cl rd rl : Nat → Nat} {N : Nat} {ysf yss yds yle : Nat → Nat}
theorem ms_x_ce {post : Int32 → Prop} (hp : post (nI (ms_cE es 3))) : ∀ k i, i + k = 3 → wX_countEstablished_4 post B (nI W) (nI R) sent disc st pe he es (ms_im cw) (ms_im rt) (ms_im una) (ms_im nxt) (ms_im high) rn (ms_im cn) (ms_im cs) (ms_im cd) (ms_im cl) (ms_im rd) (ms_im rl) (k + 1) (nI (ms_cE es i)) (nI i) := by
  intro k
  induction k with
  | zero =>
    intro i hi
    have e : i = 3 := by omega
    subst e
    exact pk_le 3 3 (fun _ => hp) (fun z => absurd z (by omega))
  | succ k ih =>
    intro i hi
    have g := ih (i + 1) (by omega)
    refine pk_le 3 i (fun z => absurd z (by omega)) (fun _ => ms_x_est (by omega) ?_)
    by_cases c : es i = 1
    · rw [if_pos c]
      rw [ms_cE, if_pos c] at g
      exact br_f (by decide) (nm_r (nI_1 _) (nm_r (nI_1 i) g))
    · rw [if_neg c]
      rw [ms_cE, if_neg c] at g
      exact br_t rfl (nm_r (nI_1 i) g)
theorem ms_y_ce {post : Int32 → Prop} (hp : post (nI (ms_cE es 3))) : ∀ k i, i + k = 3 → wY_conn_158 post B (nI N) (nI W) (nI R) (nI R) sent disc (ms_im rt) es (ms_im cw) (ms_im una) (ms_im nxt) (ms_im high) rn (ms_im cn) (ms_im cs) (ms_im cd) (ms_im cl) (ms_im ysf) (ms_im yss) (ms_im yds) (ms_im yle) st pe he (k + 1) (nI (ms_cE es i)) (nI i) := by
  intro k
  induction k with
  | zero =>
    intro i hi
    have e : i = 3 := by omega
    subst e
    exact pk_le 3 3 (fun _ => hp) (fun z => absurd z (by omega))
  | succ k ih =>
    intro i hi
    have g := ih (i + 1) (by omega)
    refine pk_le 3 i (fun z => absurd z (by omega)) (fun _ => ⟨pk_in i 3 (by omega), ?_⟩)
    rw [nI_clamp (show i < 2 ^ 31 by omega)]
    by_cases c : es i = 1
    · rw [ms_cE, if_pos c] at g
      exact br_t c (nm_r (nI_1 _) (nm_r (nI_1 i) g))
    · rw [ms_cE, if_neg c] at g
      exact br_f c (nm_r (nI_1 i) g)
theorem ms_x_cp {post : Int32 → Prop} (hp : post (nI (ms_cf pe 0 256))) : ∀ k i, i + k = 256 → wX_countSet__pending_4 post B (nI W) (nI R) sent disc st pe he es (ms_im cw) (ms_im rt) (ms_im una) (ms_im nxt) (ms_im high) rn (ms_im cn) (ms_im cs) (ms_im cd) (ms_im cl) (ms_im rd) (ms_im rl) (k + 1) (nI (ms_cf pe 0 i)) (nI i) := by
  intro k
  induction k with
  | zero =>
    intro i hi
    have e : i = 256 := by omega
    subst e
    exact pk_le 256 256 (fun _ => hp) (fun z => absurd z (by omega))
  | succ k ih =>
    intro i hi
    have g := ih (i + 1) (by omega)
    refine pk_le 256 i (fun z => absurd z (by omega)) (fun _ => ⟨pk_in i 256 (by omega), ?_⟩)
    rw [nI_clamp (show i < 2 ^ 31 by omega)]
    rw [ms_cf, Nat.zero_add] at g
    by_cases c : pe i = 0
    · rw [if_pos c] at g
      exact br_t c (nm_r (nI_1 i) g)
    · rw [if_neg c] at g
      exact br_f c (nm_r (nI_1 _) (nm_r (nI_1 i) g))
theorem ms_x_ch {post : Int32 → Prop} (hp : post (nI (ms_cf he 0 256))) : ∀ k i, i + k = 256 → wX_countSet__held_4 post B (nI W) (nI R) sent disc st pe he es (ms_im cw) (ms_im rt) (ms_im una) (ms_im nxt) (ms_im high) rn (ms_im cn) (ms_im cs) (ms_im cd) (ms_im cl) (ms_im rd) (ms_im rl) (k + 1) (nI (ms_cf he 0 i)) (nI i) := by
  intro k
  induction k with
  | zero =>
    intro i hi
    have e : i = 256 := by omega
    subst e
    exact pk_le 256 256 (fun _ => hp) (fun z => absurd z (by omega))
  | succ k ih =>
    intro i hi
    have g := ih (i + 1) (by omega)
    refine pk_le 256 i (fun z => absurd z (by omega)) (fun _ => ⟨pk_in i 256 (by omega), ?_⟩)
    rw [nI_clamp (show i < 2 ^ 31 by omega)]
    rw [ms_cf, Nat.zero_add] at g
    by_cases c : he i = 0
    · rw [if_pos c] at g
      exact br_t c (nm_r (nI_1 i) g)
    · rw [if_neg c] at g
      exact br_f c (nm_r (nI_1 _) (nm_r (nI_1 i) g))
theorem ms_y_ch {post : Int32 → Prop} (hp : post (nI (ms_cf he 0 256))) : ∀ k i, i + k = 256 → wY_conn_89 post B (nI N) (nI W) (nI R) (nI R) sent disc (ms_im rt) es (ms_im cw) (ms_im una) (ms_im nxt) (ms_im high) rn (ms_im cn) (ms_im cs) (ms_im cd) (ms_im cl) (ms_im ysf) (ms_im yss) (ms_im yds) (ms_im yle) st pe he (k + 1) (nI (ms_cf he 0 i)) (nI i) := by
  intro k
  induction k with
  | zero =>
    intro i hi
    have e : i = 256 := by omega
    subst e
    exact pk_le 256 256 (fun _ => hp) (fun z => absurd z (by omega))
  | succ k ih =>
    intro i hi
    have g := ih (i + 1) (by omega)
    refine pk_le 256 i (fun z => absurd z (by omega)) (fun _ => ⟨pk_in i 256 (by omega), ?_⟩)
    rw [nI_clamp (show i < 2 ^ 31 by omega)]
    rw [ms_cf, Nat.zero_add] at g
    by_cases c : he i = 0
    · rw [if_pos c] at g
      exact br_t c (nm_r (nI_1 i) g)
    · rw [if_neg c] at g
      exact br_f c (nm_r (nI_1 _) (nm_r (nI_1 i) g))
theorem ms_y_cp {post : Int32 → Prop} (hR : R ≤ W) (hW : W ≤ 256) (hp : post (nI (ms_cf pe R (W - R)))) : ∀ k i, i + k = W - R → wY_conn_41 post B (nI N) (nI W) (nI R) (nI R) sent disc (ms_im rt) es (ms_im cw) (ms_im una) (ms_im nxt) (ms_im high) rn (ms_im cn) (ms_im cs) (ms_im cd) (ms_im cl) (ms_im ysf) (ms_im yss) (ms_im yds) (ms_im yle) st pe he (k + 1) (nI (ms_cf pe R i)) (nI (R + i)) := by
  intro k
  induction k with
  | zero =>
    intro i hi
    have e : i = W - R := by omega
    subst e
    exact pk_le W (R + (W - R)) (fun _ => hp) (fun z => absurd z (by omega))
  | succ k ih =>
    intro i hi
    have g := ih (i + 1) (by omega)
    refine pk_le W (R + i) (fun z => absurd z (by omega)) (fun _ => br_f (nI_pos (by omega)) (pk_le 256 (R + i) (fun z => absurd z (by omega)) (fun _ => ⟨pk_in (R + i) 256 (by omega), ?_⟩)))
    rw [nI_clamp (show R + i < 2 ^ 31 by omega)]
    rw [ms_cf] at g
    by_cases c : pe (R + i) = 0
    · rw [if_pos c] at g
      exact br_t c (nm_r (nI_1 (R + i)) g)
    · rw [if_neg c] at g
      exact br_f c (nm_r (nI_1 _) (nm_r (nI_1 (R + i)) g))
end
