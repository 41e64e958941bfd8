section
variable {B : Int32} {W R : Nat} {sent disc : Int32} {st pe he es : Nat → Int32} {cw rt una nxt high : Nat → Nat} {rn : Nat → Int32} {cn cs cd cl rd rl : Nat → Nat} {N : Nat} {ysf yss yds yle : Nat → Nat} {a h c : Nat}
theorem ms_x_faill {post : Int32 → SX → Prop} (ha : a < 3) (hes : es a = 1) (hu : una a ≤ high a) (hh : high a < 2 ^ 30) (hxr : ms_xr W es una high rd rl) (hW : W ≤ 256) (hR : R ≤ 256) (hp : post 1 (ms_X B W R sent disc st (ms_fx pe R rd rl a (una a) (high a - una a)) he (upd es a 2) cw rt una nxt high rn cn cs cd cl rd rl)) : ∀ k j, j + k = high a - una a → wX_fail_24 post (nI a) (k + 1) (nI (una a + j)) B (nI W) (nI R) sent disc st (ms_fx pe R rd rl a (una a) j) he es (ms_im cw) (ms_im rt) (ms_im una) (ms_im nxt) (ms_im high) rn (ms_im cn) (ms_im cs) (ms_im cd) (ms_im cl) (ms_im rd) (ms_im rl) := by
  intro k
  induction k with
  | zero =>
    intro j hj
    have e : j = high a - una a := by omega
    subst e
    exact ⟨pk_in a 3 ha, pk_le (high a) (una a + (high a - una a)) (fun _ => ⟨pk_in a 3 ha, nm_r (ms_cu (by omega)) hp⟩) (fun z => absurd z (by omega)) (ms_at (by omega))⟩
  | succ k ih =>
    intro j hj
    have g := ih (j + 1) (by omega)
    obtain ⟨r1, r2, r3⟩ := hxr a (una a + j) ha hes (by omega) (by omega)
    refine ⟨pk_in a 3 ha, pk_le (high a) (una a + j) (fun z => absurd z (by omega)) (fun _ => ms_x_slot (by omega) ⟨pk_in (a * 8 + (una a + j) % 8) 24 (by omega), pk_in (a * 8 + (una a + j) % 8) 24 (by omega), ?_⟩) (ms_at (by omega))⟩
    rw [ms_at (by omega), ms_at (by omega)]
    exact ms_x_ri (by omega) hR (nm_r (nI_1 (una a + j)) g)
/-- one row's offsets, by the reference -/
theorem ms_y_fi {post : Int32 → SY → Prop} {J : Int32 → (Nat → Int32) → (Nat → Int32) → (Nat → Int32) → (Nat → Int32) → (Nat → Int32) → (Nat → Int32) → (Nat → Int32) → (Nat → Int32) → (Nat → Int32) → (Nat → Int32) → (Nat → Int32) → (Nat → Int32) → (Nat → Int32) → (Nat → Int32) → (Nat → Int32) → (Nat → Int32) → (Nat → Int32) → (Nat → Int32) → Prop} {i : Nat} (hi : i < 24) (hd : yds i + yle i ≤ W) (hW : W ≤ 256) (hR : R ≤ 256) (K : J (nI (i + 1)) (ms_im rt) es (ms_im cw) (ms_im una) (ms_im nxt) (ms_im high) rn (ms_im cn) (ms_im cs) (ms_im cd) (ms_im cl) (ms_im ysf) (ms_im yss) (ms_im yds) (ms_im yle) st (ms_ri pe R (yds i) (yle i)) he) : ∀ m j, j + m = yle i → wY_fail_51 post J (nI a) (nI i) B (nI N) (nI W) (nI R) (nI R) sent disc (m + 1) (nI j) (ms_im rt) es (ms_im cw) (ms_im una) (ms_im nxt) (ms_im high) rn (ms_im cn) (ms_im cs) (ms_im cd) (ms_im cl) (ms_im ysf) (ms_im yss) (ms_im yds) (ms_im yle) st (ms_ri pe R (yds i) j) he := by
  intro m
  induction m with
  | zero =>
    intro j hj
    have e : j = yle i := by omega
    subst e
    exact ⟨pk_in i 24 hi, pk_le (yle i) (yle i) (fun _ => nm_r (nI_1 i) K) (fun z => absurd z (by omega)) (ms_at (by omega))⟩
  | succ m ih =>
    intro j hj
    have g := ih (j + 1) (by omega)
    refine ⟨pk_in i 24 hi, pk_le (yle i) j (fun z => absurd z (by omega)) (fun _ => ⟨pk_in i 24 hi, nm_r (e' := nI (yds i + j)) (by rw [ms_at (by omega), nI_add]) ?_⟩) (ms_at (by omega))⟩
    refine pk_lt (yds i + j) R (fun z => ?_) (fun z => pk_le W (yds i + j) (fun z => absurd z (by omega)) (fun _ => br_f (nI_pos (by omega)) (pk_le 256 (yds i + j) (fun z => absurd z (by omega)) (fun _ => ⟨pk_in (yds i + j) 256 (by omega), nm_r (by rw [nI_clamp (by omega), ms_n1, ms_riS pe z]) (nm_r (nI_1 j) g)⟩))))
    rw [← ms_riK pe z] at g
    exact nm_r (nI_1 j) g
theorem ms_y_fo {post : Int32 → SY → Prop} (ha : a < 3) (hN : N ≤ 24) (hrc : ∀ i, i < N → ysf i < 3 ∧ yds i + yle i ≤ W) (hW : W ≤ 256) (hR : R ≤ 256) (H : ∃ n, wY_fail_125 post (nI a) n 23 B (nI N) (nI W) (nI R) (nI R) sent disc (ms_im rt) es (ms_im cw) (ms_im una) (ms_im nxt) (ms_im high) rn (ms_im cn) (ms_im cs) (ms_im cd) (ms_im cl) (ms_im ysf) (ms_im yss) (ms_im yds) (ms_im yle) st (ms_fy pe R ysf yds yle a N) he) : ∀ k i, i + k = N → wY_fail_22 post (nI a) B (nI N) (nI W) (nI R) (nI R) sent disc (k + 1) (nI i) (ms_im rt) es (ms_im cw) (ms_im una) (ms_im nxt) (ms_im high) rn (ms_im cn) (ms_im cs) (ms_im cd) (ms_im cl) (ms_im ysf) (ms_im yss) (ms_im yds) (ms_im yle) st (ms_fy pe R ysf yds yle a i) he := by
  intro k
  induction k with
  | zero =>
    intro i hi
    have e : i = N := by omega
    subst e
    exact pk_le i i (fun _ => H) (fun z => absurd z (by omega))
  | succ k ih =>
    intro i hi
    have g := ih (i + 1) (by omega)
    obtain ⟨s1, s2⟩ := hrc i (by omega)
    refine pk_le N i (fun z => absurd z (by omega)) (fun _ => pk_le 24 i (fun z => absurd z (by omega)) (fun _ => ⟨pk_in i 24 (by omega), pk_eq (ysf i) a (fun z => ?_) (fun z => ?_) (ms_at (by omega))⟩))
    · rw [ms_fy, if_pos z] at g
      have h := ms_y_fi (B := B) (sent := sent) (disc := disc) (N := N) (post := post) (a := a) (pe := ms_fy pe R ysf yds yle a i) (by omega) s2 hW hR g (yle i) 0 (Nat.zero_add _)
      rw [ms_ri0] at h
      exact ⟨_, h⟩
    · rw [ms_fy, if_neg z] at g
      exact nm_r (nI_1 i) g
/-- the rows of a are removed -/
theorem ms_y_ff {post : Int32 → SY → Prop} {N0 : Nat} {sf0 ss0 ds0 le0 : Nat → Nat} (ha : a < 3) (h0 : ∀ i, i < N0 → sf0 i < 2 ^ 31 ∧ ss0 i < 2 ^ 31) (hN0 : N0 ≤ 24)
    (H : ∀ (N : Nat) (ysf yss yds yle : Nat → Nat), ms_fi (fun x _ => x = a) N0 sf0 ss0 ds0 le0 0 N ysf yss yds yle → post 1 (ms_Y B W R R sent disc st pe he (upd es a 2) cw rt una nxt high rn cn cs cd cl N ysf yss yds yle)) :
    ∀ t (N : Nat) (ysf yss yds yle : Nat → Nat), t ≤ 24 → ms_fi (fun x _ => x = a) N0 sf0 ss0 ds0 le0 t N ysf yss yds yle → wY_fail_125 post (nI a) (t + 1) (nI t - 1) B (nI N) (nI W) (nI R) (nI R) sent disc (ms_im rt) es (ms_im cw) (ms_im una) (ms_im nxt) (ms_im high) rn (ms_im cn) (ms_im cs) (ms_im cd) (ms_im cl) (ms_im ysf) (ms_im yss) (ms_im yds) (ms_im yle) st pe he := by
  intro t
  induction t with
  | zero =>
    intro N ysf yss yds yle _ hf
    exact br_t (by decide) ⟨pk_in a 3 ha, nm_r (ms_cu (by omega)) (H N ysf yss yds yle hf)⟩
  | succ t ih =>
    intro N ysf yss yds yle ht hf
    have hN : N ≤ 24 := Nat.le_trans hf.1 hN0
    rw [nI_pred]
    refine br_f (nI_pos (by omega)) ?_
    have next : (t < N → ¬ ysf t = a) → ∀ x, x = nI t + (-1) → wY_fail_125 post (nI a) (t + 1) x B (nI N) (nI W) (nI R) (nI R) sent disc (ms_im rt) es (ms_im cw) (ms_im una) (ms_im nxt) (ms_im high) rn (ms_im cn) (ms_im cs) (ms_im cd) (ms_im cl) (ms_im ysf) (ms_im yss) (ms_im yds) (ms_im yle) st pe he := fun q => nm_r (ms_mm t) (ih N ysf yss yds yle (by omega) (ms_fik hf q))
    refine pk_le N t (fun z => next (fun z2 => absurd z2 (by omega))) (fun z => ⟨pk_in t 24 (by omega), ?_⟩)
    obtain ⟨j, j1, j2, j3, _⟩ := hf.2.2.2.1 _ _ _ _ ⟨t, z, rfl, rfl, rfl, rfl⟩
    have hbj := h0 j j1
    refine pk_eq (ysf t) a (fun z1 => ?_) (fun z1 => next (fun _ q => z1 q)) (ms_at (by omega)) rfl (by omega) (by omega)
    exact ms_y_rem hN z (nm_r (ms_mm t) (ih _ _ _ _ _ (by omega) (ms_fir hf z z1)))
theorem ms_x_fail {post : Int32 → SX → Prop} (ha : a < 3) (hes : es a = 1) (hu : una a ≤ high a) (hh : high a < 2 ^ 30) (hxr : ms_xr W es una high rd rl) (hW : W ≤ 256) (hR : R ≤ 256) (hp : post 1 (ms_X B W R sent disc st (ms_fx pe R rd rl a (una a) (high a - una a)) he (upd es a 2) cw rt una nxt high rn cn cs cd cl rd rl)) : wpX_fail post (ms_X B W R sent disc st pe he es cw rt una nxt high rn cn cs cd cl rd rl) (nI a) := by
  unfold wpX_fail
  refine ms_x_sub ha ?_
  refine br_f (by decide) ?_
  refine ms_x_est ha ?_
  rw [if_pos hes]
  exact br_f (by decide) ⟨pk_in a 3 ha, nm_r (ms_at (by omega)) ⟨_, ms_x_faill ha hes hu hh hxr hW hR hp (high a - una a) 0 (Nat.zero_add _)⟩⟩
theorem ms_y_fail {post : Int32 → SY → Prop} (ha : a < 3) (hes : es a = 1) (hN : N ≤ 24) (hu : ms_uq N ysf yss) (hrc : ∀ i, i < N → ysf i < 3 ∧ yds i + yle i ≤ W) (h0 : ∀ i, i < N → ysf i < 2 ^ 31 ∧ yss i < 2 ^ 31) (hW : W ≤ 256) (hR : R ≤ 256)
    (H : ∀ (N2 : Nat) (sf2 ss2 ds2 le2 : Nat → Nat), ms_fi (fun x _ => x = a) N ysf yss yds yle 0 N2 sf2 ss2 ds2 le2 → post 1 (ms_Y B W R R sent disc st (ms_fy pe R ysf yds yle a N) he (upd es a 2) cw rt una nxt high rn cn cs cd cl N2 sf2 ss2 ds2 le2)) : wpY_fail post (ms_Y B W R R sent disc st pe he es cw rt una nxt high rn cn cs cd cl N ysf yss yds yle) (nI a) := by
  have h := ms_y_ff (pe := ms_fy pe R ysf yds yle a N) ha h0 hN H 24 N ysf yss yds yle (Nat.le_refl 24) (ms_fi0 hN hu)
  rw [← ms_23] at h
  unfold wpY_fail
  refine ms_y_sub ha ?_
  exact br_t rfl ⟨pk_in a 3 ha, br_t (by rw [nI_clamp (by omega)]; exact hes) ⟨_, ms_y_fo ha hN hrc hW hR ⟨_, h⟩ N 0 (Nat.zero_add N)⟩⟩
end
