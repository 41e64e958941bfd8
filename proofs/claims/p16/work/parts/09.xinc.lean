section
variable {B : Int32} {W R : Nat} {sent disc : Int32} {st pe he es : Nat → Int32} {cw rt una nxt high : Nat → Nat} {rn : Nat → Int32} {cn cs cd cl rd rl : Nat → Nat} {a h c : Nat}
theorem ms_x_quo {post : Int64 → Prop} {x y : Int64} (p q : Nat) (hx : x = lN p) (hy : y = lN q) (hp0 : p < 2 ^ 63) (h0 : 0 < q) (hq : q < 2 ^ 63) (hp : post (lN (p / q))) : wpX_quotient post () x y := by
  subst hx hy
  exact ms_lle 1 q (fun _ => ⟨ms_lne h0 hq, by rw [pk_lDiv hp0 h0 hq]; exact hp⟩) (fun z => absurd z (by omega)) rfl rfl (by decide) hq
theorem ms_SS {S : Nat} (h : S ≤ 147456) : S * S < 2 ^ 63 := Nat.lt_of_le_of_lt (Nat.mul_le_mul h h) (by decide)
theorem ms_rr {r : Nat} (h1 : 1 ≤ r) (h4 : r ≤ 4) : 0 < r * r ∧ r * r < 2 ^ 31 := ⟨Nat.mul_pos h1 h1, Nat.lt_of_le_of_lt (Nat.mul_le_mul h4 h4) (by decide)⟩
theorem ms_M1 {es : Nat → Int32} {cw rt : Nat → Nat} {j : Nat} (h : es j = 1) (c : ms_M es cw rt j < ms_P cw rt j) : ms_M es cw rt (j + 1) = ms_P cw rt j := by rw [ms_M, if_pos h, if_pos c]
theorem ms_M2 {es : Nat → Int32} {cw rt : Nat → Nat} {j : Nat} (h : es j = 1) (c : ¬ ms_M es cw rt j < ms_P cw rt j) : ms_M es cw rt (j + 1) = ms_M es cw rt j := by rw [ms_M, if_pos h, if_neg c]
theorem ms_M3 {es : Nat → Int32} {cw rt : Nat → Nat} {j : Nat} (h : ¬ es j = 1) : ms_M es cw rt (j + 1) = ms_M es cw rt j := by rw [ms_M, if_neg h]
theorem ms_S1 {es : Nat → Int32} {cw rt : Nat → Nat} {j : Nat} (h : es j = 1) : ms_S es cw rt (j + 1) = ms_S es cw rt j + ms_Q cw rt j := by rw [ms_S, if_pos h]
theorem ms_S3 {es : Nat → Int32} {cw rt : Nat → Nat} {j : Nat} (h : ¬ es j = 1) : ms_S es cw rt (j + 1) = ms_S es cw rt j := by rw [ms_S, if_neg h]
theorem ms_x_168 {post : St2 → Prop} {i : Nat} (ha : a < 3) (hc : cw a ≤ 4096) (hi : i ≤ 65536) (hp : post (ms_X B W R sent disc st pe he es (ms_un cw a (if 4096 < cw a + i then 4096 else cw a + i)) rt una nxt high rn cn cs cd cl rd rl)) : wX_increaseCoupled_168 post (nI a) (lN i) B (nI W) (nI R) sent disc st pe he es (ms_im cw) (ms_im rt) (ms_im una) (ms_im nxt) (ms_im high) rn (ms_im cn) (ms_im cs) (ms_im cd) (ms_im cl) (ms_im rd) (ms_im rl) := by
  refine ⟨pk_in a 3 ha, nm_r (e' := lN (cw a + i)) (by rw [ms_at (by omega), nI_l (by omega), lN_add]) ?_⟩
  refine ms_lle (cw a + i) 4096 (fun z => ?_) (fun z => ?_) rfl rfl (by omega) (by decide)
  · rw [if_neg (by omega)] at hp
    exact ⟨pk_in a 3 ha, nm_r (by rw [lN_i]; exact ms_up (by omega)) hp⟩
  · rw [if_pos z] at hp
    exact ⟨pk_in a 3 ha, nm_r (ms_up (v := 4096) (by omega)) hp⟩
theorem ms_x_153 {post : St2 → Prop} {i : Nat} (ha : a < 3) (hc : cw a ≤ 4096) (hi : i ≤ 65536) (hp : post (ms_X B W R sent disc st pe he es (ms_un cw a (if 4096 < cw a + (if i < 1 then 1 else i) then 4096 else cw a + (if i < 1 then 1 else i))) rt una nxt high rn cn cs cd cl rd rl)) : wX_increaseCoupled_153 post (nI a) (lN i) B (nI W) (nI R) sent disc st pe he es (ms_im cw) (ms_im rt) (ms_im una) (ms_im nxt) (ms_im high) rn (ms_im cn) (ms_im cs) (ms_im cd) (ms_im cl) (ms_im rd) (ms_im rl) := by
  refine ms_lle 1 i (fun z => ?_) (fun z => ?_) rfl rfl (by decide) (by omega)
  · rw [if_neg (show ¬ i < 1 by omega)] at hp
    exact ms_x_168 ha hc hi hp
  · rw [if_pos z] at hp
    exact ms_x_168 (i := 1) ha hc (by omega) hp
theorem ms_x_incl {post : St2 → Prop} (ha : a < 3) (hwd : ms_wd cw rt) (hes : es a = 1) (hp : post (ms_X B W R sent disc st pe he es (ms_un cw a (ms_nc (ms_M es cw rt 3) (ms_S es cw rt 3) (cw a))) rt una nxt high rn cn cs cd cl rd rl)) : ∀ k j, j + k = 3 → wX_increaseCoupled_8 post (nI a) B (nI W) (nI R) sent disc st pe he es (ms_im cw) (ms_im rt) (ms_im una) (ms_im nxt) (ms_im high) rn (ms_im cn) (ms_im cs) (ms_im cd) (ms_im cl) (ms_im rd) (ms_im rl) (k + 1) (lN (ms_M es cw rt j)) (lN (ms_S es cw rt j)) (nI j) := by
  obtain ⟨w1, w2, _, _⟩ := hwd a ha
  have hM := ms_Mb (es := es) hwd
  have hS := ms_Sb (es := es) hwd
  intro k
  induction k with
  | zero =>
    intro j hj
    have e3 : j = 3 := by omega
    subst e3
    have m3 := hM 3 (Nat.le_refl 3)
    have s3 := hS 3 (Nat.le_refl 3)
    have p3 := ms_Sp hwd ha hes 3 (Nat.le_refl 3) ha
    generalize ms_M es cw rt 3 = M at m3 hp ⊢
    generalize ms_S es cw rt 3 = S at s3 p3 hp ⊢
    unfold ms_nc ms_i1 ms_in at hp
    have hA : 65536 * M / (S * S) ≤ 65536 * M := Nat.div_le_self _ _
    have hB : 65536 / cw a ≤ 65536 := Nat.div_le_self _ _
    refine pk_le 3 3 (fun _ => ?_) (fun z => absurd z (by omega))
    refine ms_x_quo (65536 * M) (S * S) (lN_mul 65536 M) (lN_mul S S) (by omega) (Nat.mul_pos (by omega) (by omega)) (ms_SS (by omega)) ⟨pk_in a 3 ha, ?_⟩
    refine ms_x_quo 65536 (cw a) rfl (by rw [ms_at (by omega), nI_l (by omega)]) (by decide) (by omega) (by omega) ?_
    generalize 65536 * M / (S * S) = A at hA hp ⊢
    generalize 65536 / cw a = D at hB hp ⊢
    refine ms_lle D A (fun z => ?_) (fun z => ?_) rfl rfl (by omega) (by omega)
    · rw [if_neg (show ¬ A < D by omega)] at hp
      exact ms_x_153 ha w2 hB hp
    · rw [if_pos z] at hp
      exact ms_x_153 ha w2 (by omega) hp
  | succ k ih =>
    intro j hj
    have g := ih (j + 1) (by omega)
    obtain ⟨q1, q2, q3, q4⟩ := hwd j (by omega)
    have mj := hM j (by omega)
    have pj := ms_Pb hwd (j := j) (by omega)
    refine pk_le 3 j (fun z => absurd z (by omega)) (fun _ => ms_x_est (by omega) ?_)
    by_cases c : es j = 1
    · rw [if_pos c]
      rw [ms_S1 c] at g
      refine br_f (by decide) ⟨pk_in j 3 (by omega), pk_in j 3 (by omega), pk_in j 3 (by omega), ?_⟩
      refine ms_x_quo (cw j * 144) (rt j * rt j) (by rw [ms_at (by omega), nI_l (by omega)]; exact lN_mul _ 144) (by rw [ms_at (by omega), pk_mul, nI_l (ms_rr q3 q4).2]) (by omega) (ms_rr q3 q4).1 (Nat.lt_trans (ms_rr q3 q4).2 (by decide)) ⟨pk_in j 3 (by omega), pk_in j 3 (by omega), ?_⟩
      refine ms_x_quo (cw j * 12) (rt j) (by rw [ms_at (by omega), nI_l (by omega)]; exact lN_mul _ 12) (by rw [ms_at (by omega), nI_l (by omega)]) (by omega) (by omega) (by omega) ?_
      refine ms_lle (ms_P cw rt j) (ms_M es cw rt j) (fun z => ?_) (fun z => ?_) rfl rfl (by omega) (by omega)
      · rw [ms_M2 c (by omega)] at g
        exact nm_r (lN_add _ _) (nm_r (nI_1 j) g)
      · rw [ms_M1 c z] at g
        exact nm_r (lN_add _ _) (nm_r (nI_1 j) g)
    · rw [if_neg c]
      rw [ms_S3 c, ms_M3 c] at g
      exact br_t rfl (nm_r (nI_1 j) g)
theorem ms_x_inc {post : St2 → Prop} (ha : a < 3) (hwd : ms_wd cw rt) (hes : es a = 1) (hp : post (ms_X B W R sent disc st pe he es (ms_un cw a (ms_nc (ms_M es cw rt 3) (ms_S es cw rt 3) (cw a))) rt una nxt high rn cn cs cd cl rd rl)) : wpX_increaseCoupled post (ms_X B W R sent disc st pe he es cw rt una nxt high rn cn cs cd cl rd rl) (nI a) :=
  ⟨_, ms_x_incl ha hwd hes hp 3 0 rfl⟩
theorem ms_x_ack {post : St2 → Prop} {b : Nat} (ha : a < 3) (hwd : ms_wd cw rt) (hes : es a = 1) (hrn : rn a = nI b) (hb : b < 2 ^ 30) (hx : nxt a < 2 ^ 30) (hp : ∀ n2 : Nat → Nat, ((nxt a < b ∧ n2 = ms_un nxt a b) ∨ (b ≤ nxt a ∧ n2 = nxt)) → post (ms_X B W R sent disc st pe he es (ms_un cw a (ms_nc (ms_M es cw rt 3) (ms_S es cw rt 3) (cw a))) rt (ms_un una a b) n2 high rn cn cs cd cl rd rl)) : wpX_acknowledge post (ms_X B W R sent disc st pe he es cw rt una nxt high rn cn cs cd cl rd rl) (nI a) := by
  refine ⟨pk_in a 3 ha, pk_in a 3 ha, nm_r (e' := ms_im (ms_un una a b)) (by rw [nI_clamp (show a < 2 ^ 31 by omega), hrn]; exact ms_imu _ _ _) ⟨pk_in a 3 ha, pk_in a 3 ha, ?_⟩⟩
  refine pk_le b (nxt a) (fun z => ms_x_inc ha hwd hes (hp nxt (Or.inr ⟨z, rfl⟩))) (fun z => ⟨pk_in a 3 ha, pk_in a 3 ha, nm_r (by rw [ms_at (by omega), ms_us]; exact ms_up (by omega)) (ms_x_inc ha hwd hes (hp _ (Or.inl ⟨z, rfl⟩)))⟩) (by rw [ms_at (by omega), ms_us]) (ms_at (by omega))
end
