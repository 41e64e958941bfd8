def ms_l60 (post : Int32 → Prop) (L : Nat) (xs : Nat → Int32) (seed x3 x4 : Int32) (kc ks n : Nat) (x : Int32) (u : St2) : Prop := match u with
  | (q0, q1, q2, q3, q4, q5, q6, q7, q8, q9, q10, q11, q12, q13, q14, q15, q16, q17, q18, q19, q20) => wL_law_60 post L xs seed x3 x4 kc ks n x q0 q1 q2 q3 q4 q5 q6 q7 q8 q9 q10 q11 q12 q13 q14 q15 q16 q17 q18 q19 q20
theorem ms_w60 {post : Int32 → Prop} {L : Nat} {xs : Nat → Int32} {seed : Int32} {ns T kc ks : Nat} (hL : L ≤ 260) (hns : ns ≤ 128) (hT : T ≤ 192) (hp : post 1) : ∀ (m t W R : Nat) (u : St2), t + m = T → ms_I (24 * t) (ms_s seed) W R u → ms_l60 post L xs seed (nI ns) (nI T) kc ks (m + 1) (nI t) u := by
  intro m
  induction m with
  | zero =>
    intro t W R u ht I
    have e : t = T := by omega
    subst e
    obtain ⟨B, sent, disc, st, pe, he, es, cw, rt, una, nxt, high, rn, cn, cs, cd, cl, rd, rl, rfl, h1, h2, h3, h4, h5, h6⟩ := I
    exact pk_le t t (fun _ => hp) (fun z => absurd z (by omega))
  | succ m ih =>
    intro t W R u ht I
    have I0 := I
    have HH : ∀ (W' R' : Nat) (u' : St2), ms_I (24 * t + 24) (ms_s seed) W' R' u' → ms_J (wL_law_60 post L xs seed (nI ns) (nI T) kc ks (m + 1)) (nI t + 1) u' := by
      intro W' R' u' J
      have g := ih (t + 1) W' R' u' (by omega) (ms_Iup (by omega) J)
      obtain ⟨_, _, _, _, _, _, _, _, _, _, _, _, _, _, _, _, _, _, _, rfl, _⟩ := J
      rw [nI_1]
      exact g
    obtain ⟨B, sent, disc, st, pe, he, es, cw, rt, una, nxt, high, rn, cn, cs, cd, cl, rd, rl, rfl, h1, h2, h3, h4, h5, h6⟩ := I
    have e5 : 5 + 2 * nI t = nI (5 + 2 * t) := by
      show nI 5 + nI 2 * nI t = _
      rw [pk_mul, nI_add]
    have e6 : 6 + 2 * nI t = nI (6 + 2 * t) := by
      show nI 6 + nI 2 * nI t = _
      rw [pk_mul, nI_add]
    refine pk_le T t (fun z => absurd z (by omega)) (fun _ => pk_le ns t (fun _ => ⟨by decide, fun x8 _ => br_c (fun _ => ?_) (fun _ => ?_)⟩) (fun _ => ?_))
    · exact fun x7 _ => ms_w132 I0 (by omega) HH
    · exact fun x7 _ => ms_w132 I0 (by omega) HH
    · refine ms_cell (5 + 2 * t) e5 (by omega) (by omega) (fun y => ?_)
      intro x6 _
      refine ms_cell (6 + 2 * t) e6 (by omega) (by omega) (fun y2 => ?_)
      exact ms_w132 I0 (by omega) HH
section
variable {f0 f1 f2 f3 f4 : Int32} {g0 g1 g2 g5 g6 g7 g8 g9 g10 g11 g12 g13 g14 g15 : Nat → Int32} {mc ms kc ks : Nat}
theorem ms_x_in {post : St2 → Prop} (hp : post (f0, f1, f2, f3, f4, g0, g1, g2, ms_e 3, ms_im (ms_c 3), g5, g6, g7, g8, g9, g10, g11, g12, g13, g14, g15)) : ∀ k i, i + k = 3 → wX_init_199 post mc ms kc ks f0 f1 f2 f3 f4 (k + 1) (nI i) g0 g1 g2 (ms_e i) (ms_im (ms_c i)) g5 g6 g7 g8 g9 g10 g11 g12 g13 g14 g15 := by
  intro k
  induction k with
  | zero =>
    intro i hi
    have e : i = 3 := by omega
    subst e
    exact pk_le 3 3 (fun _ => hp) (fun z => absurd z (by omega))
  | succ k ih =>
    intro i hi
    have g := ih (i + 1) (by omega)
    exact pk_le 3 i (fun z => absurd z (by omega)) (fun _ => ⟨pk_in i 3 (by omega), nm_r (e' := ms_e (i + 1)) (ms_cu (by omega)) ⟨pk_in i 3 (by omega), nm_r (e' := ms_im (ms_c (i + 1))) (ms_up (v := 512) (by omega)) (nm_r (nI_1 i) g)⟩⟩)
end
theorem ms_I0 {r0 r1 r2 : Nat} {b : Int32} {s : Nat → Int32} (a0 : 1 ≤ r0 ∧ r0 ≤ 4) (a1 : 1 ≤ r1 ∧ r1 ≤ 4) (a2 : 1 ≤ r2 ∧ r2 ≤ 4) :
    ms_I 0 s 0 0 (ms_X b 0 0 0 0 (ms_im (fun _ => 0)) (ms_im (fun _ => 0)) (ms_im (fun _ => 0)) (ms_e 3) (ms_c 3) (ms_un (ms_un (ms_un (fun _ => 0) 0 r0) 1 r1) 2 r2) (fun _ => 0) (fun _ => 0) (fun _ => 0) (ms_im (fun _ => 0)) (fun _ => 0) (fun _ => 0) (fun _ => 0) (fun _ => 0) (fun _ => 0) (fun _ => 0)) := by
  refine ms_mI ⟨Nat.le_refl 0, by omega, fun d hd => absurd (ms_z0 d) hd, fun d hd => absurd (ms_z0 d) hd⟩ ?_ ?_ ?_ ?_ (fun d hd => absurd hd (Nat.not_lt_zero d))
  · intro i hi
    exact ⟨Nat.le_refl 0, Nat.le_refl 0, Nat.zero_le _, Nat.le_refl 0, fun _ => rfl⟩
  · intro i hi
    have h3 : i = 0 ∨ i = 1 ∨ i = 2 := by omega
    rcases h3 with rfl | rfl | rfl
    · exact ⟨by decide, by decide, a0⟩
    · exact ⟨by decide, by decide, a1⟩
    · exact ⟨by decide, by decide, a2⟩
  · intro i hi
    exact ⟨Nat.zero_le 8, fun j hj => absurd hj (Nat.not_lt_zero j)⟩
  · intro a b _ _ _ hb
    exact absurd hb (Nat.not_lt_zero b)
theorem ms_init {post : St2 → Prop} (k0 k1 k2 k3 : Int32) (hp : ∀ u : St2, (∀ s : Nat → Int32, ms_I 0 s 0 0 u) → post u) : wpX_init post 16 912 (0, 0, 0, 0, 0) k0 k1 k2 k3 := by
  obtain ⟨r0, p0, q0, e0⟩ := ms_cpr k1
  obtain ⟨r1, p1, q1, e1⟩ := ms_cpr k2
  obtain ⟨r2, p2, q2, e2⟩ := ms_cpr k3
  have R0 := hp _ (fun s => ms_I0 (b := ms_cp k0 8 32) (s := s) ⟨p0, q0⟩ ⟨p1, q1⟩ ⟨p2, q2⟩)
  unfold wpX_init
  refine ⟨by decide, by decide, by decide, by decide, by decide, by decide, by decide, by decide, by decide, by decide, by decide, by decide, by decide, by decide, by decide, by decide, by decide, by decide, by decide, by decide, by decide, by decide, by decide, by decide, by decide, by decide, by decide, by decide, by decide, by decide, by decide, by decide, ?_⟩
  refine ms_x_clp ?_
  refine ms_x_clp ?_
  rw [e0]
  refine nm_r (e' := ms_im (ms_un (fun _ => 0) 0 r0)) (ms_imu (fun _ => 0) 0 r0) ?_
  refine ms_x_clp ?_
  rw [e1]
  refine nm_r (ms_imu _ _ _) ?_
  refine ms_x_clp ?_
  rw [e2]
  exact nm_r (ms_imu _ _ _) ⟨4, ms_x_in R0 3 0 rfl⟩
