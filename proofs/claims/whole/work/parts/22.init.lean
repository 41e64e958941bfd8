theorem ms_cpw (P : Int32 → Prop) (x lo hi : Int32) (h : P (ms_cp x lo hi)) : (lo ≤ x → ((x ≤ hi → P x) ∧ (¬ x ≤ hi → P hi))) ∧ (¬ lo ≤ x → P lo) := by
  unfold ms_cp at h
  by_cases c : x < lo
  · rw [if_pos c] at h
    exact br_f (fun z => (Int32.not_le.mpr c) z) h
  · rw [if_neg c] at h
    refine br_t (Int32.not_lt.mp c) ?_
    by_cases c2 : hi < x
    · rw [if_pos c2] at h
      exact br_f (fun z => (Int32.not_le.mpr c2) z) h
    · rw [if_neg c2] at h
      exact br_t (Int32.not_lt.mp c2) h
theorem ms_x_clp {post : Int32 → Prop} {x lo hi : Int32} (hp : post (ms_cp x lo hi)) : wpX_clamp post x lo hi := ms_cpw post x lo hi hp
def ms_e : Nat → Nat → Int32
  | 0 => ms_im (fun _ => 0)
  | i + 1 => upd (ms_e i) i 1
def ms_c : Nat → Nat → Nat
  | 0 => fun _ => 0
  | i + 1 => ms_un (ms_c i) i 512
section
variable {f0 f1 f2 f3 f4 f5 f6 : Int32} {g0 g1 g2 g3 g4 g5 g6 g7 g8 g9 g10 g11 g12 g13 g14 g15 g16 g17 : Nat → Int32}
theorem ms_x_in {post : SX → Prop} (hp : post (f0, f1, f2, f3, f4, g0, g1, g2, ms_e 3, ms_im (ms_c 3), g5, g6, g7, g8, g9, g10, g11, g12, g13, g14, g15)) : ∀ k i, i + k = 3 → wX_init_199 post f0 f1 f2 f3 f4 (k + 1) (nI i) g0 g1 g2 (ms_e i) (ms_im (ms_c i)) g5 g6 g7 g8 g9 g10 g11 g12 g13 g14 g15 := by
  intro k
  induction k with
  | zero =>
    intro i hi
    have e : i = 3 := by omega
    subst e
    exact pk_le 3 3 (fun _ => hp) (fun z => absurd z (by omega))
  | succ k ih =>
    intro i hi
    have g := ih (i + 1) (by omega)
    exact pk_le 3 i (fun z => absurd z (by omega)) (fun _ => ⟨pk_in i 3 (by omega), nm_r (e' := ms_e (i + 1)) (ms_cu (by omega)) ⟨pk_in i 3 (by omega), nm_r (e' := ms_im (ms_c (i + 1))) (ms_up (v := 512) (by omega)) (nm_r (nI_1 i) g)⟩⟩)
theorem ms_y_in {post : SY → Prop} (hp : post (f0, f1, f2, f3, f4, f5, f6, g0, ms_e 3, ms_im (ms_c 3), g3, g4, g5, g6, g7, g8, g9, g10, g11, g12, g13, g14, g15, g16, g17)) : ∀ k i, i + k = 3 → wY_init_251 post f0 f1 f2 f3 f4 f5 f6 (k + 1) (nI i) g0 (ms_e i) (ms_im (ms_c i)) g3 g4 g5 g6 g7 g8 g9 g10 g11 g12 g13 g14 g15 g16 g17 := by
  intro k
  induction k with
  | zero =>
    intro i hi
    have e : i = 3 := by omega
    subst e
    exact pk_le 3 3 (fun _ => hp) (fun z => absurd z (by omega))
  | succ k ih =>
    intro i hi
    have g := ih (i + 1) (by omega)
    exact pk_le 3 i (fun z => absurd z (by omega)) (fun _ => ⟨pk_in i 3 (by omega), nm_r (e' := ms_e (i + 1)) (ms_cu (by omega)) ⟨pk_in i 3 (by omega), nm_r (e' := ms_im (ms_c (i + 1))) (ms_up (v := 512) (by omega)) (nm_r (nI_1 i) g)⟩⟩)
theorem ms_y_219 {post : SY → Prop} {x : Int32} {r1 r2 : Nat} {rt : Nat → Nat} (e : ms_cp x 1 4 = nI r2) (H : ∃ n, wY_init_251 post f0 f1 f2 f3 f4 f5 f6 n 0 (ms_im (ms_un (ms_un rt 1 r1) 2 r2)) g1 g2 g3 g4 g5 g6 g7 g8 g9 g10 g11 g12 g13 g14 g15 g16 g17) : wY_init_219 post x (nI r1) 1 f0 f1 f2 f3 f4 f5 f6 (ms_im rt) g1 g2 g3 g4 g5 g6 g7 g8 g9 g10 g11 g12 g13 g14 g15 g16 g17 := by
  refine ⟨pk_in 1 3 (by decide), nm_r (e' := ms_im (ms_un rt 1 r1)) (ms_up (k := 1) (by decide)) ?_⟩
  refine ms_cpw (fun z => ∀ y, y = upd (ms_im (ms_un rt 1 r1)) 2 z → ∃ n, wY_init_251 post f0 f1 f2 f3 f4 f5 f6 n 0 y g1 g2 g3 g4 g5 g6 g7 g8 g9 g10 g11 g12 g13 g14 g15 g16 g17) x 1 4 ?_
  rw [e]
  exact nm_r (ms_imu _ _ _) H
theorem ms_y_194 {post : SY → Prop} {x3 x4 : Int32} {r0 r1 r2 : Nat} {rt : Nat → Nat} (e3 : ms_cp x3 1 4 = nI r1) (e4 : ms_cp x4 1 4 = nI r2) (H : ∃ n, wY_init_251 post f0 f1 f2 f3 f4 f5 f6 n 0 (ms_im (ms_un (ms_un (ms_un rt 0 r0) 1 r1) 2 r2)) g1 g2 g3 g4 g5 g6 g7 g8 g9 g10 g11 g12 g13 g14 g15 g16 g17) : wY_init_194 post x3 x4 (nI r0) 0 f0 f1 f2 f3 f4 f5 f6 (ms_im rt) g1 g2 g3 g4 g5 g6 g7 g8 g9 g10 g11 g12 g13 g14 g15 g16 g17 := by
  refine ⟨pk_in 0 3 (by decide), nm_r (e' := ms_im (ms_un rt 0 r0)) (ms_up (k := 0) (by decide)) ?_⟩
  refine ms_cpw (fun z => wY_init_219 post x4 z 1 f0 f1 f2 f3 f4 f5 f6 (ms_im (ms_un rt 0 r0)) g1 g2 g3 g4 g5 g6 g7 g8 g9 g10 g11 g12 g13 g14 g15 g16 g17) x3 1 4 ?_
  rw [e3]
  exact ms_y_219 e4 H
theorem ms_y_167 {post : SY → Prop} {x2 x3 x4 : Int32} {r0 r1 r2 : Nat} {rt : Nat → Nat} (e2 : ms_cp x2 1 4 = nI r0) (e3 : ms_cp x3 1 4 = nI r1) (e4 : ms_cp x4 1 4 = nI r2) (H : ∃ n, wY_init_251 post f0 f1 f2 f3 f4 f5 f6 n 0 (ms_im (ms_un (ms_un (ms_un rt 0 r0) 1 r1) 2 r2)) g1 g2 g3 g4 g5 g6 g7 g8 g9 g10 g11 g12 g13 g14 g15 g16 g17) : wY_init_167 post x2 x3 x4 f0 0 f1 f2 f3 f4 f5 f6 (ms_im rt) g1 g2 g3 g4 g5 g6 g7 g8 g9 g10 g11 g12 g13 g14 g15 g16 g17 := by
  refine ms_cpw (fun z => wY_init_194 post x3 x4 z 0 f0 f1 f2 f3 f4 f5 f6 (ms_im rt) g1 g2 g3 g4 g5 g6 g7 g8 g9 g10 g11 g12 g13 g14 g15 g16 g17) x2 1 4 ?_
  rw [e2]
  exact ms_y_194 e3 e4 H
end
theorem ms_z0 (d : Nat) : ms_im (fun _ => 0) d = 0 := nI_0
theorem ms_Y0 {r0 r1 r2 : Nat} {b : Int32} (a0 : 1 ≤ r0 ∧ r0 ≤ 4) (a1 : 1 ≤ r1 ∧ r1 ≤ 4) (a2 : 1 ≤ r2 ∧ r2 ≤ 4) :
    ms_R 24 0 (ms_X b 0 0 0 0 (ms_im (fun _ => 0)) (ms_im (fun _ => 0)) (ms_im (fun _ => 0)) (ms_e 3) (ms_c 3) (ms_un (ms_un (ms_un (fun _ => 0) 0 r0) 1 r1) 2 r2) (fun _ => 0) (fun _ => 0) (fun _ => 0) (ms_im (fun _ => 0)) (fun _ => 0) (fun _ => 0) (fun _ => 0) (fun _ => 0) (fun _ => 0) (fun _ => 0))
      (ms_Y b 0 0 0 0 0 (ms_im (fun _ => 0)) (ms_im (fun _ => 0)) (ms_im (fun _ => 0)) (ms_e 3) (ms_c 3) (ms_un (ms_un (ms_un (fun _ => 0) 0 r0) 1 r1) 2 r2) (fun _ => 0) (fun _ => 0) (fun _ => 0) (ms_im (fun _ => 0)) (fun _ => 0) (fun _ => 0) (fun _ => 0) (fun _ => 0) 0 (fun _ => 0) (fun _ => 0) (fun _ => 0) (fun _ => 0)) := by
  refine ms_mk ⟨Nat.le_refl 0, by omega, fun d hd => absurd (ms_z0 d) hd, fun d hd => absurd (ms_z0 d) hd⟩ ?_ ?_ ?_ ?_ (Nat.zero_le _)
  · intro i hi
    exact ⟨Nat.le_refl 0, Nat.le_refl 0, Nat.zero_le _, Nat.zero_le 24, fun _ => rfl⟩
  · intro i hi
    have h3 : i = 0 ∨ i = 1 ∨ i = 2 := by omega
    rcases h3 with rfl | rfl | rfl
    · exact ⟨by decide, by decide, a0⟩
    · exact ⟨by decide, by decide, a1⟩
    · exact ⟨by decide, by decide, a2⟩
  · intro i hi
    exact ⟨Nat.zero_le 8, fun j hj => absurd hj (Nat.not_lt_zero j)⟩
  · refine ⟨by omega, fun i j hi => absurd hi (Nat.not_lt_zero i), ?_, ?_⟩
    · rintro a b c d ⟨j, hj, _⟩
      exact absurd hj (Nat.not_lt_zero j)
    · intro a b _ _ _ hb
      exact absurd hb (Nat.not_lt_zero b)
