section
variable {B : Int32} {W R : Nat} {sent disc : Int32} {st pe he es : Nat → Int32} {cw rt una nxt high : Nat → Nat} {rn : Nat → Int32} {cn cs cd cl rd rl : Nat → Nat} {a h c : Nat}
/-- the fastest, by the class -/
theorem ms_x_fel {post : Int32 → Prop} {e : Nat} (hW : W ≤ 256) (hlp : ms_lp pe R W e) (hct : ms_ct h es una nxt high rn) (hwd : ms_wd cw rt) (hch : ms_ch W high cn cs cd cl) (hh : h < 2 ^ 29) (hp : post (ms_bi (ms_bs (ms_rf es cw una nxt high cn e W) rt 3))) : ∀ k i, i + k = 3 → wX_fastestEligible_4 post B (nI W) (nI R) sent disc st pe he es (ms_im cw) (ms_im rt) (ms_im una) (ms_im nxt) (ms_im high) rn (ms_im cn) (ms_im cs) (ms_im cd) (ms_im cl) (ms_im rd) (ms_im rl) (k + 1) (ms_bi (ms_bs (ms_rf es cw una nxt high cn e W) rt i)) (nI i) := by
  intro k
  induction k with
  | zero =>
    intro i hi
    have e0 : i = 3 := by omega
    subst e0
    exact pk_le 3 3 (fun _ => hp) (fun z => absurd z (by omega))
  | succ k ih =>
    intro i hi
    have g := ih (i + 1) (by omega)
    obtain ⟨c1, c2, c3, c4, _⟩ := hct i (by omega)
    obtain ⟨_, d2, d3, d4⟩ := hwd i (by omega)
    obtain ⟨k8, _⟩ := hch i (by omega)
    refine pk_le 3 i (fun z => absurd z (by omega)) (fun _ => ms_x_ref (by omega) hW hlp c1 c2 (by omega) d2 k8 ?_)
    have hb := ms_bsb (f := ms_rf es cw una nxt high cn e W) (rt := rt) i
    rw [ms_bs] at g
    generalize ms_bs (ms_rf es cw una nxt high cn e W) rt i = b at g hb ⊢
    by_cases q1 : ms_rf es cw una nxt high cn e W i = 0
    · refine br_t q1 ?_
      by_cases q2 : b = 3
      · rw [if_pos ⟨q1, Or.inl q2⟩] at g
        refine br_t (by rw [q2]; exact if_pos rfl) (nm_r (nI_1 i) ?_)
        unfold ms_bi at g
        rw [if_neg (by omega)] at g
        exact g
      · have hb3 : b < 3 := by omega
        have hb' : ms_bi b = nI b := by unfold ms_bi; rw [if_neg q2]
        obtain ⟨_, _, e3, e4⟩ := hwd b hb3
        rw [hb']
        refine br_f (ms_nm1 (by omega)) ⟨pk_in i 3 (by omega), pk_in b 3 hb3, pk_le (rt b) (rt i) (fun z => ?_) (fun z => ?_) (ms_at (by omega)) (ms_at (by omega))⟩
        · rw [if_neg (by omega), hb'] at g
          exact nm_r (nI_1 i) g
        · rw [if_pos ⟨q1, Or.inr z⟩] at g
          unfold ms_bi at g
          rw [if_neg (by omega)] at g
          exact nm_r (nI_1 i) g
    · rw [if_neg (fun z => q1 z.1)] at g
      exact br_f q1 (nm_r (nI_1 i) g)
theorem ms_x_fe {post : Int32 → Prop} {e : Nat} (hW : W ≤ 256) (hlp : ms_lp pe R W e) (hct : ms_ct h es una nxt high rn) (hwd : ms_wd cw rt) (hch : ms_ch W high cn cs cd cl) (hh : h < 2 ^ 29) (hp : post (ms_bi (ms_bs (ms_rf es cw una nxt high cn e W) rt 3))) : wpX_fastestEligible post (ms_X B W R sent disc st pe he es cw rt una nxt high rn cn cs cd cl rd rl) :=
  ⟨4, ms_x_fel hW hlp hct hwd hch hh hp 3 0 rfl⟩
end
