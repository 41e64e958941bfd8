theorem ms_cpw (P : Int32 → Prop) (x lo hi : Int32) (h : P (ms_cp x lo hi)) : (lo ≤ x → ((x ≤ hi → P x) ∧ (¬ x ≤ hi → P hi))) ∧ (¬ lo ≤ x → P lo) := by
  unfold ms_cp at h
  by_cases c : x < lo
  · rw [if_pos c] at h
    exact br_f (fun z => (Int32.not_le.mpr c) z) h
  · rw [if_neg c] at h
    refine br_t (Int32.not_lt.mp c) ?_
    by_cases c2 : hi < x
    · rw [if_pos c2] at h
      exact br_f (fun z => (Int32.not_le.mpr c2) z) h
    · rw [if_neg c2] at h
      exact br_t (Int32.not_lt.mp c2) h
theorem ms_x_clp {post : Int32 → Prop} {x lo hi : Int32} (hp : post (ms_cp x lo hi)) : wpX_clamp post () x lo hi := ms_cpw post x lo hi hp
def ms_e : Nat → Nat → Int32
  | 0 => ms_im (fun _ => 0)
  | i + 1 => upd (ms_e i) i 1
def ms_c : Nat → Nat → Nat
  | 0 => fun _ => 0
  | i + 1 => ms_un (ms_c i) i 512
theorem ms_z0 (d : Nat) : ms_im (fun _ => 0) d = 0 := nI_0
