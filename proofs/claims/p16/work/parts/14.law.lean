/-- the byte that belongs to an offset -/
def ms_bt (seed x : Int32) : Int32 := (((x * 131) + (seed * 7)) + (((x.toUInt32 >>> ((3 : Int32).toUInt32 &&& Int32.toUInt32 31)).toInt32) * (seed ||| 1))) &&& 255
theorem ms_byte {post : Int32 → Prop} {seed x : Int32} (hp : post (ms_bt seed x)) : wpL_byteAt post () x seed := hp
theorem ms_orb (y x : Int32) : ((y &&& 255) ||| (x <<< ((8 : Int32) &&& 31))) &&& 255 = y &&& 255 := by
  have h := pk_and ((y &&& 255) ||| (x <<< ((8 : Int32) &&& 31))) (m := 255) 8 (by decide)
  have h2 := pk_and y (m := 255) 8 (by decide)
  have h3 := pk_shl x ((8 : Int32) &&& 31) 8 (by decide)
  have e : ((y &&& 255) ||| (x <<< ((8 : Int32) &&& 31))).toBitVec.toNat % 2 ^ 8 = y.toBitVec.toNat % 2 ^ 8 := by
    rw [Int32.toBitVec_or, BitVec.toNat_or, Nat.or_mod_two_pow, h3, h2, pk_tn (by omega)]
    have z : x.toBitVec.toNat * 2 ^ 8 % 2 ^ 32 % 2 ^ 8 = 0 := by omega
    rw [z, Nat.or_zero]
    omega
  rw [h, e, h2]
theorem ms_cell {post : Int32 → Prop} {xs : Nat → Int32} {L : Nat} {p : Int32} (k : Nat) (e : p = nI k) (hk : k < 2 ^ 31) (hL : L < 2 ^ 31) (hp : ∀ y, post y) : wpL_cell post L xs () p := by
  subst e
  exact pk_le L k (fun _ => hp _) (fun z => ⟨pk_in k L z, hp _⟩)
theorem ms_pick {post : Int32 → Prop} {p : Int32} (hp : ∀ y, post y) : wpL_pickSf post () p :=
  nm_e (br_c (fun _ => hp _) (fun _ => ⟨by decide, hp _⟩))
def ms_s (seed : Int32) : Nat → Int32 := fun d => ms_bt seed (nI d)
def ms_J (J : Int32 → Int32 → Int32 → Int32 → Int32 → Int32 → (Nat → Int32) → (Nat → Int32) → (Nat → Int32) → (Nat → Int32) → (Nat → Int32) → (Nat → Int32) → (Nat → Int32) → (Nat → Int32) → (Nat → Int32) → (Nat → Int32) → (Nat → Int32) → (Nat → Int32) → (Nat → Int32) → (Nat → Int32) → (Nat → Int32) → (Nat → Int32) → Prop) (x : Int32) (u : St2) : Prop := match u with
  | (q0, q1, q2, q3, q4, q5, q6, q7, q8, q9, q10, q11, q12, q13, q14, q15, q16, q17, q18, q19, q20) => J x q0 q1 q2 q3 q4 q5 q6 q7 q8 q9 q10 q11 q12 q13 q14 q15 q16 q17 q18 q19 q20
section
variable {B : Int32} {W R : Nat} {sent disc : Int32} {st pe he es : Nat → Int32} {cw rt una nxt high : Nat → Nat} {rn : Nat → Int32} {cn cs cd cl rd rl : Nat → Nat} {a h : Nat} {s : Nat → Int32} {u : St2} {post : Int32 → Prop} {L : Nat} {xs : Nat → Int32} {J : Int32 → Int32 → Int32 → Int32 → Int32 → Int32 → (Nat → Int32) → (Nat → Int32) → (Nat → Int32) → (Nat → Int32) → (Nat → Int32) → (Nat → Int32) → (Nat → Int32) → (Nat → Int32) → (Nat → Int32) → (Nat → Int32) → (Nat → Int32) → (Nat → Int32) → (Nat → Int32) → (Nat → Int32) → (Nat → Int32) → (Nat → Int32) → Prop} {seed x3 x4 x5 x6 x7 : Int32} {kc ks : Nat}
theorem ms_w389 (I : ms_I h (ms_s seed) W R (ms_X B W R sent disc st pe he es cw rt una nxt high rn cn cs cd cl rd rl)) (HJ : J (x5 + 1) B (nI W) (nI R) sent disc st pe he es (ms_im cw) (ms_im rt) (ms_im una) (ms_im nxt) (ms_im high) rn (ms_im cn) (ms_im cs) (ms_im cd) (ms_im cl) (ms_im rd) (ms_im rl)) : ∀ m k, k + m = R → wL_law_389 post L xs J seed x3 x4 x5 (nI R) kc ks B (nI W) (nI R) sent disc st pe he es (ms_im cw) (ms_im rt) (ms_im una) (ms_im nxt) (ms_im high) rn (ms_im cn) (ms_im cs) (ms_im cd) (ms_im cl) (ms_im rd) (ms_im rl) (m + 1) (nI k) := by
  have hw := ms_IW I
  intro m
  induction m with
  | zero =>
    intro k hk
    have e : k = R := by omega
    subst e
    exact pk_le 256 k (fun _ => nm_e HJ) (fun _ => pk_le k k (fun _ => nm_e HJ) (fun z => absurd z (by omega)))
  | succ m ih =>
    intro k hk
    have g := ih (k + 1) (by omega)
    refine pk_le 256 k (fun z => absurd z (by omega)) (fun _ => pk_le R k (fun z => absurd z (by omega)) (fun _ => ?_))
    refine ms_byte ?_
    refine ms_l_off1 I (by omega) ?_
    refine br_t rfl ?_
    refine ms_l_off0 I (by omega) ?_
    exact br_t rfl (nm_r (nI_1 k) g)
theorem ms_w313 {R0 : Nat} {x10 x11 : Int32} (I : ms_I h (ms_s seed) W R (ms_X B W R sent disc st pe he es cw rt una nxt high rn cn cs cd cl rd rl)) (hle : R0 ≤ R) (hx : (x10 = 0 ∧ R = R0) ∨ (x10 = 1 ∧ (x11 < 0 ∨ x11 = nI (R - R0)))) (HJ : J (x5 + 1) B (nI W) (nI R) sent disc st pe he es (ms_im cw) (ms_im rt) (ms_im una) (ms_im nxt) (ms_im high) rn (ms_im cn) (ms_im cs) (ms_im cd) (ms_im cl) (ms_im rd) (ms_im rl)) : wL_law_313 post L xs J seed x3 x4 x5 (nI R0) x10 x11 kc ks B (nI W) (nI R) sent disc st pe he es (ms_im cw) (ms_im rt) (ms_im una) (ms_im nxt) (ms_im high) rn (ms_im cn) (ms_im cs) (ms_im cd) (ms_im cl) (ms_im rd) (ms_im rl) := by
  have hw := ms_IW I
  have K : ∃ n, wL_law_389 post L xs J seed x3 x4 x5 (nI R) kc ks B (nI W) (nI R) sent disc st pe he es (ms_im cw) (ms_im rt) (ms_im una) (ms_im nxt) (ms_im high) rn (ms_im cn) (ms_im cs) (ms_im cd) (ms_im cl) (ms_im rd) (ms_im rl) n 0 := ⟨_, ms_w389 I HJ R 0 (Nat.zero_add R)⟩
  unfold wL_law_313
  refine ms_l_conn2 I ?_
  refine ms_l_conn0 I ?_
  refine pk_le R0 R (fun _ => pk_le R W (fun _ => pk_le R 256 (fun _ => ?_) (fun z => absurd z (by omega))) (fun z => absurd z (by omega))) (fun z => absurd z (by omega))
  rcases hx with ⟨e1, e⟩ | ⟨e1, hx⟩
  · exact br_t e1 (pk_eq R R0 (fun _ => K) (fun z => absurd e z))
  · refine br_f (by rw [e1]; decide) ?_
    by_cases c : x11 < 0
    · exact br_t c K
    · rcases hx with hx | hx
      · exact absurd hx c
      · exact br_f c (br_t (by rw [hx, pk_sub hle]) K)
theorem ms_w132 (I : ms_I h (ms_s seed) W R (ms_X B W R sent disc st pe he es cw rt una nxt high rn cn cs cd cl rd rl)) (hh : h + 24 < 2 ^ 29) (HH : ∀ (W' R' : Nat) (u' : St2), ms_I (h + 24) (ms_s seed) W' R' u' → ms_J J (x5 + 1) u') : wL_law_132 post L xs J seed x3 x4 x5 x6 x7 kc ks B (nI W) (nI R) sent disc st pe he es (ms_im cw) (ms_im rt) (ms_im una) (ms_im nxt) (ms_im high) rn (ms_im cn) (ms_im cs) (ms_im cd) (ms_im cl) (ms_im rd) (ms_im rl) := by
  have hw := ms_IW I
  unfold wL_law_132
  refine ms_pick (fun sf => ?_)
  refine ms_l_conn2 I ?_
  refine br_c (fun _ => br_c (fun _ => br_c (fun _ => ?_) (fun _ => br_c (fun _ => br_c (fun _ => ?_) (fun _ => br_c (fun _ => ?_) (fun _ => br_c (fun _ => ?_) (fun _ => br_c (fun _ => ?_) (fun _ => ?_))))) (fun _ => ?_))) (fun _ => ?_)) (fun _ => ?_)
  · refine ms_l_sendAll I hh (fun r u' J' => ?_)
    have HJ := HH _ _ _ (ms_Iup (by omega) J')
    have J2 := J'
    obtain ⟨_, _, _, _, _, _, _, _, _, _, _, _, _, _, _, _, _, _, _, rfl, _⟩ := J'
    exact ms_w313 J2 (Nat.le_refl R) (Or.inl ⟨rfl, rfl⟩) HJ
  · refine ms_l_drop I _ (fun r u' J' => ?_)
    have HJ := HH _ _ _ (ms_Iup (by omega) J')
    have J2 := J'
    obtain ⟨_, _, _, _, _, _, _, _, _, _, _, _, _, _, _, _, _, _, _, rfl, _⟩ := J'
    exact ms_w313 J2 (Nat.le_refl R) (Or.inl ⟨rfl, rfl⟩) HJ
  · refine ms_l_dup I _ (fun r u' J' => ?_)
    have HJ := HH _ _ _ (ms_Iup (by omega) J')
    have J2 := J'
    obtain ⟨_, _, _, _, _, _, _, _, _, _, _, _, _, _, _, _, _, _, _, rfl, _⟩ := J'
    exact ms_w313 J2 (Nat.le_refl R) (Or.inl ⟨rfl, rfl⟩) HJ
  · refine ms_l_to I (by omega) _ (fun r u' J' => ?_)
    have HJ := HH _ _ _ (ms_Iup (by omega) J')
    have J2 := J'
    obtain ⟨_, _, _, _, _, _, _, _, _, _, _, _, _, _, _, _, _, _, _, rfl, _⟩ := J'
    exact ms_w313 J2 (Nat.le_refl R) (Or.inl ⟨rfl, rfl⟩) HJ
  · refine ms_l_fail I (by omega) _ (fun r u' J' => ?_)
    have HJ := HH _ _ _ (ms_Iup (by omega) J')
    have J2 := J'
    obtain ⟨_, _, _, _, _, _, _, _, _, _, _, _, _, _, _, _, _, _, _, rfl, _⟩ := J'
    exact ms_w313 J2 (Nat.le_refl R) (Or.inl ⟨rfl, rfl⟩) HJ
  · refine ms_l_sendAll I hh (fun r u' J' => ?_)
    have HJ := HH _ _ _ (ms_Iup (by omega) J')
    have J2 := J'
    obtain ⟨_, _, _, _, _, _, _, _, _, _, _, _, _, _, _, _, _, _, _, rfl, _⟩ := J'
    exact ms_w313 J2 (Nat.le_refl R) (Or.inl ⟨rfl, rfl⟩) HJ
  · refine ms_l_del I (by omega) _ (fun r m u' J' hr => ?_)
    have HJ := HH _ _ _ (ms_Iup (by omega) J')
    have J2 := J'
    obtain ⟨_, _, _, _, _, _, _, _, _, _, _, _, _, _, _, _, _, _, _, rfl, _⟩ := J'
    refine ms_w313 J2 (Nat.le_add_right R m) (Or.inr ⟨rfl, ?_⟩) HJ
    rw [Nat.add_sub_cancel_left]
    exact hr
  · refine ms_l_send I (by omega) _ (fun r u' J' => ?_)
    have HJ := HH _ _ _ (ms_Iup (by omega) J')
    have J2 := J'
    obtain ⟨_, _, _, _, _, _, _, _, _, _, _, _, _, _, _, _, _, _, _, rfl, _⟩ := J'
    exact ms_w313 J2 (Nat.le_refl R) (Or.inl ⟨rfl, rfl⟩) HJ
  · refine ms_l_conn0 I ?_
    refine ms_byte ?_
    refine ms_l_write I (fun _ => ms_orb _ _) (fun r W' u' J' => ?_)
    have HJ := HH _ _ _ (ms_Iup (by omega) J')
    have J2 := J'
    obtain ⟨_, _, _, _, _, _, _, _, _, _, _, _, _, _, _, _, _, _, _, rfl, _⟩ := J'
    exact ms_w313 J2 (Nat.le_refl R) (Or.inl ⟨rfl, rfl⟩) HJ
end
