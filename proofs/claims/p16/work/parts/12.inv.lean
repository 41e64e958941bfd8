def ms_I (h : Nat) (s : Nat → Int32) (W R : Nat) (u : St2) : Prop := ∃ (B sent disc : Int32) (st pe he es : Nat → Int32) (cw rt una nxt high : Nat → Nat) (rn : Nat → Int32) (cn cs cd cl rd rl : Nat → Nat),
  u = (ms_X B W R sent disc st pe he es cw rt una nxt high rn cn cs cd cl rd rl) ∧ ms_fg R W pe he ∧ ms_ct h es una nxt high rn ∧ ms_wd cw rt ∧ ms_ch W high cn cs cd cl ∧ ms_xr W es una high rd rl ∧ (∀ d, d < W → st d = s d)
section
variable {B : Int32} {W R : Nat} {sent disc : Int32} {st pe he es : Nat → Int32} {cw rt una nxt high : Nat → Nat} {rn : Nat → Int32} {cn cs cd cl rd rl : Nat → Nat} {a h : Nat} {s : Nat → Int32} {u : St2}
theorem ms_mI (h1 : ms_fg R W pe he) (h2 : ms_ct h es una nxt high rn) (h3 : ms_wd cw rt) (h4 : ms_ch W high cn cs cd cl) (h5 : ms_xr W es una high rd rl) (h6 : ∀ d, d < W → st d = s d) : ms_I h s W R (ms_X B W R sent disc st pe he es cw rt una nxt high rn cn cs cd cl rd rl) :=
  ⟨B, sent, disc, st, pe, he, es, cw, rt, una, nxt, high, rn, cn, cs, cd, cl, rd, rl, rfl, h1, h2, h3, h4, h5, h6⟩
theorem ms_Iup {h' : Nat} (hh : h ≤ h') (I : ms_I h s W R u) : ms_I h' s W R u := by
  obtain ⟨B, sent, disc, st, pe, he, es, cw, rt, una, nxt, high, rn, cn, cs, cd, cl, rd, rl, rfl, h1, h2, h3, h4, h5, h6⟩ := I
  exact ms_mI h1 (ms_ctH hh h2) h3 h4 h5 h6
theorem ms_IW (I : ms_I h s W R u) : R ≤ W ∧ W ≤ 256 := by
  obtain ⟨B, sent, disc, st, pe, he, es, cw, rt, una, nxt, high, rn, cn, cs, cd, cl, rd, rl, rfl, h1, h2, h3, h4, h5, h6⟩ := I
  exact ⟨h1.1, h1.2.1⟩
theorem ms_xrW {W' : Nat} (hW : W ≤ W') (H : ms_xr W es una high rd rl) : ms_xr W' es una high rd rl := by
  intro a b w1 w2 w3 w4
  obtain ⟨g1, g2, g3⟩ := H a b w1 w2 w3 w4
  exact ⟨g1, g2, by omega⟩
theorem ms_xr_ack (H : ms_xr W es una high rd rl) : ms_xr W es (ms_un una a (una a + 1)) high rd rl := by
  intro i b w1 w2 w3 w4
  refine H i b w1 w2 ?_ w4
  by_cases e : i = a
  · subst e
    rw [ms_us] at w3
    omega
  · rw [ms_uo e] at w3
    exact w3
theorem ms_xr_es {z : Int32} (hz : z ≠ 1) (H : ms_xr W es una high rd rl) : ms_xr W (upd es a z) una high rd rl := by
  intro i b w1 w2 w3 w4
  refine H i b w1 ?_ w3 w4
  by_cases e : i = a
  · subst e
    rw [pk_us] at w2
    exact absurd w2 hz
  · rw [pk_un e] at w2
    exact w2
theorem ms_xr_new (H : ms_xr W es una high rd rl) (hr : high a < una a + 8) {d l : Nat} (hl1 : 1 ≤ l) (hl4 : l ≤ 4) (hW : d + l ≤ W) : ms_xr W es una (ms_un high a (high a + 1)) (ms_un rd (a * 8 + high a % 8) d) (ms_un rl (a * 8 + high a % 8) l) := by
  intro i b w1 w2 w3 w4
  by_cases e : i = a ∧ b = high a
  · obtain ⟨q1, q2⟩ := e
    subst q1 q2
    rw [ms_us, ms_us]
    exact ⟨hl1, hl4, hW⟩
  · have w4' : b < high i := by
      by_cases ea : i = a
      · subst ea
        rw [ms_us] at w4
        have : b ≠ high i := fun eb => e ⟨rfl, eb⟩
        omega
      · rw [ms_uo ea] at w4
        exact w4
    have hk : i * 8 + b % 8 ≠ a * 8 + high a % 8 := by
      apply ms_slot
      rintro ⟨q1, q2⟩
      rw [q1] at w3 w4'
      omega
    rw [ms_uo hk, ms_uo hk]
    exact H i b w1 w2 w3 w4'
theorem ms_l_write {post : Int32 → St2 → Prop} {b : Int32} (I : ms_I h s W R u) (hs : W < 256 → b &&& 255 = s W) (hp : ∀ (r : Int32) (W' : Nat) (u' : St2), ms_I h s W' R u' → post r u') : wpX_write post u b := by
  have I0 := I
  obtain ⟨B, sent, disc, st, pe, he, es, cw, rt, una, nxt, high, rn, cn, cs, cd, cl, rd, rl, rfl, h1, h2, h3, h4, h5, h6⟩ := I
  have hW := h1.2.1
  refine pk_eq W 256 (fun z => hp _ _ _ I0) (fun z => ?_)
  by_cases c : nI W - nI R = B
  · exact br_t c (hp _ _ _ I0)
  · refine br_f c ⟨pk_in W 256 (by omega), nm_r (e' := upd st W (b &&& 255)) (ms_cu (by omega)) ⟨pk_in W 256 (by omega), nm_r (e' := upd pe W 1) (ms_cu (by omega)) (nm_r (nI_1 W) ?_)⟩⟩
    refine hp _ (W + 1) _ (ms_mI (ms_k_write h1 (by omega)) h2 h3 (ms_chW (by omega) (fun _ _ => Nat.le_refl _) h4) (ms_xrW (by omega) h5) (fun d hd => ?_))
    by_cases e : d = W
    · subst e
      rw [pk_us]
      exact hs (by omega)
    · rw [pk_un e]
      exact h6 d (by omega)
theorem ms_l_next {post : Int32 → St2 → Prop} {e : Nat} (ha : a < 3) (h1 : ms_fg R W pe he) (h2 : ms_ct h es una nxt high rn) (h3 : ms_wd cw rt) (h4 : ms_ch W high cn cs cd cl) (h5 : ms_xr W es una high rd rl) (h6 : ∀ d, d < W → st d = s d) (hh : h < 2 ^ 29) (hlp : ms_lp pe R W e) (h0 : ms_rf es cw una nxt high cn e W a = 0) (hp : ∀ (r : Int32) (u' : St2), ms_I (h + 1) s W R u' → post r u') : wpX_sendNext post (ms_X B W R sent disc st pe he es cw rt una nxt high rn cn cs cd cl rd rl) (nI a) := by
  obtain ⟨es1, w1, n8, enW⟩ := ms_rf0 h0
  obtain ⟨c1, c2, c3, c4, _⟩ := h2 a ha
  obtain ⟨k8, _⟩ := h4 a ha
  have f2 := h1.2.1
  have w8 := ms_wib (cw a)
  by_cases hx : nxt a = high a
  · have hl2 := hlp.2.1
    have heW : e < W := by
      have := enW hx
      omega
    obtain ⟨l, hl⟩ := ms_lnE pe (W := W) (d := e) hl2
    have l1 := ms_ln1 hl heW (hlp.2.2.2 heW)
    exact ms_x_next2 ha (by omega) hx (by omega) f2 hlp hl (hp _ _ (ms_mI (ms_k_cl h1 _ _) (ms_k_new h2 hx (by omega)) h3 (ms_ch_push (ms_chW (Nat.le_refl _) (ms_k_le a) h4) ha (by omega) (by rw [ms_us]; omega) hl.2.1) (ms_xr_new h5 (by omega) l1 hl.1 hl.2.1) h6))
  · have hlt : nxt a < high a := by omega
    obtain ⟨r1, r2, r3⟩ := h5 a (nxt a) ha es1 c1 hlt
    exact ms_x_next1 ha (by omega) (by omega) hx (by omega) (hp _ _ (ms_mI h1 (ms_ctH (by omega) (ms_k_send h2 hlt)) h3 (ms_ch_push h4 ha (by omega) hlt r3) h5 h6))
theorem ms_l_send {post : Int32 → St2 → Prop} (I : ms_I h s W R u) (hh : h < 2 ^ 29) (x : Int32) (hp : ∀ (r : Int32) (u' : St2), ms_I (h + 1) s W R u' → post r u') : wpX_send post u x := by
  have I0 : ms_I (h + 1) s W R u := ms_Iup (by omega) I
  obtain ⟨B, sent, disc, st, pe, he, es, cw, rt, una, nxt, high, rn, cn, cs, cd, cl, rd, rl, rfl, h1, h2, h3, h4, h5, h6⟩ := I
  rcases ms_bd x with hb | ⟨a, ha, rfl⟩
  · unfold wpX_send
    refine ms_x_refb hb ?_
    exact br_f (by decide) (hp _ _ I0)
  · obtain ⟨e, hlp⟩ := ms_lpE pe h1.1
    obtain ⟨c1, c2, c3, c4, _⟩ := h2 a ha
    obtain ⟨_, d2, _, _⟩ := h3 a ha
    obtain ⟨k8, _⟩ := h4 a ha
    unfold wpX_send
    refine ms_x_ref ha h1.2.1 hlp c1 c2 (by omega) d2 k8 ?_
    by_cases h0 : ms_rf es cw una nxt high cn e W a = 0
    · refine br_t h0 (ms_l_next ha h1 h2 h3 h4 h5 h6 hh hlp h0 (fun r u' J => ?_))
      have J2 := J
      obtain ⟨_, _, _, _, _, _, _, _, _, _, _, _, _, _, _, _, _, _, _, rfl, _⟩ := J
      exact hp r _ J2
    · exact br_f h0 (hp _ _ I0)
end
def ms_lX (post : Int32 → St2 → Prop) (n : Nat) (x : Int32) (u : St2) : Prop := match u with
  | (q0, q1, q2, q3, q4, q5, q6, q7, q8, q9, q10, q11, q12, q13, q14, q15, q16, q17, q18, q19, q20) => wX_sendAll_2 post n x q0 q1 q2 q3 q4 q5 q6 q7 q8 q9 q10 q11 q12 q13 q14 q15 q16 q17 q18 q19 q20
theorem ms_bi3 : ms_bi 3 = -1 := if_pos rfl
theorem ms_bin {b : Nat} (h : b < 3) : ms_bi b = nI b := if_neg (by omega)
theorem ms_l_all {post : Int32 → St2 → Prop} {s : Nat → Int32} {W R : Nat} : ∀ (m c h : Nat) (u : St2), c + m = 24 → h + m < 2 ^ 29 → ms_I h s W R u → (∀ (r : Int32) (u' : St2), ms_I (h + m) s W R u' → post r u') → ms_lX post (m + 1) (nI c) u := by
  intro m
  induction m with
  | zero =>
    intro c h u hc hh I hp
    have e24 : c = 24 := by omega
    subst e24
    have I0 := I
    obtain ⟨B, sent, disc, st, pe, he, es, cw, rt, una, nxt, high, rn, cn, cs, cd, cl, rd, rl, rfl, h1, h2, h3, h4, h5, h6⟩ := I
    exact pk_le 24 24 (fun _ => hp _ _ I0) (fun z => absurd z (by omega))
  | succ m ih =>
    intro c h u hc hh I hp
    have I0 : ms_I (h + (m + 1)) s W R u := ms_Iup (by omega) I
    obtain ⟨B, sent, disc, st, pe, he, es, cw, rt, una, nxt, high, rn, cn, cs, cd, cl, rd, rl, rfl, h1, h2, h3, h4, h5, h6⟩ := I
    obtain ⟨e, hlp⟩ := ms_lpE pe h1.1
    refine pk_le 24 c (fun z => absurd z (by omega)) (fun _ => ms_x_fe h1.2.1 hlp h2 h3 h4 (by omega) ?_)
    rcases ms_bsb (f := ms_rf es cw una nxt high cn e W) (rt := rt) 3 with hb | ⟨hb, h0⟩
    · rw [hb, ms_bi3]
      exact br_t rfl (hp _ _ I0)
    · rw [ms_bin hb]
      refine br_f (ms_nm1 (by omega)) (ms_l_next hb h1 h2 h3 h4 h5 h6 (by omega) hlp h0 (fun r u' J => ?_))
      have g := ih (c + 1) (h + 1) u' (by omega) (by omega) J (fun r2 u2 J2 => hp r2 u2 (by rw [show h + (m + 1) = h + 1 + m by omega]; exact J2))
      obtain ⟨_, _, _, _, _, _, _, _, _, _, _, _, _, _, _, _, _, _, _, rfl, _⟩ := J
      exact nm_r (nI_1 c) g
theorem ms_l_sendAll {post : Int32 → St2 → Prop} {s : Nat → Int32} {W R h : Nat} {u : St2} (I : ms_I h s W R u) (hh : h + 24 < 2 ^ 29) (hp : ∀ (r : Int32) (u' : St2), ms_I (h + 24) s W R u' → post r u') : wpX_sendAll post u := by
  have g := ms_l_all 24 0 h u rfl hh I hp
  obtain ⟨B, sent, disc, st, pe, he, es, cw, rt, una, nxt, high, rn, cn, cs, cd, cl, rd, rl, rfl, h1, h2, h3, h4, h5, h6⟩ := I
  rw [nI_0] at g
  unfold ms_lX at g
  exact ⟨25, g⟩
