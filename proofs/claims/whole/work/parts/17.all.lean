def ms_lX (post : Int32 → SX → Prop) (n : Nat) (x : Int32) (u : SX) : Prop := match u with
  | (q0, q1, q2, q3, q4, q5, q6, q7, q8, q9, q10, q11, q12, q13, q14, q15, q16, q17, q18, q19, q20) => wX_sendAll_2 post n x q0 q1 q2 q3 q4 q5 q6 q7 q8 q9 q10 q11 q12 q13 q14 q15 q16 q17 q18 q19 q20
def ms_lY (post : Int32 → SY → Prop) (n : Nat) (x y : Int32) (v : SY) : Prop := match v with
  | (q0, q1, q2, q3, q4, q5, q6, q7, q8, q9, q10, q11, q12, q13, q14, q15, q16, q17, q18, q19, q20, q21, q22, q23, q24) => wY_sendAll_4 post n x y q0 q1 q2 q3 q4 q5 q6 q7 q8 q9 q10 q11 q12 q13 q14 q15 q16 q17 q18 q19 q20 q21 q22 q23 q24
section
variable {B : Int32} {W R : Nat} {sent disc : Int32} {st pe he es : Nat → Int32} {cw rt una nxt high : Nat → Nat} {rn : Nat → Int32} {cn cs cd cl rd rl : Nat → Nat} {N : Nat} {ysf yss yds yle : Nat → Nat} {a h c : Nat}
/-- the fastest, by the reference: E is what is asked behind it -/
theorem ms_y_fel {post : Int32 → SY → Prop} {n : Nat} {e : Nat} (hW : W ≤ 256) (hlp : ms_lp pe R W e) (hct : ms_ct h es una nxt high rn) (hwd : ms_wd cw rt) (hch : ms_ch W high cn cs cd cl) (hh : h < 2 ^ 29) (H : wY_sendAll_15 post (wY_sendAll_4 post n) (nI c) (nI c) B (nI N) (nI W) (nI R) (nI R) sent disc (ms_im rt) es (ms_im cw) (ms_im una) (ms_im nxt) (ms_im high) rn (ms_im cn) (ms_im cs) (ms_im cd) (ms_im cl) (ms_im ysf) (ms_im yss) (ms_im yds) (ms_im yle) st pe he 1 (ms_bi (ms_bs (ms_rf es cw una nxt high cn e W) rt 3)) (nI 3)) : ∀ k i, i + k = 3 → wY_sendAll_15 post (wY_sendAll_4 post n) (nI c) (nI c) B (nI N) (nI W) (nI R) (nI R) sent disc (ms_im rt) es (ms_im cw) (ms_im una) (ms_im nxt) (ms_im high) rn (ms_im cn) (ms_im cs) (ms_im cd) (ms_im cl) (ms_im ysf) (ms_im yss) (ms_im yds) (ms_im yle) st pe he (k + 1) (ms_bi (ms_bs (ms_rf es cw una nxt high cn e W) rt i)) (nI i) := by
  intro k
  induction k with
  | zero =>
    intro i hi
    have e0 : i = 3 := by omega
    subst e0
    exact H
  | succ k ih =>
    intro i hi
    have g := ih (i + 1) (by omega)
    obtain ⟨c1, c2, c3, c4, _⟩ := hct i (by omega)
    obtain ⟨_, d2, d3, d4⟩ := hwd i (by omega)
    obtain ⟨k8, _⟩ := hch i (by omega)
    refine pk_le 3 i (fun z => absurd z (by omega)) (fun _ => ms_y_el (by omega) hW hlp c1 c2 (by omega) d2 k8 ?_)
    have hb := ms_bsb (f := ms_rf es cw una nxt high cn e W) (rt := rt) i
    rw [ms_bs] at g
    generalize ms_bs (ms_rf es cw una nxt high cn e W) rt i = b at g hb ⊢
    by_cases q1 : ms_rf es cw una nxt high cn e W i = 0
    · rw [if_pos q1]
      refine br_f (by decide) ?_
      by_cases q2 : b = 3
      · rw [if_pos ⟨q1, Or.inl q2⟩] at g
        refine br_t (by rw [q2]; exact (show ms_bi 3 < 0 by decide)) (nm_r (nI_1 i) ?_)
        unfold ms_bi at g
        rw [if_neg (by omega)] at g
        exact g
      · have hb3 : b < 3 := by omega
        have hb' : ms_bi b = nI b := by unfold ms_bi; rw [if_neg q2]
        obtain ⟨_, _, e3, e4⟩ := hwd b hb3
        rw [hb']
        refine br_f (nI_pos (by omega)) ⟨pk_in i 3 (by omega), pk_in b 3 hb3, pk_le (rt b) (rt i) (fun z => ?_) (fun z => ?_) (ms_at (by omega)) (ms_at (by omega))⟩
        · rw [if_neg (by omega), hb'] at g
          exact nm_r (nI_1 i) g
        · rw [if_pos ⟨q1, Or.inr z⟩] at g
          unfold ms_bi at g
          rw [if_neg (by omega)] at g
          exact nm_r (nI_1 i) g
    · rw [if_neg q1]
      rw [if_neg (fun z => q1 z.1)] at g
      exact br_t rfl (nm_r (nI_1 i) g)
end
theorem ms_bi3 : ms_bi 3 = -1 := if_pos rfl
theorem ms_bin {b : Nat} (h : b < 3) : ms_bi b = nI b := if_neg (by omega)
theorem ms_all : ∀ (m c h : Nat) (u : SX) (v : SY), c + m = 24 → h + m < 2 ^ 29 → ms_R h c u v → ∃ (r : Int32) (u' : SX) (v' : SY), ms_R (h + m) 0 u' v' ∧ (∀ post : Int32 → SX → Prop, post r u' → ms_lX post (m + 1) (nI c) u) ∧ (∀ post : Int32 → SY → Prop, post r v' → ms_lY post (m + 1) (nI c) (nI c) v) := by
  intro m
  induction m with
  | zero =>
    intro c h u v hc hh I
    have e24 : c = 24 := by omega
    subst e24
    obtain ⟨B, W, R, sent, disc, st, pe, he, es, cw, rt, una, nxt, high, rn, cn, cs, cd, cl, rd, rl, N, ysf, yss, yds, yle, rfl, rfl, h1, h2, h3, h4, h5, h6⟩ := I
    obtain ⟨e, hlp⟩ := ms_lpE pe h1.1
    have hno := ms_smF (es := es) (cw := cw) (high := high) (cn := cn) (e := e) (W := W) (fun i hi => ⟨(h2 i hi).1, by have := h2 i hi; omega⟩) h6
    have hb := ms_bsn (f := ms_rf es cw una nxt high cn e W) (rt := rt) hno 3 (Nat.le_refl 3)
    refine ⟨nI 24, (ms_X B W R sent disc st pe he es cw rt una nxt high rn cn cs cd cl rd rl), (ms_Y B W R R sent disc st pe he es cw rt una nxt high rn cn cs cd cl N ysf yss yds yle), ms_mk h1 h2 h3 h4 h5 (Nat.zero_le _), fun post hp => pk_le 24 24 (fun _ => hp) (fun z => absurd z (by omega)), fun post hp => pk_le 100 24 (fun z => absurd z (by omega)) (fun _ => ⟨4, ms_y_fel h1.2.1 hlp h2 h3 h4 (by omega) ?_ 3 0 rfl⟩)⟩
    rw [hb, ms_bi3]
    exact pk_le 3 3 (fun _ => br_f (by decide) hp) (fun z => absurd z (by omega))
  | succ m ih =>
    intro c h u v hc hh I
    obtain ⟨B, W, R, sent, disc, st, pe, he, es, cw, rt, una, nxt, high, rn, cn, cs, cd, cl, rd, rl, N, ysf, yss, yds, yle, rfl, rfl, h1, h2, h3, h4, h5, h6⟩ := I
    obtain ⟨e, hlp⟩ := ms_lpE pe h1.1
    rcases ms_bsb (f := ms_rf es cw una nxt high cn e W) (rt := rt) 3 with hb | ⟨hb, h0⟩
    · refine ⟨nI c, (ms_X B W R sent disc st pe he es cw rt una nxt high rn cn cs cd cl rd rl), (ms_Y B W R R sent disc st pe he es cw rt una nxt high rn cn cs cd cl N ysf yss yds yle), ms_mk h1 (ms_ctH (by omega) h2) h3 h4 h5 (Nat.zero_le _), fun post hp => pk_le 24 c (fun z => absurd z (by omega)) (fun _ => ?_), fun post hp => pk_le 100 c (fun z => absurd z (by omega)) (fun _ => ⟨4, ms_y_fel h1.2.1 hlp h2 h3 h4 (by omega) ?_ 3 0 rfl⟩)⟩
      · refine ms_x_fe h1.2.1 hlp h2 h3 h4 (by omega) ?_
        rw [hb, ms_bi3]
        exact br_t rfl hp
      · rw [hb, ms_bi3]
        exact pk_le 3 3 (fun _ => br_f (by decide) hp) (fun z => absurd z (by omega))
    · obtain ⟨l, u1, v1, l1, l4, hR1, hX, hY⟩ := ms_step hb h1 h2 h3 h4 h5 h6 (by omega) hlp h0
      obtain ⟨r, u', v', hR', gX, gY⟩ := ih (c + 1) (h + 1) u1 v1 (by omega) (by omega) hR1
      obtain ⟨_, _, _, _, _, _, _, _, _, _, _, _, _, _, _, _, _, _, _, _, _, _, _, _, _, _, rfl, rfl, _⟩ := hR1
      refine ⟨r, u', v', by rw [show h + (m + 1) = h + 1 + m by omega]; exact hR', fun post hp => pk_le 24 c (fun z => absurd z (by omega)) (fun _ => ?_), fun post hp => pk_le 100 c (fun z => absurd z (by omega)) (fun _ => ⟨4, ms_y_fel h1.2.1 hlp h2 h3 h4 (by omega) ?_ 3 0 rfl⟩)⟩
      · refine ms_x_fe h1.2.1 hlp h2 h3 h4 (by omega) ?_
        rw [ms_bin hb]
        exact br_f (ms_nm1 (by omega)) (hX _ (nm_r (nI_1 c) (gX post hp)))
      · rw [ms_bin hb]
        exact pk_le 3 3 (fun _ => br_t (nI_pos' (by omega)) (hY _ (pk_lt 0 l (fun _ => nm_r (nI_1 c) (nm_r (nI_1 c) (gY post hp))) (fun z => absurd z (by omega))))) (fun z => absurd z (by omega))
