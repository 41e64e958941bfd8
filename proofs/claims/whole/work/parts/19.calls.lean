def i_Rel (k : Nat) (u : SX) (v : SY) : Prop := ms_R (6 * k) 0 u v
theorem i_up {k : Nat} {u : SX} {v : SY} (h : i_Rel k u v) : i_Rel (k + 4) u v := ms_Rup (by omega) (Nat.le_refl 0) h
section
variable {B : Int32} {W R : Nat} {sent disc : Int32} {st pe he es : Nat → Int32} {cw rt una nxt high : Nat → Nat} {rn : Nat → Int32} {cn cs cd cl rd rl : Nat → Nat} {N : Nat} {ysf yss yds yle : Nat → Nat} {a : Nat}
theorem ms_x_refb {post : Int32 → Prop} {x : Int32} (hx : x < 0 ∨ (3 : Int32) ≤ x) (hp : post (-1)) : wpX_refusalOfSend post (ms_X B W R sent disc st pe he es cw rt una nxt high rn cn cs cd cl rd rl) x := by
  unfold wpX_refusalOfSend
  refine ms_x_nsb hx ?_
  exact br_t rfl hp
end
theorem i_vc_write {k : Nat} {u : SX} {v : SY} (I : i_Rel k u v) (hk : k + 4 ≤ 2052) (v1 : Int32) : wpX_write (fun r u' => wpY_write (fun r' v' => r' = r ∧ i_Rel (k + 4) u' v') v v1) u v1 := by
  have I2 := i_up I
  obtain ⟨B, W, R, sent, disc, st, pe, he, es, cw, rt, una, nxt, high, rn, cn, cs, cd, cl, rd, rl, N, ysf, yss, yds, yle, rfl, rfl, h1, h2, h3, h4, h5, h6⟩ := I
  have hW := h1.2.1
  refine pk_eq W 256 (fun z => ?_) (fun z => ?_)
  · exact pk_eq W 256 (fun _ => ⟨rfl, I2⟩) (fun q => absurd z q)
  · by_cases c : nI W - nI R = B
    · exact br_t c (pk_eq W 256 (fun q => absurd q z) (fun _ => br_t c ⟨rfl, I2⟩))
    · refine br_f c ⟨pk_in W 256 (by omega), nm_r (ms_cu (by omega)) ⟨pk_in W 256 (by omega), nm_r (e' := upd pe W 1) (by rw [ms_cu (by omega), ms_n1]) (nm_r (nI_1 W) ?_)⟩⟩
      refine pk_eq W 256 (fun q => absurd q z) (fun _ => br_f c ⟨pk_in W 256 (by omega), nm_r (ms_cu (by omega)) ⟨pk_in W 256 (by omega), nm_r (e' := upd pe W 1) (by rw [ms_cu (by omega), ms_n1]) (nm_r (nI_1 W) ?_)⟩⟩)
      exact ⟨rfl, ms_mk (ms_k_write h1 (by omega)) (ms_ctH (by omega) h2) h3 (ms_chW (by omega) (fun _ _ => Nat.le_refl _) h4) (ms_rcW (by omega) h5) (Nat.zero_le _)⟩
theorem i_vc_send {k : Nat} {u : SX} {v : SY} (I : i_Rel k u v) (hk : k + 4 ≤ 2052) (v1 : Int32) : wpX_send (fun r u' => wpY_send (fun r' v' => r' = r ∧ i_Rel (k + 4) u' v') v v1) u v1 := by
  have I2 := i_up I
  obtain ⟨B, W, R, sent, disc, st, pe, he, es, cw, rt, una, nxt, high, rn, cn, cs, cd, cl, rd, rl, N, ysf, yss, yds, yle, rfl, rfl, h1, h2, h3, h4, h5, h6⟩ := I
  rcases ms_bd v1 with hb | ⟨a, ha, rfl⟩
  · unfold wpX_send
    refine ms_x_refb hb ?_
    refine br_f (by decide) ?_
    unfold wpY_send
    refine ms_y_nsb hb ?_
    exact br_f (by decide) ⟨rfl, I2⟩
  · obtain ⟨e, hlp⟩ := ms_lpE pe h1.1
    obtain ⟨c1, c2, c3, c4, _⟩ := h2 a ha
    obtain ⟨_, d2, _, _⟩ := h3 a ha
    obtain ⟨k8, _⟩ := h4 a ha
    unfold wpX_send
    refine ms_x_ref ha h1.2.1 hlp c1 c2 (by omega) d2 k8 ?_
    by_cases h0 : ms_rf es cw una nxt high cn e W a = 0
    · obtain ⟨l, u', v', _, _, hR, hX, hY⟩ := ms_step ha h1 h2 h3 h4 h5 h6 (by omega) hlp h0
      have hR2 : i_Rel (k + 4) u' v' := ms_Rup (by omega) (Nat.zero_le _) hR
      obtain ⟨_, _, _, _, _, _, _, _, _, _, _, _, _, _, _, _, _, _, _, _, _, _, _, _, _, _, rfl, rfl, _⟩ := hR
      exact br_t h0 (hX _ (hY _ ⟨rfl, hR2⟩))
    · exact br_f h0 (ms_y_s0 ha h1.2.1 hlp c1 c2 (by omega) d2 k8 (fun z => absurd z h0) ⟨rfl, I2⟩)
theorem i_vc_sendAll {k : Nat} {u : SX} {v : SY} (I : i_Rel k u v) (hk : k + 4 ≤ 2052) : wpX_sendAll (fun r u' => wpY_sendAll (fun r' v' => r' = r ∧ i_Rel (k + 4) u' v') v) u := by
  obtain ⟨r, u', v', hR, hX, hY⟩ := ms_all 24 0 (6 * k) u v rfl (by omega) I
  have hR2 : i_Rel (k + 4) u' v' := ms_Rup (by omega) (Nat.le_refl 0) hR
  obtain ⟨B, W, R, sent, disc, st, pe, he, es, cw, rt, una, nxt, high, rn, cn, cs, cd, cl, rd, rl, N, ysf, yss, yds, yle, rfl, rfl, h1, h2, h3, h4, h5, h6⟩ := I
  have gY : ms_lY (fun r' v' => r' = r ∧ i_Rel (k + 4) u' v') 25 0 0 (ms_Y B W R R sent disc st pe he es cw rt una nxt high rn cn cs cd cl N ysf yss yds yle) := by
    have h := hY (fun r' v' => r' = r ∧ i_Rel (k + 4) u' v') ⟨rfl, hR2⟩
    rw [nI_0] at h
    exact h
  have hY2 : wpY_sendAll (fun r' v' => r' = r ∧ i_Rel (k + 4) u' v') (ms_Y B W R R sent disc st pe he es cw rt una nxt high rn cn cs cd cl N ysf yss yds yle) := by
    unfold ms_lY at gY
    exact ⟨25, gY⟩
  have gX : ms_lX (fun r u' => wpY_sendAll (fun r' v' => r' = r ∧ i_Rel (k + 4) u' v') (ms_Y B W R R sent disc st pe he es cw rt una nxt high rn cn cs cd cl N ysf yss yds yle)) 25 0 (ms_X B W R sent disc st pe he es cw rt una nxt high rn cn cs cd cl rd rl) := by
    have h := hX (fun r u' => wpY_sendAll (fun r' v' => r' = r ∧ i_Rel (k + 4) u' v') (ms_Y B W R R sent disc st pe he es cw rt una nxt high rn cn cs cd cl N ysf yss yds yle)) hY2
    rw [nI_0] at h
    exact h
  unfold ms_lX at gX
  exact ⟨25, gX⟩
theorem i_vc_drop {k : Nat} {u : SX} {v : SY} (I : i_Rel k u v) (hk : k + 4 ≤ 2052) (v1 : Int32) : wpX_drop (fun r u' => wpY_drop (fun r' v' => r' = r ∧ i_Rel (k + 4) u' v') v v1) u v1 := by
  have I2 := i_up I
  obtain ⟨B, W, R, sent, disc, st, pe, he, es, cw, rt, una, nxt, high, rn, cn, cs, cd, cl, rd, rl, N, ysf, yss, yds, yle, rfl, rfl, h1, h2, h3, h4, h5, h6⟩ := I
  rcases ms_bd v1 with hb | ⟨a, ha, rfl⟩
  · unfold wpX_drop
    refine ms_x_nsb hb ?_
    refine br_t rfl ?_
    unfold wpY_drop
    refine ms_y_nsb hb ?_
    exact br_f (by decide) ⟨rfl, I2⟩
  · obtain ⟨k8, _⟩ := h4 a ha
    unfold wpX_drop
    refine ms_x_sub ha ?_
    refine br_f (by decide) ⟨pk_in a 3 ha, pk_eq (cn a) 0 (fun z => ?_) (fun z => ?_) (ms_at (by omega))⟩
    · unfold wpY_drop
      refine ms_y_sub ha ?_
      exact br_t rfl ⟨pk_in a 3 ha, pk_eq (cn a) 0 (fun _ => ⟨rfl, I2⟩) (fun q => absurd z q) (ms_at (by omega))⟩
    · refine ms_x_pop ha (by omega) k8 ?_
      unfold wpY_drop
      refine ms_y_sub ha ?_
      refine br_t rfl ⟨pk_in a 3 ha, pk_eq (cn a) 0 (fun q => absurd q z) (fun _ => ?_) (ms_at (by omega))⟩
      exact ms_y_pop ha (by omega) k8 ⟨rfl, ms_mk h1 (ms_ctH (by omega) h2) h3 (ms_ch_pop h4 ha (by omega)) h5 (Nat.zero_le _)⟩
theorem i_vc_duplicate {k : Nat} {u : SX} {v : SY} (I : i_Rel k u v) (hk : k + 4 ≤ 2052) (v1 : Int32) : wpX_duplicate (fun r u' => wpY_duplicate (fun r' v' => r' = r ∧ i_Rel (k + 4) u' v') v v1) u v1 := by
  have I2 := i_up I
  obtain ⟨B, W, R, sent, disc, st, pe, he, es, cw, rt, una, nxt, high, rn, cn, cs, cd, cl, rd, rl, N, ysf, yss, yds, yle, rfl, rfl, h1, h2, h3, h4, h5, h6⟩ := I
  rcases ms_bd v1 with hb | ⟨a, ha, rfl⟩
  · unfold wpX_duplicate
    refine ms_x_nsb hb ?_
    refine br_t rfl ?_
    unfold wpY_duplicate
    refine ms_y_nsb hb ?_
    exact br_f (by decide) ⟨rfl, I2⟩
  · obtain ⟨k8, hs⟩ := h4 a ha
    unfold wpX_duplicate
    refine ms_x_sub ha ?_
    refine br_f (by decide) ⟨pk_in a 3 ha, pk_eq (cn a) 0 (fun z => ?_) (fun z => ⟨pk_in a 3 ha, pk_eq (cn a) 8 (fun z2 => ?_) (fun z2 => ?_) (ms_at (by omega))⟩) (ms_at (by omega))⟩
    · unfold wpY_duplicate
      refine ms_y_sub ha ?_
      exact br_t rfl ⟨pk_in a 3 ha, pk_eq (cn a) 0 (fun _ => ⟨rfl, I2⟩) (fun q => absurd z q) (ms_at (by omega))⟩
    · unfold wpY_duplicate
      refine ms_y_sub ha ?_
      exact br_t rfl ⟨pk_in a 3 ha, pk_eq (cn a) 0 (fun q => absurd q z) (fun _ => ⟨pk_in a 3 ha, pk_lt (cn a) 8 (fun q => absurd q (by omega)) (fun _ => ⟨rfl, I2⟩) (ms_at (by omega))⟩) (ms_at (by omega))⟩
    · have h0 := hs 0 (by omega)
      rw [Nat.add_zero (a * 8)] at h0
      refine nm_r (ms_m8 a) ⟨pk_in (a * 8) 24 (by omega), pk_in (a * 8) 24 (by omega), pk_in (a * 8) 24 (by omega), ?_⟩
      rw [ms_at (by omega), ms_at (by omega), ms_at (by omega)]
      refine ms_x_app ha (by omega) ?_
      unfold wpY_duplicate
      refine ms_y_sub ha ?_
      refine br_t rfl ⟨pk_in a 3 ha, pk_eq (cn a) 0 (fun q => absurd q z) (fun _ => ⟨pk_in a 3 ha, pk_lt (cn a) 8 (fun _ => ?_) (fun q => absurd q (by omega)) (ms_at (by omega))⟩) (ms_at (by omega))⟩
      refine nm_r (ms_m8 a) ⟨pk_in (a * 8) 24 (by omega), pk_in (a * 8) 24 (by omega), pk_in (a * 8) 24 (by omega), ?_⟩
      rw [ms_at (by omega), ms_at (by omega), ms_at (by omega)]
      exact ms_y_push ha (by omega) ⟨rfl, ms_mk h1 (ms_ctH (by omega) h2) h3 (ms_ch_push h4 ha (by omega) h0.1 h0.2) h5 (Nat.zero_le _)⟩
section
variable {B : Int32} {W R : Nat} {sent disc : Int32} {st pe he es : Nat → Int32} {cw rt una nxt high : Nat → Nat} {rn : Nat → Int32} {cn cs cd cl rd rl : Nat → Nat} {N : Nat} {ysf yss yds yle : Nat → Nat} {a : Nat}
theorem ms_x_60 {post : Int32 → SX → Prop} {c : Nat} (ha : a < 3) (hp : post 1 (ms_X B W R sent disc st pe he es (ms_un cw a c) rt una (ms_un nxt a (una a)) high rn cn cs cd cl rd rl)) : wX_timeout_60 post (nI a) (nI c) (nI a) B (nI W) (nI R) sent disc st pe he es (ms_im cw) (ms_im rt) (ms_im una) (ms_im nxt) (ms_im high) rn (ms_im cn) (ms_im cs) (ms_im cd) (ms_im cl) (ms_im rd) (ms_im rl) :=
  ⟨pk_in a 3 ha, nm_r (ms_up (by omega)) ⟨pk_in a 3 ha, pk_in a 3 ha, nm_r (by rw [ms_at (by omega)]; exact ms_up (by omega)) hp⟩⟩
theorem ms_y_63 {post : Int32 → SY → Prop} {c : Nat} (ha : a < 3) (hp : post 1 (ms_Y B W R R sent disc st pe he es (ms_un cw a c) rt una (ms_un nxt a (una a)) high rn cn cs cd cl N ysf yss yds yle)) : wY_timeout_63 post (nI a) (nI c) (nI a) B (nI N) (nI W) (nI R) (nI R) sent disc (ms_im rt) es (ms_im cw) (ms_im una) (ms_im nxt) (ms_im high) rn (ms_im cn) (ms_im cs) (ms_im cd) (ms_im cl) (ms_im ysf) (ms_im yss) (ms_im yds) (ms_im yle) st pe he :=
  ⟨pk_in a 3 ha, nm_r (ms_up (by omega)) ⟨pk_in a 3 ha, pk_in a 3 ha, nm_r (by rw [ms_at (by omega)]; exact ms_up (by omega)) hp⟩⟩
theorem ms_x_to {post : Int32 → SX → Prop} (ha : a < 3) (hes : es a = 1) (hc : cw a ≤ 4096) (hh : high a < 2 ^ 30) (hu : una a < high a) (hp : post 1 (ms_X B W R sent disc st pe he es (ms_un cw a (if cw a / 2 < 256 then 256 else cw a / 2)) rt una (ms_un nxt a (una a)) high rn cn cs cd cl rd rl)) : wpX_timeout post (ms_X B W R sent disc st pe he es cw rt una nxt high rn cn cs cd cl rd rl) (nI a) := by
  unfold wpX_timeout
  refine ms_x_sub ha ?_
  refine br_f (by decide) ?_
  refine ms_x_est ha ?_
  rw [if_pos hes]
  refine br_f (by decide) ⟨pk_in a 3 ha, pk_in a 3 ha, pk_eq (high a) (una a) (fun z => absurd z (by omega)) (fun _ => ⟨pk_in a 3 ha, by decide, nm_r (e' := nI (cw a / 2)) ?_ ?_⟩) (ms_at (by omega)) (ms_at (by omega))⟩
  · rw [ms_at (by omega)]
    exact pk_div (d := 2) (by omega) (by decide) (by decide)
  · refine pk_le 256 (cw a / 2) (fun z => ?_) (fun z => ?_)
    · rw [if_neg (by omega)] at hp
      exact ms_x_60 ha hp
    · rw [if_pos z] at hp
      exact ms_x_60 ha hp
theorem ms_y_to {post : Int32 → SY → Prop} (ha : a < 3) (hes : es a = 1) (hc : cw a ≤ 4096) (hh : high a < 2 ^ 30) (hu : una a < high a) (hp : post 1 (ms_Y B W R R sent disc st pe he es (ms_un cw a (if cw a / 2 < 256 then 256 else cw a / 2)) rt una (ms_un nxt a (una a)) high rn cn cs cd cl N ysf yss yds yle)) : wpY_timeout post (ms_Y B W R R sent disc st pe he es cw rt una nxt high rn cn cs cd cl N ysf yss yds yle) (nI a) := by
  unfold wpY_timeout
  refine ms_y_sub ha ?_
  refine br_t rfl ⟨pk_in a 3 ha, br_t (by rw [nI_clamp (by omega)]; exact hes) ⟨pk_in a 3 ha, pk_in a 3 ha, pk_eq (high a) (una a) (fun z => absurd z (by omega)) (fun _ => ⟨pk_in a 3 ha, by decide, nm_r (e' := nI (cw a / 2)) ?_ ?_⟩) (ms_at (by omega)) (ms_at (by omega))⟩⟩
  · rw [ms_at (by omega)]
    exact pk_div (d := 2) (by omega) (by decide) (by decide)
  · refine pk_le 256 (cw a / 2) (fun z => ?_) (fun z => ?_)
    · rw [if_neg (by omega)] at hp
      exact ms_y_63 ha hp
    · rw [if_pos z] at hp
      exact ms_y_63 ha hp
end
theorem i_vc_timeout {k : Nat} {u : SX} {v : SY} (I : i_Rel k u v) (hk : k + 4 ≤ 2052) (v1 : Int32) : wpX_timeout (fun r u' => wpY_timeout (fun r' v' => r' = r ∧ i_Rel (k + 4) u' v') v v1) u v1 := by
  have I2 := i_up I
  obtain ⟨B, W, R, sent, disc, st, pe, he, es, cw, rt, una, nxt, high, rn, cn, cs, cd, cl, rd, rl, N, ysf, yss, yds, yle, rfl, rfl, h1, h2, h3, h4, h5, h6⟩ := I
  rcases ms_bd v1 with hb | ⟨a, ha, rfl⟩
  · unfold wpX_timeout
    refine ms_x_nsb hb ?_
    refine br_t rfl ?_
    unfold wpY_timeout
    refine ms_y_nsb hb ?_
    exact br_f (by decide) ⟨rfl, I2⟩
  · obtain ⟨c1, c2, c3, c4, _⟩ := h2 a ha
    obtain ⟨d1, d2, _, _⟩ := h3 a ha
    by_cases hes : es a = 1
    · by_cases hu : high a = una a
      · unfold wpX_timeout
        refine ms_x_sub ha ?_
        refine br_f (by decide) ?_
        refine ms_x_est ha ?_
        rw [if_pos hes]
        refine br_f (by decide) ⟨pk_in a 3 ha, pk_in a 3 ha, pk_eq (high a) (una a) (fun _ => ?_) (fun z => absurd hu z) (ms_at (by omega)) (ms_at (by omega))⟩
        unfold wpY_timeout
        refine ms_y_sub ha ?_
        exact br_t rfl ⟨pk_in a 3 ha, br_t (by rw [nI_clamp (by omega)]; exact hes) ⟨pk_in a 3 ha, pk_in a 3 ha, pk_eq (high a) (una a) (fun _ => ⟨rfl, I2⟩) (fun z => absurd hu z) (ms_at (by omega)) (ms_at (by omega))⟩⟩
      · have hb : 256 ≤ (if cw a / 2 < 256 then 256 else cw a / 2) ∧ (if cw a / 2 < 256 then 256 else cw a / 2) ≤ 4096 := by split <;> omega
        exact ms_x_to ha hes d2 (by omega) (by omega) (ms_y_to ha hes d2 (by omega) (by omega) ⟨rfl, ms_mk h1 (ms_ctH (by omega) (ms_k_to h2)) (ms_k_wd h3 hb.1 hb.2) h4 h5 (Nat.zero_le _)⟩)
    · unfold wpX_timeout
      refine ms_x_sub ha ?_
      refine br_f (by decide) ?_
      refine ms_x_est ha ?_
      rw [if_neg hes]
      refine br_t rfl ?_
      unfold wpY_timeout
      refine ms_y_sub ha ?_
      exact br_t rfl ⟨pk_in a 3 ha, br_f (by rw [nI_clamp (by omega)]; exact hes) ⟨rfl, I2⟩⟩
theorem i_vc_fail {k : Nat} {u : SX} {v : SY} (I : i_Rel k u v) (hk : k + 4 ≤ 2052) (v1 : Int32) : wpX_fail (fun r u' => wpY_fail (fun r' v' => r' = r ∧ i_Rel (k + 4) u' v') v v1) u v1 := by
  have I2 := i_up I
  obtain ⟨B, W, R, sent, disc, st, pe, he, es, cw, rt, una, nxt, high, rn, cn, cs, cd, cl, rd, rl, N, ysf, yss, yds, yle, rfl, rfl, h1, h2, h3, h4, h5, h6⟩ := I
  rcases ms_bd v1 with hb | ⟨a, ha, rfl⟩
  · unfold wpX_fail
    refine ms_x_nsb hb ?_
    refine br_t rfl ?_
    unfold wpY_fail
    refine ms_y_nsb hb ?_
    exact br_f (by decide) ⟨rfl, I2⟩
  · obtain ⟨c1, c2, c3, c4, _⟩ := h2 a ha
    have hW := h1.2.1
    have hR := h1.1
    by_cases hes : es a = 1
    · refine ms_x_fail ha hes (by omega) (by omega) (ms_xrE h5) hW (by omega) ?_
      rw [ms_fxy pe h5 ha hes (by omega)]
      refine ms_y_fail ha hes h5.1 h5.2.1 (fun i hi => ⟨(ms_k_in h5 hi).1, (ms_k_in h5 hi).2.2.2.2⟩) (ms_k_b h2 h5 (by omega)) hW (by omega) (fun N2 sf2 ss2 ds2 le2 hf => ?_)
      exact ⟨rfl, ms_mk (ms_fxw h1 h5) (ms_ctH (by omega) (ms_k_es (by decide) h2)) h3 h4 (ms_rc_fail h5 (by decide) hf) (Nat.zero_le _)⟩
    · unfold wpX_fail
      refine ms_x_sub ha ?_
      refine br_f (by decide) ?_
      refine ms_x_est ha ?_
      rw [if_neg hes]
      refine br_t rfl ?_
      unfold wpY_fail
      refine ms_y_sub ha ?_
      exact br_t rfl ⟨pk_in a 3 ha, br_f (by rw [nI_clamp (by omega)]; exact hes) ⟨rfl, I2⟩⟩
