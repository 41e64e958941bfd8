section
variable {B : Int32} {W R : Nat} {sent disc : Int32} {st pe he es : Nat → Int32} {cw rt una nxt high : Nat → Nat} {rn : Nat → Int32} {cn cs cd cl rd rl : Nat → Nat} {a h : Nat} {s : Nat → Int32} {u : St2}
theorem ms_l_drop {post : Int32 → St2 → Prop} (I : ms_I h s W R u) (x : Int32) (hp : ∀ (r : Int32) (u' : St2), ms_I h s W R u' → post r u') : wpX_drop post u x := by
  have I0 := I
  obtain ⟨B, sent, disc, st, pe, he, es, cw, rt, una, nxt, high, rn, cn, cs, cd, cl, rd, rl, rfl, h1, h2, h3, h4, h5, h6⟩ := I
  unfold wpX_drop
  rcases ms_bd x with hb | ⟨a, ha, rfl⟩
  · refine ms_x_nsb hb ?_
    exact br_t rfl (hp _ _ I0)
  · obtain ⟨k8, _⟩ := h4 a ha
    refine ms_x_sub ha ?_
    refine br_f (by decide) ⟨pk_in a 3 ha, pk_eq (cn a) 0 (fun z => hp _ _ I0) (fun z => ?_) (ms_at (by omega))⟩
    exact ms_x_pop ha (by omega) k8 (hp _ _ (ms_mI h1 h2 h3 (ms_ch_pop h4 ha (by omega)) h5 h6))
theorem ms_l_dup {post : Int32 → St2 → Prop} (I : ms_I h s W R u) (x : Int32) (hp : ∀ (r : Int32) (u' : St2), ms_I h s W R u' → post r u') : wpX_duplicate post u x := by
  have I0 := I
  obtain ⟨B, sent, disc, st, pe, he, es, cw, rt, una, nxt, high, rn, cn, cs, cd, cl, rd, rl, rfl, h1, h2, h3, h4, h5, h6⟩ := I
  unfold wpX_duplicate
  rcases ms_bd x with hb | ⟨a, ha, rfl⟩
  · refine ms_x_nsb hb ?_
    exact br_t rfl (hp _ _ I0)
  · obtain ⟨k8, hs⟩ := h4 a ha
    refine ms_x_sub ha ?_
    refine br_f (by decide) ⟨pk_in a 3 ha, pk_eq (cn a) 0 (fun z => hp _ _ I0) (fun z => ⟨pk_in a 3 ha, pk_eq (cn a) 8 (fun z2 => hp _ _ I0) (fun z2 => ?_) (ms_at (by omega))⟩) (ms_at (by omega))⟩
    have h0 := hs 0 (by omega)
    rw [Nat.add_zero (a * 8)] at h0
    refine nm_r (ms_m8 a) ⟨pk_in (a * 8) 24 (by omega), pk_in (a * 8) 24 (by omega), pk_in (a * 8) 24 (by omega), ?_⟩
    rw [ms_at (by omega), ms_at (by omega), ms_at (by omega)]
    exact ms_x_app ha (by omega) (hp _ _ (ms_mI h1 h2 h3 (ms_ch_push h4 ha (by omega) h0.1 h0.2) h5 h6))
theorem ms_l_to {post : Int32 → St2 → Prop} (I : ms_I h s W R u) (hh : h < 2 ^ 29) (x : Int32) (hp : ∀ (r : Int32) (u' : St2), ms_I h s W R u' → post r u') : wpX_timeout post u x := by
  have I0 := I
  obtain ⟨B, sent, disc, st, pe, he, es, cw, rt, una, nxt, high, rn, cn, cs, cd, cl, rd, rl, rfl, h1, h2, h3, h4, h5, h6⟩ := I
  rcases ms_bd x with hb | ⟨a, ha, rfl⟩
  · unfold wpX_timeout
    refine ms_x_nsb hb ?_
    exact br_t rfl (hp _ _ I0)
  · obtain ⟨c1, c2, c3, c4, _⟩ := h2 a ha
    obtain ⟨d1, d2, _, _⟩ := h3 a ha
    by_cases hes : es a = 1
    · by_cases hu : high a = una a
      · unfold wpX_timeout
        refine ms_x_sub ha ?_
        refine br_f (by decide) ?_
        refine ms_x_est ha ?_
        rw [if_pos hes]
        exact br_f (by decide) ⟨pk_in a 3 ha, pk_in a 3 ha, pk_eq (high a) (una a) (fun _ => hp _ _ I0) (fun z => absurd hu z) (ms_at (by omega)) (ms_at (by omega))⟩
      · have hb : 256 ≤ (if cw a / 2 < 256 then 256 else cw a / 2) ∧ (if cw a / 2 < 256 then 256 else cw a / 2) ≤ 4096 := by split <;> omega
        exact ms_x_to ha hes d2 (by omega) (by omega) (hp _ _ (ms_mI h1 (ms_k_to h2) (ms_k_wd h3 hb.1 hb.2) h4 h5 h6))
    · unfold wpX_timeout
      refine ms_x_sub ha ?_
      refine br_f (by decide) ?_
      refine ms_x_est ha ?_
      rw [if_neg hes]
      exact br_t rfl (hp _ _ I0)
theorem ms_l_fail {post : Int32 → St2 → Prop} (I : ms_I h s W R u) (hh : h < 2 ^ 29) (x : Int32) (hp : ∀ (r : Int32) (u' : St2), ms_I h s W R u' → post r u') : wpX_fail post u x := by
  have I0 := I
  obtain ⟨B, sent, disc, st, pe, he, es, cw, rt, una, nxt, high, rn, cn, cs, cd, cl, rd, rl, rfl, h1, h2, h3, h4, h5, h6⟩ := I
  rcases ms_bd x with hb | ⟨a, ha, rfl⟩
  · unfold wpX_fail
    refine ms_x_nsb hb ?_
    exact br_t rfl (hp _ _ I0)
  · obtain ⟨c1, c2, c3, c4, _⟩ := h2 a ha
    have hW := h1.2.1
    have hR := h1.1
    by_cases hes : es a = 1
    · refine ms_x_fail ha hes (by omega) (by omega) h5 hW (by omega) (hp _ _ (ms_mI (ms_k_pt h1 (ms_fxp pe R rd rl a (una a) (high a - una a)) ?_) (ms_k_es (by decide) h2) h3 h4 (ms_xr_es (by decide) h5) h6))
      rintro d ⟨q, q1, q2, q3, q4, q5⟩
      obtain ⟨r1, r2, r3⟩ := h5 a q ha hes q1 (by omega)
      exact ⟨q3, by omega⟩
    · unfold wpX_fail
      refine ms_x_sub ha ?_
      refine br_f (by decide) ?_
      refine ms_x_est ha ?_
      rw [if_neg hes]
      exact br_t rfl (hp _ _ I0)
theorem ms_l_del {post : Int32 → St2 → Prop} (I : ms_I h s W R u) (hh : h < 2 ^ 29) (x : Int32) (hp : ∀ (r : Int32) (m : Nat) (u' : St2), ms_I h s W (R + m) u' → (r < 0 ∨ r = nI m) → post r u') : wpX_deliver post u x := by
  have I0 := I
  obtain ⟨B, sent, disc, st, pe, he, es, cw, rt, una, nxt, high, rn, cn, cs, cd, cl, rd, rl, rfl, h1, h2, h3, h4, h5, h6⟩ := I
  rcases ms_bd x with hb | ⟨a, ha, rfl⟩
  · unfold wpX_deliver
    refine ms_x_nsb hb ?_
    exact br_t rfl (hp _ 0 _ I0 (Or.inl (by decide)))
  · obtain ⟨k8, hsg⟩ := h4 a ha
    by_cases hc0 : cn a = 0
    · unfold wpX_deliver
      refine ms_x_sub ha ?_
      exact br_f (by decide) ⟨pk_in a 3 ha, pk_eq (cn a) 0 (fun _ => hp _ 0 _ I0 (Or.inl (by decide))) (fun z => absurd hc0 z) (ms_at (by omega))⟩
    · have h0 := hsg 0 (by omega)
      rw [Nat.add_zero (a * 8)] at h0
      have hch := ms_ch_pop h4 ha (by omega)
      have hW := h1.2.1
      have hRW := h1.1
      obtain ⟨c1, c2, c3, c4, c5⟩ := h2 a ha
      have hd : cd (a * 8) + cl (a * 8) ≤ 256 := by omega
      by_cases hs : nI (cs (a * 8)) = rn a
      · obtain ⟨m, hm⟩ := ms_pxE (ms_hd R B (cd (a * 8)) disc he (cl (a * 8))).2 (R := R) (by omega)
        have hw := ms_hdW (R := R) (B := B) (d := cd (a * 8)) (q := disc) (p := he) h1.2.2.2 (cl (a * 8)) h0.2
        have hfg := ms_k_pf h1 hw hm
        by_cases hes : es a = 1
        · have rn1 := c5 hes
          have ern : rn a + 1 = nI (una a + 1) := by rw [rn1, nI_1]
          have su : cs (a * 8) = una a := by
            rw [rn1] at hs
            exact (nI_eq (by omega) (by omega)).mp hs
          refine ms_x_de (b := una a + 1) ha (by omega) k8 hs hes h3 ern (by omega) (by omega) hd hm (fun n2 hn2 => ?_)
          rw [ern]
          have hnc := ms_ncb (M := ms_M es cw rt 3) (S := ms_S es cw rt 3) (h3 a ha).1 (h3 a ha).2.1
          exact hp _ m _ (ms_mI hfg (ms_k_ack h2 (by omega) hn2) (ms_k_wd h3 hnc.1 hnc.2) hch (ms_xr_ack h5) h6) (Or.inr rfl)
        · exact ms_x_df ha (by omega) k8 hs hes hd hm (hp _ m _ (ms_mI hfg (ms_k_rn h2 hes) h3 hch h5 h6) (Or.inr rfl))
      · exact ms_x_dn ha (by omega) k8 hs (hp _ 0 _ (ms_mI h1 h2 h3 hch h5 h6) (Or.inr rfl))
theorem ms_l_conn2 {post : Int32 → Prop} (I : ms_I h s W R u) (hp : post (nI R)) : wpX_conn post u 2 := by
  obtain ⟨B, sent, disc, st, pe, he, es, cw, rt, una, nxt, high, rn, cn, cs, cd, cl, rd, rl, rfl, h1, h2, h3, h4, h5, h6⟩ := I
  exact br_f (by decide) (br_f (by decide) (br_f (by decide) (br_f (by decide) (br_t rfl hp))))
theorem ms_l_conn0 {post : Int32 → Prop} (I : ms_I h s W R u) (hp : post (nI W)) : wpX_conn post u 0 := by
  obtain ⟨B, sent, disc, st, pe, he, es, cw, rt, una, nxt, high, rn, cn, cs, cd, cl, rd, rl, rfl, h1, h2, h3, h4, h5, h6⟩ := I
  exact br_f (by decide) (br_f (by decide) (br_t rfl hp))
theorem ms_l_off1 {post : Int32 → Prop} {k : Nat} (I : ms_I h s W R u) (hk : k < R) (hp : post (s k)) : wpX_offset post u (nI k) 1 := by
  obtain ⟨B, sent, disc, st, pe, he, es, cw, rt, una, nxt, high, rn, cn, cs, cd, cl, rd, rl, rfl, h1, h2, h3, h4, h5, h6⟩ := I
  have hW := h1.2.1
  have hR := h1.1
  refine br_f (nI_pos (by omega)) (pk_lt k 256 (fun _ => br_f (by decide) (br_f (by decide) (br_f (by decide) (br_t rfl (pk_le R k (fun z => absurd z (by omega)) (fun _ => ⟨pk_in k 256 (by omega), ?_⟩)))))) (fun z => absurd z (by omega)))
  rw [nI_clamp (show k < 2 ^ 31 by omega), h6 k (by omega)]
  exact hp
theorem ms_l_off0 {post : Int32 → Prop} {k : Nat} (I : ms_I h s W R u) (hk : k < W) (hp : post (s k)) : wpX_offset post u (nI k) 0 := by
  obtain ⟨B, sent, disc, st, pe, he, es, cw, rt, una, nxt, high, rn, cn, cs, cd, cl, rd, rl, rfl, h1, h2, h3, h4, h5, h6⟩ := I
  have hW := h1.2.1
  refine br_f (nI_pos (by omega)) (pk_lt k 256 (fun _ => br_f (by decide) (br_f (by decide) (br_t rfl (pk_le W k (fun z => absurd z (by omega)) (fun _ => ⟨pk_in k 256 (by omega), ?_⟩))))) (fun z => absurd z (by omega)))
  rw [nI_clamp (show k < 2 ^ 31 by omega), h6 k hk]
  exact hp
end
