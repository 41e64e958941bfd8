theorem i_vc_deliver {k : Nat} {u : SX} {v : SY} (I : i_Rel k u v) (hk : k + 4 ≤ 2052) (v1 : Int32) : wpX_deliver (fun r u' => wpY_deliver (fun r' v' => r' = r ∧ i_Rel (k + 4) u' v') v v1) u v1 := by
  have I2 := i_up I
  obtain ⟨B, W, R, sent, disc, st, pe, he, es, cw, rt, una, nxt, high, rn, cn, cs, cd, cl, rd, rl, N, ysf, yss, yds, yle, rfl, rfl, h1, h2, h3, h4, h5, h6⟩ := I
  rcases ms_bd v1 with hb | ⟨a, ha, rfl⟩
  · unfold wpX_deliver
    refine ms_x_nsb hb ?_
    refine br_t rfl ?_
    unfold wpY_deliver
    refine ms_y_nsb hb ?_
    exact br_f (by decide) ⟨rfl, I2⟩
  · obtain ⟨k8, hsg⟩ := h4 a ha
    by_cases hc0 : cn a = 0
    · unfold wpX_deliver
      refine ms_x_sub ha ?_
      refine br_f (by decide) ⟨pk_in a 3 ha, pk_eq (cn a) 0 (fun _ => ?_) (fun z => absurd hc0 z) (ms_at (by omega))⟩
      unfold wpY_deliver
      refine ms_y_sub ha ?_
      exact br_t rfl ⟨pk_in a 3 ha, pk_eq (cn a) 0 (fun _ => ⟨rfl, I2⟩) (fun z => absurd hc0 z) (ms_at (by omega))⟩
    · have h0 := hsg 0 (by omega)
      rw [Nat.add_zero (a * 8)] at h0
      have hch := ms_ch_pop h4 ha (by omega)
      have hW := h1.2.1
      have hRW := h1.1
      obtain ⟨c1, c2, c3, c4, c5⟩ := h2 a ha
      have hd : cd (a * 8) + cl (a * 8) ≤ 256 := by omega
      by_cases hs : nI (cs (a * 8)) = rn a
      · obtain ⟨m, hm⟩ := ms_pxE (ms_hd R B (cd (a * 8)) disc he (cl (a * 8))).2 (R := R) (by omega)
        have hw := ms_hdW (R := R) (B := B) (d := cd (a * 8)) (q := disc) (p := he) h1.2.2.2 (cl (a * 8)) h0.2
        have hfg := ms_k_pf h1 hw hm
        have hlow := ms_k_low (m := m) h1
        have hRm : R + m ≤ 256 := hm.1
        by_cases hes : es a = 1
        · have rn1 := c5 hes
          have ern : rn a + 1 = nI (una a + 1) := by rw [rn1, nI_1]
          have su : cs (a * 8) = una a := by
            rw [rn1] at hs
            exact (nI_eq (by omega) (by omega)).mp hs
          refine ms_x_de (b := una a + 1) ha (by omega) k8 hs hes h3 ern (by omega) (by omega) hd hm (fun n2 hn2 => ?_)
          refine ms_y_d0 ha (by omega) k8 (fun _ => ?_) (fun z => absurd hs z)
          refine ms_y_dl hd hm ?_
          refine ms_y_236e (b := una a + 1) ha h3 hes hRm (by rw [pk_us, ern]) (by omega) (by omega) (ms_k_b h2 h5 (by omega)) h5.1 h5.2.1 (fun N2 sf2 ss2 ds2 le2 hfi n3 hn3 => ?_)
          have e23 : n3 = n2 := by
            rcases hn2 with ⟨p1, p2⟩ | ⟨p1, p2⟩
            · rcases hn3 with ⟨q1, q2⟩ | ⟨q1, q2⟩
              · rw [p2, q2]
              · omega
            · rcases hn3 with ⟨q1, q2⟩ | ⟨q1, q2⟩
              · omega
              · rw [p2, q2]
          subst e23
          rw [hlow, ern]
          have hnc := ms_ncb (M := ms_M es cw rt 3) (S := ms_S es cw rt 3) (h3 a ha).1 (h3 a ha).2.1
          exact ⟨rfl, ms_mk hfg (ms_ctH (by omega) (ms_k_ack h2 (by omega) hn2)) (ms_k_wd h3 hnc.1 hnc.2) hch (ms_rc_ack h5 hfi) (Nat.zero_le _)⟩
        · refine ms_x_df ha (by omega) k8 hs hes hd hm ?_
          refine ms_y_d0 ha (by omega) k8 (fun _ => ?_) (fun z => absurd hs z)
          refine ms_y_dl hd hm ?_
          refine ms_y_236f ha hes hRm ?_
          rw [hlow]
          exact ⟨rfl, ms_mk hfg (ms_ctH (by omega) (ms_k_rn h2 hes)) h3 hch h5 (Nat.zero_le _)⟩
      · refine ms_x_dn ha (by omega) k8 hs ?_
        exact ms_y_d0 ha (by omega) k8 (fun z => absurd z hs) (fun _ => ⟨rfl, ms_mk h1 (ms_ctH (by omega) h2) h3 hch h5 (Nat.zero_le _)⟩)
