/-- a call's switch: which field -/
theorem ms_ix {x : Int32} (n : Nat) (hn : n < 2 ^ 31) : (x < 0 ∨ nI n ≤ x) ∨ ∃ j : Nat, j < n ∧ x = nI j := by
  rcases pk_ix x hn with h | h | h
  · exact Or.inl (Or.inl h)
  · exact Or.inl (Or.inr h)
  · exact Or.inr h
theorem ms_x_md {post : Int32 → Prop} {q x y z : Int32} (hq : q < 0 ∨ nI 3 ≤ q) (hp : post (-1)) : wpX_mappingField post q x y z := by
  by_cases h : q < 0
  · exact br_t h hp
  · rcases hq with hq | hq
    · exact absurd hq h
    · exact br_f h (br_t (Int32.lt_of_lt_of_le (show (2 : Int32) < nI 3 by decide) hq) hp)
theorem ms_x_m0 {post : Int32 → Prop} {x y z : Int32} (hp : post x) : wpX_mappingField post (nI 0) x y z := br_f (by decide) (br_f (by decide) (br_t rfl hp))
theorem ms_x_m1 {post : Int32 → Prop} {x y z : Int32} (hp : post y) : wpX_mappingField post (nI 1) x y z := br_f (by decide) (br_f (by decide) (br_f (by decide) (br_t rfl hp)))
theorem ms_x_m2 {post : Int32 → Prop} {x y z : Int32} (hp : post z) : wpX_mappingField post (nI 2) x y z := br_f (by decide) (br_f (by decide) (br_f (by decide) (br_f (by decide) (br_t rfl hp))))
theorem i_vc_subflow {k : Nat} {u : SX} {v : SY} (I : i_Rel k u v) (hk : k + 4 ≤ 2052) (v1 : Int32) (v2 : Int32) : wpX_subflow (fun r => wpY_subflow (fun r' => r' = r ∧ i_Rel (k + 4) u v) v v1 v2) u v1 v2 := by
  have I2 := i_up I
  obtain ⟨B, W, R, sent, disc, st, pe, he, es, cw, rt, una, nxt, high, rn, cn, cs, cd, cl, rd, rl, N, ysf, yss, yds, yle, rfl, rfl, h1, h2, h3, h4, h5, h6⟩ := I
  rcases ms_bd v1 with hb | ⟨a, ha, rfl⟩
  · unfold wpX_subflow
    refine ms_x_nsb hb ?_
    refine br_t rfl ?_
    unfold wpY_subflow
    refine ms_y_nsb hb ?_
    exact br_f (by decide) ⟨rfl, I2⟩
  · unfold wpX_subflow
    refine ms_x_sub ha ?_
    refine br_f (by decide) ?_
    rcases ms_ix (x := v2) 8 (by decide) with hq | ⟨j, hj, rfl⟩
    · have Y : wpY_subflow (fun r' => r' = -1 ∧ i_Rel (k + 4) (ms_X B W R sent disc st pe he es cw rt una nxt high rn cn cs cd cl rd rl) (ms_Y B W R R sent disc st pe he es cw rt una nxt high rn cn cs cd cl N ysf yss yds yle)) (ms_Y B W R R sent disc st pe he es cw rt una nxt high rn cn cs cd cl N ysf yss yds yle) (nI a) v2 := by
        unfold wpY_subflow
        refine ms_y_sub ha ?_
        exact br_t rfl (br_f (fun z => by rw [z] at hq; exact absurd hq (by decide)) (br_f (fun z => by rw [z] at hq; exact absurd hq (by decide)) (br_f (fun z => by rw [z] at hq; exact absurd hq (by decide)) (br_f (fun z => by rw [z] at hq; exact absurd hq (by decide)) (br_f (fun z => by rw [z] at hq; exact absurd hq (by decide)) (br_f (fun z => by rw [z] at hq; exact absurd hq (by decide)) (br_f (fun z => by rw [z] at hq; exact absurd hq (by decide)) (br_f (fun z => by rw [z] at hq; exact absurd hq (by decide)) (⟨rfl, I2⟩)))))))))
      by_cases h : v2 < 0
      · exact br_t h Y
      · rcases hq with hq | hq
        · exact absurd hq h
        · exact br_f h (br_t (Int32.lt_of_lt_of_le (show (7 : Int32) < nI 8 by decide) hq) Y)
    · have hj8 : j = 0 ∨ j = 1 ∨ j = 2 ∨ j = 3 ∨ j = 4 ∨ j = 5 ∨ j = 6 ∨ j = 7 := by omega
      rcases hj8 with rfl | rfl | rfl | rfl | rfl | rfl | rfl | rfl
      · refine br_f (by decide) (br_f (by decide) (br_t rfl (⟨pk_in a 3 ha, ?_⟩)))
        unfold wpY_subflow
        refine ms_y_sub ha ?_
        exact br_t rfl (br_t rfl (⟨pk_in a 3 ha, rfl, I2⟩))
      · refine br_f (by decide) (br_f (by decide) (br_f (by decide) (br_t rfl ?_)))
        refine ms_x_est ha ?_
        by_cases hes : es a = 1
        · rw [if_pos hes]
          refine br_f (by decide) ⟨pk_in a 3 ha, ?_⟩
          unfold wpY_subflow
          refine ms_y_sub ha ?_
          exact br_t rfl (br_f (by decide) (br_t rfl ⟨pk_in a 3 ha, br_t (by rw [nI_clamp (by omega)]; exact hes) ⟨pk_in a 3 ha, rfl, I2⟩⟩))
        · rw [if_neg hes]
          refine br_t rfl ?_
          unfold wpY_subflow
          refine ms_y_sub ha ?_
          exact br_t rfl (br_f (by decide) (br_t rfl ⟨pk_in a 3 ha, br_f (by rw [nI_clamp (by omega)]; exact hes) ⟨rfl, I2⟩⟩))
      · refine br_f (by decide) (br_f (by decide) (br_f (by decide) (br_f (by decide) (br_t rfl (⟨pk_in a 3 ha, ?_⟩)))))
        unfold wpY_subflow
        refine ms_y_sub ha ?_
        exact br_t rfl (br_f (by decide) (br_f (by decide) (br_t rfl (⟨pk_in a 3 ha, rfl, I2⟩))))
      · refine br_f (by decide) (br_f (by decide) (br_f (by decide) (br_f (by decide) (br_f (by decide) (br_t rfl (⟨pk_in a 3 ha, ?_⟩))))))
        unfold wpY_subflow
        refine ms_y_sub ha ?_
        exact br_t rfl (br_f (by decide) (br_f (by decide) (br_f (by decide) (br_t rfl (⟨pk_in a 3 ha, rfl, I2⟩)))))
      · refine br_f (by decide) (br_f (by decide) (br_f (by decide) (br_f (by decide) (br_f (by decide) (br_f (by decide) (br_t rfl (⟨pk_in a 3 ha, ?_⟩)))))))
        unfold wpY_subflow
        refine ms_y_sub ha ?_
        exact br_t rfl (br_f (by decide) (br_f (by decide) (br_f (by decide) (br_f (by decide) (br_t rfl (⟨pk_in a 3 ha, rfl, I2⟩))))))
      · refine br_f (by decide) (br_f (by decide) (br_f (by decide) (br_f (by decide) (br_f (by decide) (br_f (by decide) (br_f (by decide) (br_t rfl (⟨pk_in a 3 ha, ?_⟩))))))))
        unfold wpY_subflow
        refine ms_y_sub ha ?_
        exact br_t rfl (br_f (by decide) (br_f (by decide) (br_f (by decide) (br_f (by decide) (br_f (by decide) (br_t rfl (⟨pk_in a 3 ha, rfl, I2⟩)))))))
      · refine br_f (by decide) (br_f (by decide) (br_f (by decide) (br_f (by decide) (br_f (by decide) (br_f (by decide) (br_f (by decide) (br_f (by decide) (br_t rfl (⟨pk_in a 3 ha, ?_⟩)))))))))
        unfold wpY_subflow
        refine ms_y_sub ha ?_
        exact br_t rfl (br_f (by decide) (br_f (by decide) (br_f (by decide) (br_f (by decide) (br_f (by decide) (br_f (by decide) (br_t rfl (⟨pk_in a 3 ha, rfl, I2⟩))))))))
      · refine br_f (by decide) (br_f (by decide) (br_f (by decide) (br_f (by decide) (br_f (by decide) (br_f (by decide) (br_f (by decide) (br_f (by decide) (br_f (by decide) (br_t rfl (⟨pk_in a 3 ha, ?_⟩))))))))))
        unfold wpY_subflow
        refine ms_y_sub ha ?_
        exact br_t rfl (br_f (by decide) (br_f (by decide) (br_f (by decide) (br_f (by decide) (br_f (by decide) (br_f (by decide) (br_f (by decide) (br_t rfl (⟨pk_in a 3 ha, rfl, I2⟩)))))))))
theorem i_vc_segment {k : Nat} {u : SX} {v : SY} (I : i_Rel k u v) (hk : k + 4 ≤ 2052) (v1 : Int32) (v2 : Int32) (v3 : Int32) : wpX_segment (fun r => wpY_segment (fun r' => r' = r ∧ i_Rel (k + 4) u v) v v1 v2 v3) u v1 v2 v3 := by
  have I2 := i_up I
  obtain ⟨B, W, R, sent, disc, st, pe, he, es, cw, rt, una, nxt, high, rn, cn, cs, cd, cl, rd, rl, N, ysf, yss, yds, yle, rfl, rfl, h1, h2, h3, h4, h5, h6⟩ := I
  rcases ms_bd v1 with hb | ⟨a, ha, rfl⟩
  · unfold wpX_segment
    refine ms_x_nsb hb ?_
    refine br_t rfl ?_
    unfold wpY_segment
    refine ms_y_nsb hb ?_
    exact br_f (by decide) ⟨rfl, I2⟩
  · obtain ⟨k8, _⟩ := h4 a ha
    unfold wpX_segment
    refine ms_x_sub ha ?_
    refine br_f (by decide) ?_
    by_cases hp0 : v2 < 0
    · refine br_t hp0 ?_
      unfold wpY_segment
      refine ms_y_sub ha ?_
      exact br_t rfl (br_t hp0 ⟨rfl, I2⟩)
    · obtain ⟨j, hj, rfl⟩ := nI_of hp0
      refine br_f hp0 ⟨pk_in a 3 ha, pk_lt j (cn a) (fun z => ?_) (fun z => ?_) rfl (ms_at (by omega))⟩
      · refine nm_r (ms_sl a j) ⟨pk_in (a * 8 + j) 24 (by omega), pk_in (a * 8 + j) 24 (by omega), pk_in (a * 8 + j) 24 (by omega), ?_⟩
        rcases ms_ix (x := v3) 3 (by decide) with hq | ⟨f, hf, rfl⟩
        · refine ms_x_md hq ?_
          unfold wpY_segment
          refine ms_y_sub ha ?_
          exact br_t rfl (br_f hp0 ⟨pk_in a 3 ha, pk_lt j (cn a) (fun _ => nm_r (ms_sl a j) (br_f (fun z => by rw [z] at hq; exact absurd hq (by decide)) (br_f (fun z => by rw [z] at hq; exact absurd hq (by decide)) (br_f (fun z => by rw [z] at hq; exact absurd hq (by decide)) (⟨rfl, I2⟩))))) (fun q => absurd q (by omega)) rfl (ms_at (by omega))⟩)
        · have hf3 : f = 0 ∨ f = 1 ∨ f = 2 := by omega
          rcases hf3 with rfl | rfl | rfl
          · refine ms_x_m0 ?_
            unfold wpY_segment
            refine ms_y_sub ha ?_
            exact br_t rfl (br_f hp0 ⟨pk_in a 3 ha, pk_lt j (cn a) (fun _ => nm_r (ms_sl a j) (br_t rfl (⟨pk_in (a * 8 + j) 24 (by omega), rfl, I2⟩))) (fun q => absurd q (by omega)) rfl (ms_at (by omega))⟩)
          · refine ms_x_m1 ?_
            unfold wpY_segment
            refine ms_y_sub ha ?_
            exact br_t rfl (br_f hp0 ⟨pk_in a 3 ha, pk_lt j (cn a) (fun _ => nm_r (ms_sl a j) (br_f (by decide) (br_t rfl (⟨pk_in (a * 8 + j) 24 (by omega), rfl, I2⟩)))) (fun q => absurd q (by omega)) rfl (ms_at (by omega))⟩)
          · refine ms_x_m2 ?_
            unfold wpY_segment
            refine ms_y_sub ha ?_
            exact br_t rfl (br_f hp0 ⟨pk_in a 3 ha, pk_lt j (cn a) (fun _ => nm_r (ms_sl a j) (br_f (by decide) (br_f (by decide) (br_t rfl (⟨pk_in (a * 8 + j) 24 (by omega), rfl, I2⟩))))) (fun q => absurd q (by omega)) rfl (ms_at (by omega))⟩)
      · unfold wpY_segment
        refine ms_y_sub ha ?_
        exact br_t rfl (br_f hp0 ⟨pk_in a 3 ha, pk_lt j (cn a) (fun q => absurd q (by omega)) (fun _ => ⟨rfl, I2⟩) rfl (ms_at (by omega))⟩)
theorem i_vc_record {k : Nat} {u : SX} {v : SY} (I : i_Rel k u v) (hk : k + 4 ≤ 2052) (v1 : Int32) (v2 : Int32) (v3 : Int32) : wpX_record (fun r => wpY_record (fun r' => r' = r ∧ i_Rel (k + 4) u v) v v1 v2 v3) u v1 v2 v3 := by
  have I2 := i_up I
  obtain ⟨B, W, R, sent, disc, st, pe, he, es, cw, rt, una, nxt, high, rn, cn, cs, cd, cl, rd, rl, N, ysf, yss, yds, yle, rfl, rfl, h1, h2, h3, h4, h5, h6⟩ := I
  rcases ms_bd v1 with hb | ⟨a, ha, rfl⟩
  · unfold wpX_record
    refine ms_x_nsb hb ?_
    refine br_t rfl ?_
    unfold wpY_record
    refine ms_y_nsb hb ?_
    exact br_f (by decide) ⟨rfl, I2⟩
  · obtain ⟨c1, c2, c3, c4, _⟩ := h2 a ha
    unfold wpX_record
    refine ms_x_sub ha ?_
    refine br_f (by decide) ?_
    refine ms_x_est ha ?_
    by_cases hes : es a = 1
    · have hes' : es (nI a).toNatClampNeg = 1 := by rw [nI_clamp (by omega)]; exact hes
      have eu : ms_im una (nI a).toNatClampNeg = nI (una a) := ms_at (by omega)
      have eh : ms_im high (nI a).toNatClampNeg = nI (high a) := ms_at (by omega)
      rw [if_pos hes]
      refine br_f (by decide) ⟨pk_in a 3 ha, ?_⟩
      by_cases q1 : v2 < nI (una a)
      · refine br_t (by rw [eu]; exact q1) ?_
        unfold wpY_record
        refine ms_y_sub ha ?_
        exact br_t rfl ⟨pk_in a 3 ha, br_t hes' ⟨pk_in a 3 ha, br_t (by rw [eu]; exact q1) ⟨rfl, I2⟩⟩⟩
      · refine br_f (by rw [eu]; exact q1) ⟨pk_in a 3 ha, ?_⟩
        by_cases q2 : v2 < nI (high a)
        · have hn : ¬ v2 < 0 := fun z => q1 (Int32.lt_of_lt_of_le z (nI_pos' (by omega)))
          obtain ⟨b, hb, rfl⟩ := nI_of hn
          rw [nI_ltI hb (by omega)] at q1 q2
          obtain ⟨j, j1, j2, j3, j4, j5, j6⟩ := ms_k_find h5 ha hes (Nat.not_lt.mp q1) q2
          have hN := h5.1
          have F : ∀ P : Int32 → Prop, P (nI j) → wpY_findRecord P (ms_Y B W R R sent disc st pe he es cw rt una nxt high rn cn cs cd cl N ysf yss yds yle) (nI a) (nI b) := fun P hP => ms_y_find h5.1 j1 j2 j3 j6 (ms_k_b h2 h5 (by omega)) hP
          refine br_t (by rw [eh]; exact nI_lt q2 (by omega)) ?_
          refine ms_x_slot hb ⟨pk_in (a * 8 + b % 8) 24 (by omega), pk_in (a * 8 + b % 8) 24 (by omega), ?_⟩
          rw [ms_at (show a * 8 + b % 8 < 2 ^ 31 by omega), ms_at (show a * 8 + b % 8 < 2 ^ 31 by omega)]
          rcases ms_ix (x := v3) 3 (by decide) with hq | ⟨f, hf, rfl⟩
          · refine ms_x_md hq ?_
            unfold wpY_record
            refine ms_y_sub ha ?_
            refine br_t rfl ⟨pk_in a 3 ha, br_t hes' ⟨pk_in a 3 ha, br_f (by rw [eu]; exact nI_nlt (Nat.not_lt.mp q1) hb) ⟨pk_in a 3 ha, br_t (by rw [eh]; exact nI_lt q2 (by omega)) ?_⟩⟩⟩
            refine F _ ?_
            exact br_t (nI_pos' (by omega)) (br_f (fun z => by rw [z] at hq; exact absurd hq (by decide)) (br_f (fun z => by rw [z] at hq; exact absurd hq (by decide)) (br_f (fun z => by rw [z] at hq; exact absurd hq (by decide)) (⟨rfl, I2⟩))))
          · have hf3 : f = 0 ∨ f = 1 ∨ f = 2 := by omega
            rcases hf3 with rfl | rfl | rfl
            · refine ms_x_m0 ?_
              unfold wpY_record
              refine ms_y_sub ha ?_
              refine br_t rfl ⟨pk_in a 3 ha, br_t hes' ⟨pk_in a 3 ha, br_f (by rw [eu]; exact nI_nlt (Nat.not_lt.mp q1) hb) ⟨pk_in a 3 ha, br_t (by rw [eh]; exact nI_lt q2 (by omega)) ?_⟩⟩⟩
              refine F _ ?_
              exact br_t (nI_pos' (by omega)) (br_t rfl (⟨pk_in j 24 (by omega), by rw [ms_at (by omega), j3], I2⟩))
            · refine ms_x_m1 ?_
              unfold wpY_record
              refine ms_y_sub ha ?_
              refine br_t rfl ⟨pk_in a 3 ha, br_t hes' ⟨pk_in a 3 ha, br_f (by rw [eu]; exact nI_nlt (Nat.not_lt.mp q1) hb) ⟨pk_in a 3 ha, br_t (by rw [eh]; exact nI_lt q2 (by omega)) ?_⟩⟩⟩
              refine F _ ?_
              exact br_t (nI_pos' (by omega)) (br_f (by decide) (br_t rfl (⟨pk_in j 24 (by omega), by rw [ms_at (by omega), j4], I2⟩)))
            · refine ms_x_m2 ?_
              unfold wpY_record
              refine ms_y_sub ha ?_
              refine br_t rfl ⟨pk_in a 3 ha, br_t hes' ⟨pk_in a 3 ha, br_f (by rw [eu]; exact nI_nlt (Nat.not_lt.mp q1) hb) ⟨pk_in a 3 ha, br_t (by rw [eh]; exact nI_lt q2 (by omega)) ?_⟩⟩⟩
              refine F _ ?_
              exact br_t (nI_pos' (by omega)) (br_f (by decide) (br_f (by decide) (br_t rfl (⟨pk_in j 24 (by omega), by rw [ms_at (by omega), j5], I2⟩))))
        · refine br_f (by rw [eh]; exact q2) ?_
          unfold wpY_record
          refine ms_y_sub ha ?_
          exact br_t rfl ⟨pk_in a 3 ha, br_t hes' ⟨pk_in a 3 ha, br_f (by rw [eu]; exact q1) ⟨pk_in a 3 ha, br_f (by rw [eh]; exact q2) ⟨rfl, I2⟩⟩⟩⟩
    · rw [if_neg hes]
      refine br_t rfl ?_
      unfold wpY_record
      refine ms_y_sub ha ?_
      exact br_t rfl ⟨pk_in a 3 ha, br_f (by rw [nI_clamp (by omega)]; exact hes) ⟨rfl, I2⟩⟩
theorem i_vc_conn {k : Nat} {u : SX} {v : SY} (I : i_Rel k u v) (hk : k + 4 ≤ 2052) (v1 : Int32) : wpX_conn (fun r => wpY_conn (fun r' => r' = r ∧ i_Rel (k + 4) u v) v v1) u v1 := by
  have I2 := i_up I
  obtain ⟨B, W, R, sent, disc, st, pe, he, es, cw, rt, una, nxt, high, rn, cn, cs, cd, cl, rd, rl, N, ysf, yss, yds, yle, rfl, rfl, h1, h2, h3, h4, h5, h6⟩ := I
  have hR := h1.1
  have hW := h1.2.1
  rcases ms_ix (x := v1) 9 (by decide) with hq | ⟨j, hj, rfl⟩
  · have Y : wpY_conn (fun r' => r' = -1 ∧ i_Rel (k + 4) (ms_X B W R sent disc st pe he es cw rt una nxt high rn cn cs cd cl rd rl) (ms_Y B W R R sent disc st pe he es cw rt una nxt high rn cn cs cd cl N ysf yss yds yle)) (ms_Y B W R R sent disc st pe he es cw rt una nxt high rn cn cs cd cl N ysf yss yds yle) v1 := br_f (fun z => by rw [z] at hq; exact absurd hq (by decide)) (br_f (fun z => by rw [z] at hq; exact absurd hq (by decide)) (br_f (fun z => by rw [z] at hq; exact absurd hq (by decide)) (br_f (fun z => by rw [z] at hq; exact absurd hq (by decide)) (br_f (fun z => by rw [z] at hq; exact absurd hq (by decide)) (br_f (fun z => by rw [z] at hq; exact absurd hq (by decide)) (br_f (fun z => by rw [z] at hq; exact absurd hq (by decide)) (br_f (fun z => by rw [z] at hq; exact absurd hq (by decide)) (br_f (fun z => by rw [z] at hq; exact absurd hq (by decide)) (⟨rfl, I2⟩)))))))))
    by_cases h : v1 < 0
    · exact br_t h Y
    · rcases hq with hq | hq
      · exact absurd hq h
      · exact br_f h (br_t (Int32.lt_of_lt_of_le (show (8 : Int32) < nI 9 by decide) hq) Y)
  · have hj9 : j = 0 ∨ j = 1 ∨ j = 2 ∨ j = 3 ∨ j = 4 ∨ j = 5 ∨ j = 6 ∨ j = 7 ∨ j = 8 := by omega
    rcases hj9 with rfl | rfl | rfl | rfl | rfl | rfl | rfl | rfl | rfl
    · exact br_f (by decide) (br_f (by decide) (br_t rfl (br_t rfl (⟨rfl, I2⟩))))
    · exact br_f (by decide) (br_f (by decide) (br_f (by decide) (br_t rfl (br_f (by decide) (br_t rfl (⟨rfl, I2⟩))))))
    · exact br_f (by decide) (br_f (by decide) (br_f (by decide) (br_f (by decide) (br_t rfl (br_f (by decide) (br_f (by decide) (br_t rfl (⟨rfl, I2⟩))))))))
    · have hY := ms_y_cp (post := fun r' => r' = nI (ms_cf pe 0 256) ∧ i_Rel (k + 4) (ms_X B W R sent disc st pe he es cw rt una nxt high rn cn cs cd cl rd rl) (ms_Y B W R R sent disc st pe he es cw rt una nxt high rn cn cs cd cl N ysf yss yds yle)) (B := B) (sent := sent) (disc := disc) (st := st) (he := he) (es := es) (cw := cw) (rt := rt) (una := una) (nxt := nxt) (high := high) (rn := rn) (cn := cn) (cs := cs) (cd := cd) (cl := cl) (N := N) (ysf := ysf) (yss := yss) (yds := yds) (yle := yle) hR hW ⟨by rw [ms_cfE hR hW h1.2.2.1], I2⟩ (W - R) 0 (Nat.zero_add _)
      have hY2 : wpY_conn (fun r' => r' = nI (ms_cf pe 0 256) ∧ i_Rel (k + 4) (ms_X B W R sent disc st pe he es cw rt una nxt high rn cn cs cd cl rd rl) (ms_Y B W R R sent disc st pe he es cw rt una nxt high rn cn cs cd cl N ysf yss yds yle)) (ms_Y B W R R sent disc st pe he es cw rt una nxt high rn cn cs cd cl N ysf yss yds yle) (nI 3) := br_f (by decide) (br_f (by decide) (br_f (by decide) (br_t rfl (⟨_, hY⟩))))
      exact br_f (by decide) (br_f (by decide) (br_f (by decide) (br_f (by decide) (br_f (by decide) (br_t rfl (⟨257, ms_x_cp hY2 256 0 rfl⟩))))))
    · have hY2 : wpY_conn (fun r' => r' = nI (ms_cf he 0 256) ∧ i_Rel (k + 4) (ms_X B W R sent disc st pe he es cw rt una nxt high rn cn cs cd cl rd rl) (ms_Y B W R R sent disc st pe he es cw rt una nxt high rn cn cs cd cl N ysf yss yds yle)) (ms_Y B W R R sent disc st pe he es cw rt una nxt high rn cn cs cd cl N ysf yss yds yle) (nI 4) := br_f (by decide) (br_f (by decide) (br_f (by decide) (br_f (by decide) (br_t rfl (⟨257, ms_y_ch ⟨rfl, I2⟩ 256 0 rfl⟩)))))
      exact br_f (by decide) (br_f (by decide) (br_f (by decide) (br_f (by decide) (br_f (by decide) (br_f (by decide) (br_t rfl (⟨257, ms_x_ch hY2 256 0 rfl⟩)))))))
    · exact br_f (by decide) (br_f (by decide) (br_f (by decide) (br_f (by decide) (br_f (by decide) (br_f (by decide) (br_f (by decide) (br_t rfl (br_f (by decide) (br_f (by decide) (br_f (by decide) (br_f (by decide) (br_f (by decide) (br_t rfl (⟨rfl, I2⟩))))))))))))))
    · exact br_f (by decide) (br_f (by decide) (br_f (by decide) (br_f (by decide) (br_f (by decide) (br_f (by decide) (br_f (by decide) (br_f (by decide) (br_t rfl (br_f (by decide) (br_f (by decide) (br_f (by decide) (br_f (by decide) (br_f (by decide) (br_f (by decide) (br_t rfl (⟨rfl, I2⟩))))))))))))))))
    · exact br_f (by decide) (br_f (by decide) (br_f (by decide) (br_f (by decide) (br_f (by decide) (br_f (by decide) (br_f (by decide) (br_f (by decide) (br_f (by decide) (br_t rfl (br_f (by decide) (br_f (by decide) (br_f (by decide) (br_f (by decide) (br_f (by decide) (br_f (by decide) (br_f (by decide) (br_t rfl (⟨rfl, I2⟩))))))))))))))))))
    · have hY2 : wpY_conn (fun r' => r' = nI (ms_cE es 3) ∧ i_Rel (k + 4) (ms_X B W R sent disc st pe he es cw rt una nxt high rn cn cs cd cl rd rl) (ms_Y B W R R sent disc st pe he es cw rt una nxt high rn cn cs cd cl N ysf yss yds yle)) (ms_Y B W R R sent disc st pe he es cw rt una nxt high rn cn cs cd cl N ysf yss yds yle) (nI 8) := br_f (by decide) (br_f (by decide) (br_f (by decide) (br_f (by decide) (br_f (by decide) (br_f (by decide) (br_f (by decide) (br_f (by decide) (br_t rfl (⟨4, ms_y_ce ⟨rfl, I2⟩ 3 0 rfl⟩)))))))))
      exact br_f (by decide) (br_f (by decide) (br_f (by decide) (br_f (by decide) (br_f (by decide) (br_f (by decide) (br_f (by decide) (br_f (by decide) (br_f (by decide) (br_f (by decide) (br_t rfl (⟨4, ms_x_ce hY2 3 0 rfl⟩)))))))))))
theorem i_vc_offset {k : Nat} {u : SX} {v : SY} (I : i_Rel k u v) (hk : k + 4 ≤ 2052) (v1 : Int32) (v2 : Int32) : wpX_offset (fun r => wpY_offset (fun r' => r' = r ∧ i_Rel (k + 4) u v) v v1 v2) u v1 v2 := by
  have I2 := i_up I
  obtain ⟨B, W, R, sent, disc, st, pe, he, es, cw, rt, una, nxt, high, rn, cn, cs, cd, cl, rd, rl, N, ysf, yss, yds, yle, rfl, rfl, h1, h2, h3, h4, h5, h6⟩ := I
  have hR := h1.1
  have hW := h1.2.1
  by_cases hn : v1 < 0
  · exact br_t hn (br_t hn ⟨rfl, I2⟩)
  · obtain ⟨d, hd, rfl⟩ := nI_of hn
    refine br_f hn (pk_lt d 256 (fun hd2 => ?_) (fun hd2 => ?_))
    · have hi : vp_in (nI d) 256 := pk_in d 256 hd2
      rcases ms_ix (x := v2) 4 (by decide) with hq | ⟨j, hj, rfl⟩
      · have Y : wpY_offset (fun r' => r' = -1 ∧ i_Rel (k + 4) (ms_X B W R sent disc st pe he es cw rt una nxt high rn cn cs cd cl rd rl) (ms_Y B W R R sent disc st pe he es cw rt una nxt high rn cn cs cd cl N ysf yss yds yle)) (ms_Y B W R R sent disc st pe he es cw rt una nxt high rn cn cs cd cl N ysf yss yds yle) (nI d) v2 := br_f hn (pk_le d 255 (fun _ => br_f (fun z => by rw [z] at hq; exact absurd hq (by decide)) (br_f (fun z => by rw [z] at hq; exact absurd hq (by decide)) (br_f (fun z => by rw [z] at hq; exact absurd hq (by decide)) (br_f (fun z => by rw [z] at hq; exact absurd hq (by decide)) (⟨rfl, I2⟩))))) (fun z => absurd z (by omega)))
        by_cases h : v2 < 0
        · exact br_t h Y
        · rcases hq with hq | hq
          · exact absurd hq h
          · exact br_f h (br_t (Int32.lt_of_lt_of_le (show (3 : Int32) < nI 4 by decide) hq) Y)
      · have hj4 : j = 0 ∨ j = 1 ∨ j = 2 ∨ j = 3 := by omega
        rcases hj4 with rfl | rfl | rfl | rfl
        · refine br_f (by decide) (br_f (by decide) (br_t rfl (pk_le W d (fun z => ?_) (fun z => ⟨hi, ?_⟩))))
          · exact br_f hn (pk_le d 255 (fun _ => br_t rfl (pk_lt d W (fun q => absurd q (by omega)) (fun _ => ⟨rfl, I2⟩))) (fun z => absurd z (by omega)))
          · exact br_f hn (pk_le d 255 (fun _ => br_t rfl (pk_lt d W (fun _ => ⟨hi, rfl, I2⟩) (fun q => absurd q (by omega)))) (fun z => absurd z (by omega)))
        · refine br_f (by decide) (br_f (by decide) (br_f (by decide) (br_t rfl (pk_le R d (fun z => ?_) (fun z => ⟨hi, ?_⟩)))))
          · exact br_f hn (pk_le d 255 (fun _ => br_f (by decide) (br_t rfl (pk_lt d R (fun q => absurd q (by omega)) (fun _ => ⟨rfl, I2⟩)))) (fun z => absurd z (by omega)))
          · exact br_f hn (pk_le d 255 (fun _ => br_f (by decide) (br_t rfl (pk_lt d R (fun _ => ⟨hi, rfl, I2⟩) (fun q => absurd q (by omega))))) (fun z => absurd z (by omega)))
        · by_cases c : pe d = 0
          · have cc : pe (nI d).toNatClampNeg = 0 := by rw [nI_clamp hd]; exact c
            refine br_f (by decide) (br_f (by decide) (br_f (by decide) (br_f (by decide) (br_t rfl (⟨hi, br_t cc ?_⟩)))))
            exact br_f hn (pk_le d 255 (fun _ => br_f (by decide) (br_f (by decide) (br_t rfl (pk_lt d R (fun _ => ⟨rfl, I2⟩) (fun _ => pk_le W d (fun _ => ⟨rfl, I2⟩) (fun _ => ⟨hi, br_t cc ⟨rfl, I2⟩⟩)))))) (fun z => absurd z (by omega)))
          · have cc : ¬ pe (nI d).toNatClampNeg = 0 := by rw [nI_clamp hd]; exact c
            have hr := h1.2.2.1 d c
            refine br_f (by decide) (br_f (by decide) (br_f (by decide) (br_f (by decide) (br_t rfl (⟨hi, br_f cc ?_⟩)))))
            exact br_f hn (pk_le d 255 (fun _ => br_f (by decide) (br_f (by decide) (br_t rfl (pk_lt d R (fun q => absurd q (by omega)) (fun _ => pk_le W d (fun q => absurd q (by omega)) (fun _ => ⟨hi, br_f cc ⟨rfl, I2⟩⟩)))))) (fun z => absurd z (by omega)))
        · by_cases c : he (nI d).toNatClampNeg = 0
          · refine br_f (by decide) (br_f (by decide) (br_f (by decide) (br_f (by decide) (br_f (by decide) (br_t rfl (⟨hi, br_t c ?_⟩))))))
            exact br_f hn (pk_le d 255 (fun _ => br_f (by decide) (br_f (by decide) (br_f (by decide) (br_t rfl (⟨hi, br_t c ⟨rfl, I2⟩⟩))))) (fun z => absurd z (by omega)))
          · refine br_f (by decide) (br_f (by decide) (br_f (by decide) (br_f (by decide) (br_f (by decide) (br_t rfl (⟨hi, br_f c ?_⟩))))))
            exact br_f hn (pk_le d 255 (fun _ => br_f (by decide) (br_f (by decide) (br_f (by decide) (br_t rfl (⟨hi, br_f c ⟨rfl, I2⟩⟩))))) (fun z => absurd z (by omega)))
    · exact br_f hn (pk_le d 255 (fun z => absurd z (by omega)) (fun _ => ⟨rfl, I2⟩))
