section
variable {B : Int32} {W R : Nat} {sent disc : Int32} {st pe he es : Nat → Int32} {cw rt una nxt high : Nat → Nat} {rn : Nat → Int32} {cn cs cd cl : Nat → Nat} {N : Nat} {ysf yss yds yle : Nat → Nat} {a U : Nat}
/-- the flags below are cleared -/
theorem ms_y_cl {post : Int32 → SY → Prop} {z : Int32} (hR : R ≤ 256) (hp : post z (ms_Y B W R R sent disc st (ms_cl pe 0 R) he es cw rt una nxt high rn cn cs cd cl N ysf yss yds yle)) : ∀ k j, j + k = R → wY_deliver_K post LOC B (nI N) (nI W) (nI R) (nI R) sent disc (k + 1) (nI j) (ms_im rt) es (ms_im cw) (ms_im una) (ms_im nxt) (ms_im high) rn (ms_im cn) (ms_im cs) (ms_im cd) (ms_im cl) (ms_im ysf) (ms_im yss) (ms_im yds) (ms_im yle) st (ms_cl pe 0 j) he := by
  intro k
  induction k with
  | zero =>
    intro j hj
    have e : j = R := by omega
    subst e
    exact pk_le j j (fun _ => hp) (fun z => absurd z (by omega))
  | succ k ih =>
    intro j hj
    have g := ih (j + 1) (by omega)
    rw [← ms_clS pe (Nat.zero_le j)] at g
    exact pk_le R j (fun z => absurd z (by omega)) (fun _ => pk_le 256 j (fun z => absurd z (by omega)) (fun _ => ⟨pk_in j 256 (by omega), nm_r (by rw [nI_clamp (by omega), ms_n0]) (nm_r (nI_1 j) g)⟩))
/-- the rows of a below b are removed -/
theorem ms_y_flt {post : Int32 → SY → Prop} {b N0 : Nat} {sf0 ss0 ds0 le0 : Nat → Nat} (ha : a < 3) (hb : una a = b) (hb2 : b < 2 ^ 31) (h0 : ∀ i, i < N0 → sf0 i < 2 ^ 31 ∧ ss0 i < 2 ^ 31) (hN0 : N0 ≤ 24)
    (H : ∀ (N : Nat) (ysf yss yds yle : Nat → Nat), ms_fi (fun x y => x = a ∧ y < b) N0 sf0 ss0 ds0 le0 0 N ysf yss yds yle → wY_deliver_G post LOC B (nI N) (nI W) (nI U) (nI R) sent disc (ms_im rt) es (ms_im cw) (ms_im una) (ms_im nxt) (ms_im high) rn (ms_im cn) (ms_im cs) (ms_im cd) (ms_im cl) (ms_im ysf) (ms_im yss) (ms_im yds) (ms_im yle) st pe he) :
    ∀ t (N : Nat) (ysf yss yds yle : Nat → Nat), t ≤ 24 → ms_fi (fun x y => x = a ∧ y < b) N0 sf0 ss0 ds0 le0 t N ysf yss yds yle → wY_deliver_F post LOC (t + 1) (nI t - 1) B (nI N) (nI W) (nI U) (nI R) sent disc (ms_im rt) es (ms_im cw) (ms_im una) (ms_im nxt) (ms_im high) rn (ms_im cn) (ms_im cs) (ms_im cd) (ms_im cl) (ms_im ysf) (ms_im yss) (ms_im yds) (ms_im yle) st pe he := by
  intro t
  induction t with
  | zero =>
    intro N ysf yss yds yle _ hf
    exact br_t (by decide) (H N ysf yss yds yle hf)
  | succ t ih =>
    intro N ysf yss yds yle ht hf
    have hN : N ≤ 24 := Nat.le_trans hf.1 hN0
    rw [nI_pred]
    refine br_f (nI_pos (by omega)) ?_
    have next : (t < N → ¬ (ysf t = a ∧ yss t < b)) → ∀ x, x = nI t + (-1) → wY_deliver_F post LOC (t + 1) x B (nI N) (nI W) (nI U) (nI R) sent disc (ms_im rt) es (ms_im cw) (ms_im una) (ms_im nxt) (ms_im high) rn (ms_im cn) (ms_im cs) (ms_im cd) (ms_im cl) (ms_im ysf) (ms_im yss) (ms_im yds) (ms_im yle) st pe he := fun q => nm_r (ms_mm t) (ih N ysf yss yds yle (by omega) (ms_fik hf q))
    refine pk_le N t (fun z => next (fun z2 => absurd z2 (by omega))) (fun z => ⟨pk_in t 24 (by omega), ?_⟩)
    obtain ⟨j, j1, j2, j3, _⟩ := hf.2.2.2.1 _ _ _ _ ⟨t, z, rfl, rfl, rfl, rfl⟩
    have hbj := h0 j j1
    refine pk_eq (ysf t) a (fun z1 => ⟨pk_in t 24 (by omega), pk_in a 3 ha, ?_⟩) (fun z1 => next (fun _ q => z1 q.1)) (ms_at (by omega)) rfl (by omega) (by omega)
    refine pk_le b (yss t) (fun z2 => next (fun _ q => absurd q.2 (by omega))) (fun z2 => ?_) (by rw [ms_at (by omega), hb]) (ms_at (by omega)) hb2 (by omega)
    exact ms_y_rem hN z (nm_r (ms_mm t) (ih _ _ _ _ _ (by omega) (ms_fir hf z ⟨z1, z2⟩)))
end
section
variable {B : Int32} {W R : Nat} {sent disc : Int32} {st pe he es : Nat → Int32} {cw rt una nxt high : Nat → Nat} {rn : Nat → Int32} {cn cs cd cl : Nat → Nat} {N : Nat} {ysf yss yds yle : Nat → Nat} {a U : Nat}
/-- hold, by the reference -/
theorem ms_y_holdl {post : Int32 → SY → Prop} {d l : Nat} (hd : d + l ≤ 256) (H : wY_deliver_P post LOC B (nI N) (nI W) (nI R) (nI R) sent ((ms_hd R B d disc he l).1) (ms_im rt) es (ms_im cw) (ms_im una) (ms_im nxt) (ms_im high) rn (ms_im cn) (ms_im cs) (ms_im cd) (ms_im cl) (ms_im ysf) (ms_im yss) (ms_im yds) (ms_im yle) st pe ((ms_hd R B d disc he l).2)) : ∀ m j, j + m = l → wY_deliver_H post LOC B (nI N) (nI W) (nI R) (nI R) sent (m + 1) (nI j) (ms_hd R B d disc he j).1 (ms_im rt) es (ms_im cw) (ms_im una) (ms_im nxt) (ms_im high) rn (ms_im cn) (ms_im cs) (ms_im cd) (ms_im cl) (ms_im ysf) (ms_im yss) (ms_im yds) (ms_im yle) st pe ((ms_hd R B d disc he j).2) := by
  intro m
  induction m with
  | zero =>
    intro j hj
    have e : j = l := by omega
    subst e
    exact pk_le j j (fun _ => H) (fun z => absurd z (by omega))
  | succ m ih =>
    intro j hj
    have g := ih (j + 1) (by omega)
    refine pk_le l j (fun z => absurd z (by omega)) (fun _ => nm_r (nI_add d j) ?_)
    by_cases c1 : nI (d + j) < nI R
    · rw [ms_hd1 (Or.inl c1)] at g
      exact br_t c1 (nm_e (nm_r (nI_1 j) g))
    · refine br_f c1 ?_
      by_cases c2 : nI R + B ≤ nI (d + j)
      · rw [ms_hd1 (Or.inr (Or.inl c2))] at g
        exact br_t c2 (nm_e (nm_r (nI_1 j) g))
      · refine br_f c2 (br_f (nI_pos (by omega)) (pk_lt 255 (d + j) (fun z => absurd z (by omega)) (fun _ => ⟨pk_in (d + j) 256 (by omega), ?_⟩)))
        by_cases c3 : (ms_hd R B d disc he j).2 (d + j) = 0
        · rw [ms_hd2 (by rintro (z | z | z); exact c1 z; exact c2 z; exact z c3)] at g
          exact br_t (by rw [nI_clamp (by omega)]; exact c3) ⟨pk_in (d + j) 256 (by omega), nm_r (by rw [nI_clamp (by omega), ms_n1]) (nm_r (nI_1 j) g)⟩
        · rw [ms_hd1 (Or.inr (Or.inr c3))] at g
          exact br_f (by rw [nI_clamp (by omega)]; exact c3) (nm_e (nm_r (nI_1 j) g))
/-- the prefix, by the reference -/
theorem ms_y_prel {post : Int32 → SY → Prop} {m : Nat} (hm : ms_px he R m) (H : wY_deliver_Q post LOC (nI m) B (nI N) (nI W) (nI R) (nI (R + m)) sent disc (ms_im rt) es (ms_im cw) (ms_im una) (ms_im nxt) (ms_im high) rn (ms_im cn) (ms_im cs) (ms_im cd) (ms_im cl) (ms_im ysf) (ms_im yss) (ms_im yds) (ms_im yle) st pe (ms_cl he R (R + m))) : ∀ k j, j + k = m → wY_deliver_R post LOC (k + 1) (nI j) (nI j) (nI (R + j)) (ms_im rt) es (ms_im cw) (ms_im una) (ms_im nxt) (ms_im high) rn (ms_im cn) (ms_im cs) (ms_im cd) (ms_im cl) (ms_im ysf) (ms_im yss) (ms_im yds) (ms_im yle) st pe (ms_cl he R (R + j)) := by
  obtain ⟨h1, h2, h3⟩ := hm
  intro k
  induction k with
  | zero =>
    intro j hj
    have e : j = m := by omega
    subst e
    refine pk_le 256 j (fun _ => H) (fun z => pk_le 256 (R + j) (fun _ => H) (fun z => ⟨pk_in (R + j) 256 (by omega), br_t ?_ H⟩))
    rw [nI_clamp (by omega), ms_clo (by omega)]
    rcases h3 with h3 | h3
    · omega
    · exact h3
  | succ k ih =>
    intro j hj
    have g := ih (j + 1) (by omega)
    rw [← Nat.add_assoc, ← ms_clS he (Nat.le_add_right R j)] at g
    refine pk_le 256 j (fun z => absurd z (by omega)) (fun _ => pk_le 256 (R + j) (fun z => absurd z (by omega)) (fun z => ⟨pk_in (R + j) 256 (by omega), br_f ?_ ⟨pk_in (R + j) 256 (by omega), nm_r (by rw [nI_clamp (by omega), ms_n0]) (nm_r (nI_1 (R + j)) (nm_r (nI_1 j) (nm_r (nI_1 j) g)))⟩⟩))
    rw [nI_clamp (by omega), ms_clo (by omega)]
    exact h2 j (by omega)
end
