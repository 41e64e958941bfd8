section
variable {B : Int32} {W R : Nat} {sent disc : Int32} {st pe he es : Nat → Int32} {cw rt una nxt high : Nat → Nat} {rn : Nat → Int32} {cn cs cd cl rd rl : Nat → Nat} {N : Nat} {ysf yss yds yle : Nat → Nat} {a U : Nat}
/-- the flags below are cleared -/
theorem ms_y_cll {post : Int32 → SY → Prop} {z : Int32} (hR : R ≤ 256) (hp : post z (ms_Y B W R R sent disc st (ms_cl pe 0 R) he es cw rt una nxt high rn cn cs cd cl N ysf yss yds yle)) : ∀ k j, j + k = R → wY_deliver_358 post z B (nI N) (nI W) (nI R) (nI R) sent disc (k + 1) (nI j) (ms_im rt) es (ms_im cw) (ms_im una) (ms_im nxt) (ms_im high) rn (ms_im cn) (ms_im cs) (ms_im cd) (ms_im cl) (ms_im ysf) (ms_im yss) (ms_im yds) (ms_im yle) st (ms_cl pe 0 j) he := by
  intro k
  induction k with
  | zero =>
    intro j hj
    have e : j = R := by omega
    subst e
    exact pk_le j j (fun _ => hp) (fun z => absurd z (by omega))
  | succ k ih =>
    intro j hj
    have g := ih (j + 1) (by omega)
    rw [← ms_clS pe (Nat.zero_le j)] at g
    exact pk_le R j (fun z => absurd z (by omega)) (fun _ => pk_le 256 j (fun z => absurd z (by omega)) (fun _ => ⟨pk_in j 256 (by omega), nm_r (by rw [nI_clamp (by omega), ms_n0]) (nm_r (nI_1 j) g)⟩))
theorem ms_y_cl {post : Int32 → SY → Prop} {z : Int32} (hR : R ≤ 256) (hp : post z (ms_Y B W R R sent disc st (ms_cl pe 0 R) he es cw rt una nxt high rn cn cs cd cl N ysf yss yds yle)) : ∃ n, wY_deliver_358 post z B (nI N) (nI W) (nI R) (nI R) sent disc n 0 (ms_im rt) es (ms_im cw) (ms_im una) (ms_im nxt) (ms_im high) rn (ms_im cn) (ms_im cs) (ms_im cd) (ms_im cl) (ms_im ysf) (ms_im yss) (ms_im yds) (ms_im yle) st pe he := by
  have h := ms_y_cll hR hp R 0 (Nat.zero_add R)
  rw [ms_cl0] at h
  exact ⟨_, h⟩
theorem ms_y_342 {post : Int32 → SY → Prop} {z : Int32} (ha : a < 3) (hwd : ms_wd cw rt) (hes : es a = 1) (hR : R ≤ 256) (hp : post z (ms_Y B W R R sent disc st (ms_cl pe 0 R) he es (ms_un cw a (ms_nc (ms_M es cw rt 3) (ms_S es cw rt 3) (cw a))) rt una nxt high rn cn cs cd cl N ysf yss yds yle)) : wY_deliver_342 post (nI a) z B (nI N) (nI W) (nI U) (nI R) sent disc (ms_im rt) es (ms_im cw) (ms_im una) (ms_im nxt) (ms_im high) rn (ms_im cn) (ms_im cs) (ms_im cd) (ms_im cl) (ms_im ysf) (ms_im yss) (ms_im yds) (ms_im yle) st pe he :=
  ms_y_inc ha hwd hes (ms_y_cl hR hp)
/-- the rows of a below b are removed -/
theorem ms_y_flt {post : Int32 → SY → Prop} {z : Int32} {b N0 : Nat} {sf0 ss0 ds0 le0 : Nat → Nat} (ha : a < 3) (hwd : ms_wd cw rt) (hes : es a = 1) (hR : R ≤ 256) (hb : una a = b) (hb2 : b < 2 ^ 30) (hx : nxt a < 2 ^ 30) (h0 : ∀ i, i < N0 → sf0 i < 2 ^ 31 ∧ ss0 i < 2 ^ 31) (hN0 : N0 ≤ 24)
    (H : ∀ (N : Nat) (ysf yss yds yle : Nat → Nat), ms_fi (fun x y => x = a ∧ y < b) N0 sf0 ss0 ds0 le0 0 N ysf yss yds yle → ∀ n2 : Nat → Nat, ((nxt a < b ∧ n2 = ms_un nxt a b) ∨ (b ≤ nxt a ∧ n2 = nxt)) → post z (ms_Y B W R R sent disc st (ms_cl pe 0 R) he es (ms_un cw a (ms_nc (ms_M es cw rt 3) (ms_S es cw rt 3) (cw a))) rt una n2 high rn cn cs cd cl N ysf yss yds yle)) :
    ∀ t (N : Nat) (ysf yss yds yle : Nat → Nat), t ≤ 24 → ms_fi (fun x y => x = a ∧ y < b) N0 sf0 ss0 ds0 le0 t N ysf yss yds yle → wY_deliver_262 post (nI a) z (t + 1) (nI t - 1) B (nI N) (nI W) (nI U) (nI R) sent disc (ms_im rt) es (ms_im cw) (ms_im una) (ms_im nxt) (ms_im high) rn (ms_im cn) (ms_im cs) (ms_im cd) (ms_im cl) (ms_im ysf) (ms_im yss) (ms_im yds) (ms_im yle) st pe he := by
  intro t
  induction t with
  | zero =>
    intro N ysf yss yds yle _ hf
    refine br_t (by decide) ⟨pk_in a 3 ha, pk_in a 3 ha, pk_le b (nxt a) (fun z => ?_) (fun z => ⟨pk_in a 3 ha, pk_in a 3 ha, nm_r (e' := ms_im (ms_un nxt a b)) (by rw [ms_at (by omega), hb]; exact ms_up (by omega)) ?_⟩) (by rw [ms_at (by omega), hb]) (ms_at (by omega))⟩
    · exact ms_y_342 ha hwd hes hR (H N ysf yss yds yle hf nxt (Or.inr ⟨z, rfl⟩))
    · exact ms_y_342 ha hwd hes hR (H N ysf yss yds yle hf _ (Or.inl ⟨z, rfl⟩))
  | succ t ih =>
    intro N ysf yss yds yle ht hf
    have hN : N ≤ 24 := Nat.le_trans hf.1 hN0
    rw [nI_pred]
    refine br_f (nI_pos (by omega)) ?_
    have next : (t < N → ¬ (ysf t = a ∧ yss t < b)) → ∀ x, x = nI t + (-1) → wY_deliver_262 post (nI a) z (t + 1) x B (nI N) (nI W) (nI U) (nI R) sent disc (ms_im rt) es (ms_im cw) (ms_im una) (ms_im nxt) (ms_im high) rn (ms_im cn) (ms_im cs) (ms_im cd) (ms_im cl) (ms_im ysf) (ms_im yss) (ms_im yds) (ms_im yle) st pe he := fun q => nm_r (ms_mm t) (ih N ysf yss yds yle (by omega) (ms_fik hf q))
    refine pk_le N t (fun z => next (fun z2 => absurd z2 (by omega))) (fun z => ⟨pk_in t 24 (by omega), ?_⟩)
    obtain ⟨j, j1, j2, j3, _⟩ := hf.2.2.2.1 _ _ _ _ ⟨t, z, rfl, rfl, rfl, rfl⟩
    have hbj := h0 j j1
    refine pk_eq (ysf t) a (fun z1 => ⟨pk_in t 24 (by omega), pk_in a 3 ha, ?_⟩) (fun z1 => next (fun _ q => z1 q.1)) (ms_at (by omega)) rfl (by omega) (by omega)
    refine pk_le b (yss t) (fun z2 => next (fun _ q => absurd q.2 (by omega))) (fun z2 => ?_) (by rw [ms_at (by omega), hb]) (ms_at (by omega)) (by omega) (by omega)
    exact ms_y_rem hN z (nm_r (ms_mm t) (ih _ _ _ _ _ (by omega) (ms_fir hf z ⟨z1, z2⟩)))
theorem ms_y_236e {post : Int32 → SY → Prop} {z : Int32} {b : Nat} (ha : a < 3) (hwd : ms_wd cw rt) (hes : es a = 1) (hR : R ≤ 256) (hrn : rn a = nI b) (hb2 : b < 2 ^ 30) (hx : nxt a < 2 ^ 30) (h0 : ∀ i, i < N → ysf i < 2 ^ 31 ∧ yss i < 2 ^ 31) (hN : N ≤ 24) (hu : ms_uq N ysf yss)
    (H : ∀ (N2 : Nat) (sf2 ss2 ds2 le2 : Nat → Nat), ms_fi (fun x y => x = a ∧ y < b) N ysf yss yds yle 0 N2 sf2 ss2 ds2 le2 → ∀ n2 : Nat → Nat, ((nxt a < b ∧ n2 = ms_un nxt a b) ∨ (b ≤ nxt a ∧ n2 = nxt)) → post z (ms_Y B W R R sent disc st (ms_cl pe 0 R) he es (ms_un cw a (ms_nc (ms_M es cw rt 3) (ms_S es cw rt 3) (cw a))) rt (ms_un una a b) n2 high rn cn cs cd cl N2 sf2 ss2 ds2 le2)) :
    wY_deliver_236 post (nI a) z B (nI N) (nI W) (nI U) (nI R) sent disc (ms_im rt) es (ms_im cw) (ms_im una) (ms_im nxt) (ms_im high) rn (ms_im cn) (ms_im cs) (ms_im cd) (ms_im cl) (ms_im ysf) (ms_im yss) (ms_im yds) (ms_im yle) st pe he := by
  refine ⟨pk_in a 3 ha, br_t (by rw [nI_clamp (by omega)]; exact hes) ⟨pk_in a 3 ha, pk_in a 3 ha, nm_r (e' := ms_im (ms_un una a b)) (by rw [nI_clamp (show a < 2 ^ 31 by omega), hrn]; exact ms_imu _ _ _) ⟨25, ?_⟩⟩⟩
  have h := ms_y_flt (U := U) (una := ms_un una a b) ha hwd hes hR ms_us hb2 hx h0 hN H 24 N ysf yss yds yle (Nat.le_refl 24) (ms_fi0 hN hu)
  rw [← ms_23] at h
  exact h
theorem ms_y_236f {post : Int32 → SY → Prop} {z : Int32} (ha : a < 3) (hes : ¬ es a = 1) (hR : R ≤ 256) (hp : post z (ms_Y B W R R sent disc st (ms_cl pe 0 R) he es cw rt una nxt high rn cn cs cd cl N ysf yss yds yle)) : wY_deliver_236 post (nI a) z B (nI N) (nI W) (nI U) (nI R) sent disc (ms_im rt) es (ms_im cw) (ms_im una) (ms_im nxt) (ms_im high) rn (ms_im cn) (ms_im cs) (ms_im cd) (ms_im cl) (ms_im ysf) (ms_im yss) (ms_im yds) (ms_im yle) st pe he :=
  ⟨pk_in a 3 ha, br_f (by rw [nI_clamp (by omega)]; exact hes) (ms_y_cl hR hp)⟩
/-- the prefix, by the reference -/
theorem ms_y_prel {post : Int32 → SY → Prop} {m : Nat} (hm : ms_px he R m) (H : wY_deliver_236 post (nI a) (nI m) B (nI N) (nI W) (nI R) (nI (R + m)) sent disc (ms_im rt) es (ms_im cw) (ms_im una) (ms_im nxt) (ms_im high) rn (ms_im cn) (ms_im cs) (ms_im cd) (ms_im cl) (ms_im ysf) (ms_im yss) (ms_im yds) (ms_im yle) st pe (ms_cl he R (R + m))) : ∀ k j, j + k = m → wY_deliver_177 post (nI a) B (nI N) (nI W) (nI R) sent disc (k + 1) (nI j) (nI j) (nI (R + j)) (ms_im rt) es (ms_im cw) (ms_im una) (ms_im nxt) (ms_im high) rn (ms_im cn) (ms_im cs) (ms_im cd) (ms_im cl) (ms_im ysf) (ms_im yss) (ms_im yds) (ms_im yle) st pe (ms_cl he R (R + j)) := by
  obtain ⟨h1, h2, h3⟩ := hm
  intro k
  induction k with
  | zero =>
    intro j hj
    have e : j = m := by omega
    subst e
    refine pk_le 256 j (fun _ => H) (fun z => pk_le 256 (R + j) (fun _ => H) (fun z => ⟨pk_in (R + j) 256 (by omega), br_t ?_ H⟩))
    rw [nI_clamp (by omega), ms_clo (by omega)]
    rcases h3 with h3 | h3
    · omega
    · exact h3
  | succ k ih =>
    intro j hj
    have g := ih (j + 1) (by omega)
    rw [← Nat.add_assoc, ← ms_clS he (Nat.le_add_right R j)] at g
    refine pk_le 256 j (fun z => absurd z (by omega)) (fun _ => pk_le 256 (R + j) (fun z => absurd z (by omega)) (fun z => ⟨pk_in (R + j) 256 (by omega), br_f ?_ ⟨pk_in (R + j) 256 (by omega), nm_r (by rw [nI_clamp (by omega), ms_n0]) (nm_r (nI_1 (R + j)) (nm_r (nI_1 j) (nm_r (nI_1 j) g)))⟩⟩))
    rw [nI_clamp (by omega), ms_clo (by omega)]
    exact h2 j (by omega)
/-- hold, by the reference -/
theorem ms_y_holdl {post : Int32 → SY → Prop} {d l : Nat} (hd : d + l ≤ 256) (H : ∃ n, wY_deliver_177 post (nI a) B (nI N) (nI W) (nI R) sent (ms_hd R B d disc he l).1 n 0 0 (nI R) (ms_im rt) es (ms_im cw) (ms_im una) (ms_im nxt) (ms_im high) rn (ms_im cn) (ms_im cs) (ms_im cd) (ms_im cl) (ms_im ysf) (ms_im yss) (ms_im yds) (ms_im yle) st pe ((ms_hd R B d disc he l).2)) : ∀ m j, j + m = l → wY_deliver_86 post (nI a) (nI d) (nI l) (nI R) B (nI N) (nI W) (nI R) (nI R) sent (m + 1) (nI j) (ms_hd R B d disc he j).1 (ms_im rt) es (ms_im cw) (ms_im una) (ms_im nxt) (ms_im high) rn (ms_im cn) (ms_im cs) (ms_im cd) (ms_im cl) (ms_im ysf) (ms_im yss) (ms_im yds) (ms_im yle) st pe ((ms_hd R B d disc he j).2) := by
  intro m
  induction m with
  | zero =>
    intro j hj
    have e : j = l := by omega
    subst e
    exact pk_le j j (fun _ => H) (fun z => absurd z (by omega))
  | succ m ih =>
    intro j hj
    have g := ih (j + 1) (by omega)
    refine pk_le l j (fun z => absurd z (by omega)) (fun _ => nm_r (nI_add d j) ?_)
    by_cases c1 : nI (d + j) < nI R
    · rw [ms_hd1 (Or.inl c1)] at g
      exact br_t c1 (nm_e (nm_r (nI_1 j) g))
    · refine br_f c1 ?_
      by_cases c2 : nI R + B ≤ nI (d + j)
      · rw [ms_hd1 (Or.inr (Or.inl c2))] at g
        exact br_t c2 (nm_e (nm_r (nI_1 j) g))
      · refine br_f c2 (br_f (nI_pos (by omega)) (pk_lt 255 (d + j) (fun z => absurd z (by omega)) (fun _ => ⟨pk_in (d + j) 256 (by omega), ?_⟩)))
        by_cases c3 : (ms_hd R B d disc he j).2 (d + j) = 0
        · rw [ms_hd2 (by rintro (z | z | z); exact c1 z; exact c2 z; exact z c3)] at g
          exact br_t (by rw [nI_clamp (by omega)]; exact c3) ⟨pk_in (d + j) 256 (by omega), nm_r (by rw [nI_clamp (by omega), ms_n1]) (nm_r (nI_1 j) g)⟩
        · rw [ms_hd1 (Or.inr (Or.inr c3))] at g
          exact br_f (by rw [nI_clamp (by omega)]; exact c3) (nm_e (nm_r (nI_1 j) g))
theorem ms_y_dl {post : Int32 → SY → Prop} {d l m : Nat} (hd : d + l ≤ 256) (hm : ms_px (ms_hd R B d disc he l).2 R m) (H : wY_deliver_236 post (nI a) (nI m) B (nI N) (nI W) (nI R) (nI (R + m)) sent ((ms_hd R B d disc he l).1) (ms_im rt) es (ms_im cw) (ms_im una) (ms_im nxt) (ms_im high) rn (ms_im cn) (ms_im cs) (ms_im cd) (ms_im cl) (ms_im ysf) (ms_im yss) (ms_im yds) (ms_im yle) st pe (ms_cl (ms_hd R B d disc he l).2 R (R + m))) : ∃ n, wY_deliver_86 post (nI a) (nI d) (nI l) (nI R) B (nI N) (nI W) (nI R) (nI R) sent n 0 disc (ms_im rt) es (ms_im cw) (ms_im una) (ms_im nxt) (ms_im high) rn (ms_im cn) (ms_im cs) (ms_im cd) (ms_im cl) (ms_im ysf) (ms_im yss) (ms_im yds) (ms_im yle) st pe he := by
  have h := ms_y_prel hm H m 0 (Nat.zero_add m)
  rw [Nat.add_zero R, ms_cl0] at h
  exact ⟨_, ms_y_holdl hd ⟨_, h⟩ l 0 (Nat.zero_add l)⟩
/-- the reference's deliver, up to the test of the number -/
theorem ms_y_d0 {post : Int32 → SY → Prop} (ha : a < 3) (h0 : 0 < cn a) (h8 : cn a ≤ 8)
    (H1 : nI (cs (a * 8)) = rn a → ∃ n, wY_deliver_86 post (nI a) (nI (cd (a * 8))) (nI (cl (a * 8))) (nI R) B (nI N) (nI W) (nI R) (nI R) sent n 0 disc (ms_im rt) es (ms_im cw) (ms_im una) (ms_im nxt) (ms_im high) (upd rn a (rn a + 1)) (ms_im (ms_un cn a (cn a - 1))) (ms_im (ms_sh cs (a * 8) (a * 8 + (cn a - 1)))) (ms_im (ms_sh cd (a * 8) (a * 8 + (cn a - 1)))) (ms_im (ms_sh cl (a * 8) (a * 8 + (cn a - 1)))) (ms_im ysf) (ms_im yss) (ms_im yds) (ms_im yle) st pe he)
    (H2 : ¬ nI (cs (a * 8)) = rn a → post 0 (ms_Y B W R R sent disc st pe he es cw rt una nxt high rn (ms_un cn a (cn a - 1)) (ms_sh cs (a * 8) (a * 8 + (cn a - 1))) (ms_sh cd (a * 8) (a * 8 + (cn a - 1))) (ms_sh cl (a * 8) (a * 8 + (cn a - 1))) N ysf yss yds yle)) :
    wpY_deliver post (ms_Y B W R R sent disc st pe he es cw rt una nxt high rn cn cs cd cl N ysf yss yds yle) (nI a) := by
  unfold wpY_deliver
  refine ms_y_sub ha ?_
  refine br_t rfl ⟨pk_in a 3 ha, pk_eq (cn a) 0 (fun z => absurd z (by omega)) (fun _ => ?_) (ms_at (by omega))⟩
  refine nm_r (ms_m8 a) ⟨pk_in (a * 8) 24 (by omega), nm_r (ms_at (by omega)) ⟨pk_in (a * 8) 24 (by omega), nm_r (ms_at (by omega)) ⟨pk_in (a * 8) 24 (by omega), nm_r (ms_at (by omega)) ?_⟩⟩⟩
  refine ms_y_pop ha h0 h8 ⟨pk_in a 3 ha, ?_⟩
  rw [nI_clamp (show a < 2 ^ 31 by omega)]
  exact br_c (fun z => ⟨pk_in a 3 ha, pk_in a 3 ha, nm_e (H1 z)⟩) (fun z => H2 z)
/-- the class's deliver: another number -/
theorem ms_x_dn {post : Int32 → SX → Prop} (ha : a < 3) (h0 : 0 < cn a) (h8 : cn a ≤ 8) (hne : ¬ nI (cs (a * 8)) = rn a) (hp : post 0 (ms_X B W R sent disc st pe he es cw rt una nxt high rn (ms_un cn a (cn a - 1)) (ms_sh cs (a * 8) (a * 8 + (cn a - 1))) (ms_sh cd (a * 8) (a * 8 + (cn a - 1))) (ms_sh cl (a * 8) (a * 8 + (cn a - 1))) rd rl)) : wpX_deliver post (ms_X B W R sent disc st pe he es cw rt una nxt high rn cn cs cd cl rd rl) (nI a) := by
  unfold wpX_deliver
  refine ms_x_sub ha ?_
  refine br_f (by decide) ⟨pk_in a 3 ha, pk_eq (cn a) 0 (fun z => absurd z (by omega)) (fun _ => ?_) (ms_at (by omega))⟩
  refine nm_r (ms_m8 a) ⟨pk_in (a * 8) 24 (by omega), nm_r (ms_at (by omega)) ⟨pk_in (a * 8) 24 (by omega), nm_r (ms_at (by omega)) ⟨pk_in (a * 8) 24 (by omega), nm_r (ms_at (by omega)) ?_⟩⟩⟩
  refine ms_x_pop ha h0 h8 ⟨pk_in a 3 ha, ?_⟩
  rw [nI_clamp (show a < 2 ^ 31 by omega)]
  exact br_f hne hp
/-- the class's deliver: the next number, a failed subflow -/
theorem ms_x_df {post : Int32 → SX → Prop} {m : Nat} (ha : a < 3) (h0 : 0 < cn a) (h8 : cn a ≤ 8) (heq : nI (cs (a * 8)) = rn a) (hes : ¬ es a = 1) (hd : cd (a * 8) + cl (a * 8) ≤ 256) (hm : ms_px (ms_hd R B (cd (a * 8)) disc he (cl (a * 8))).2 R m) (hp : post (nI m) (ms_X B W (R + m) sent ((ms_hd R B (cd (a * 8)) disc he (cl (a * 8))).1) st (ms_cl pe R (R + m)) (ms_cl (ms_hd R B (cd (a * 8)) disc he (cl (a * 8))).2 R (R + m)) es cw rt una nxt high (upd rn a (rn a + 1)) (ms_un cn a (cn a - 1)) (ms_sh cs (a * 8) (a * 8 + (cn a - 1))) (ms_sh cd (a * 8) (a * 8 + (cn a - 1))) (ms_sh cl (a * 8) (a * 8 + (cn a - 1))) rd rl)) : wpX_deliver post (ms_X B W R sent disc st pe he es cw rt una nxt high rn cn cs cd cl rd rl) (nI a) := by
  unfold wpX_deliver
  refine ms_x_sub ha ?_
  refine br_f (by decide) ⟨pk_in a 3 ha, pk_eq (cn a) 0 (fun z => absurd z (by omega)) (fun _ => ?_) (ms_at (by omega))⟩
  refine nm_r (ms_m8 a) ⟨pk_in (a * 8) 24 (by omega), nm_r (ms_at (by omega)) ⟨pk_in (a * 8) 24 (by omega), nm_r (ms_at (by omega)) ⟨pk_in (a * 8) 24 (by omega), nm_r (ms_at (by omega)) ?_⟩⟩⟩
  refine ms_x_pop ha h0 h8 ⟨pk_in a 3 ha, ?_⟩
  rw [nI_clamp (show a < 2 ^ 31 by omega)]
  refine br_t heq ⟨pk_in a 3 ha, pk_in a 3 ha, nm_e (ms_x_hold hd (ms_x_pre hm (ms_x_est ha ?_)))⟩
  rw [if_neg hes]
  exact br_t rfl hp
/-- the class's deliver: the next number, an established subflow -/
theorem ms_x_de {post : Int32 → SX → Prop} {m b : Nat} (ha : a < 3) (h0 : 0 < cn a) (h8 : cn a ≤ 8) (heq : nI (cs (a * 8)) = rn a) (hes : es a = 1) (hwd : ms_wd cw rt) (hrn : rn a + 1 = nI b) (hb : b < 2 ^ 30) (hx : nxt a < 2 ^ 30) (hd : cd (a * 8) + cl (a * 8) ≤ 256) (hm : ms_px (ms_hd R B (cd (a * 8)) disc he (cl (a * 8))).2 R m) (hp : ∀ n2 : Nat → Nat, ((nxt a < b ∧ n2 = ms_un nxt a b) ∨ (b ≤ nxt a ∧ n2 = nxt)) → post (nI m) (ms_X B W (R + m) sent ((ms_hd R B (cd (a * 8)) disc he (cl (a * 8))).1) st (ms_cl pe R (R + m)) (ms_cl (ms_hd R B (cd (a * 8)) disc he (cl (a * 8))).2 R (R + m)) es (ms_un cw a (ms_nc (ms_M es cw rt 3) (ms_S es cw rt 3) (cw a))) rt (ms_un una a b) n2 high (upd rn a (rn a + 1)) (ms_un cn a (cn a - 1)) (ms_sh cs (a * 8) (a * 8 + (cn a - 1))) (ms_sh cd (a * 8) (a * 8 + (cn a - 1))) (ms_sh cl (a * 8) (a * 8 + (cn a - 1))) rd rl)) : wpX_deliver post (ms_X B W R sent disc st pe he es cw rt una nxt high rn cn cs cd cl rd rl) (nI a) := by
  unfold wpX_deliver
  refine ms_x_sub ha ?_
  refine br_f (by decide) ⟨pk_in a 3 ha, pk_eq (cn a) 0 (fun z => absurd z (by omega)) (fun _ => ?_) (ms_at (by omega))⟩
  refine nm_r (ms_m8 a) ⟨pk_in (a * 8) 24 (by omega), nm_r (ms_at (by omega)) ⟨pk_in (a * 8) 24 (by omega), nm_r (ms_at (by omega)) ⟨pk_in (a * 8) 24 (by omega), nm_r (ms_at (by omega)) ?_⟩⟩⟩
  refine ms_x_pop ha h0 h8 ⟨pk_in a 3 ha, ?_⟩
  rw [nI_clamp (show a < 2 ^ 31 by omega)]
  refine br_t heq ⟨pk_in a 3 ha, pk_in a 3 ha, nm_e (ms_x_hold hd (ms_x_pre hm (ms_x_est ha ?_)))⟩
  rw [if_pos hes]
  exact br_f (by decide) (ms_x_ack ha hwd hes (by rw [pk_us]; exact hrn) hb hx hp)
end
