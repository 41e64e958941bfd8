section
variable {B : Int32} {W R : Nat} {sent disc : Int32} {st pe he es : Nat → Int32} {cw rt una nxt high : Nat → Nat} {rn : Nat → Int32} {cn cs cd cl : Nat → Nat} {N : Nat} {ysf yss yds yle : Nat → Nat} {a U : Nat}
/-- the end of a new record: list, channel, counters -/
theorem ms_y_se {post : Int32 → SY → Prop} {d l : Nat} (ha : a < 3) (hn : cn a < 8) (hh : high a < 2 ^ 30) (hx : nxt a < 2 ^ 30) (hp : post (nI l) (ms_Y B W R R (sent + 1) disc st pe he es cw rt una (ms_un nxt a (nxt a + 1)) (ms_un high a (high a + 1)) rn (ms_un cn a (cn a + 1)) (ms_un cs (a * 8 + cn a) (high a)) (ms_un cd (a * 8 + cn a) d) (ms_un cl (a * 8 + cn a) l) N ysf yss yds yle)) : wY_send_343 post (nI a) (nI d) (nI l) B (nI N) (nI W) (nI R) (nI R) sent disc (ms_im rt) es (ms_im cw) (ms_im una) (ms_im nxt) (ms_im high) rn (ms_im cn) (ms_im cs) (ms_im cd) (ms_im cl) (ms_im ysf) (ms_im yss) (ms_im yds) (ms_im yle) st pe he := by
  refine ⟨pk_in a 3 ha, ?_⟩
  rw [ms_at (by omega)]
  exact ms_y_push ha hn ⟨pk_in a 3 ha, pk_in a 3 ha, nm_r (ms_ic (by omega)) ⟨pk_in a 3 ha, pk_in a 3 ha, nm_r (ms_ic (by omega)) (nm_e hp)⟩⟩
theorem ms_y_sc {post : Int32 → SY → Prop} {d l : Nat} (ha : a < 3) (hn : cn a < 8) (hh : high a < 2 ^ 30) (hx : nxt a < 2 ^ 30) (hN : N < 24) (hd : d + l ≤ 256) (hp : post (nI l) (ms_Y B W R R (sent + 1) disc st (ms_cl pe d (d + l)) he es cw rt una (ms_un nxt a (nxt a + 1)) (ms_un high a (high a + 1)) rn (ms_un cn a (cn a + 1)) (ms_un cs (a * 8 + cn a) (high a)) (ms_un cd (a * 8 + cn a) d) (ms_un cl (a * 8 + cn a) l) (N + 1) (ms_un ysf N a) (ms_un yss N (high a)) (ms_un yds N d) (ms_un yle N l))) : ∀ k j, j + k = l → wY_send_257 post (nI a) (nI d) (nI l) B (nI N) (nI W) (nI R) (nI R) sent disc (k + 1) (nI j) (ms_im rt) es (ms_im cw) (ms_im una) (ms_im nxt) (ms_im high) rn (ms_im cn) (ms_im cs) (ms_im cd) (ms_im cl) (ms_im ysf) (ms_im yss) (ms_im yds) (ms_im yle) st (ms_cl pe d (d + j)) he := by
  intro k
  induction k with
  | zero =>
    intro j hj
    have e : j = l := by omega
    subst e
    refine pk_le j j (fun _ => pk_le 24 N (fun z => absurd z (by omega)) (fun _ => ⟨pk_in N 24 hN, nm_r (ms_up (by omega)) ⟨pk_in a 3 ha, pk_in N 24 hN, nm_r (by rw [ms_at (by omega)]; exact ms_up (by omega)) ⟨pk_in N 24 hN, nm_r (ms_up (by omega)) ⟨pk_in N 24 hN, nm_r (ms_up (by omega)) (nm_r (nI_1 N) (ms_y_se ha hn hh hx hp))⟩⟩⟩⟩)) (fun z => absurd z (by omega))
  | succ k ih =>
    intro j hj
    have g := ih (j + 1) (by omega)
    rw [← Nat.add_assoc, ← ms_clS pe (Nat.le_add_right d j)] at g
    exact pk_le l j (fun z => absurd z (by omega)) (fun _ => ⟨pk_in (d + j) 256 (by omega) (nI_add d j), nm_r (by rw [nI_add, nI_clamp (by omega), ms_n0]) (nm_r (nI_1 j) g)⟩)
/-- the length is counted -/
theorem ms_y_sl {post : Int32 → SY → Prop} {d l : Nat} (hl : ms_ln pe W d l) (hW : W ≤ 256) (H : ∃ n, wY_send_257 post (nI a) (nI d) (nI l) B (nI N) (nI W) (nI R) (nI R) sent disc n 0 (ms_im rt) es (ms_im cw) (ms_im una) (ms_im nxt) (ms_im high) rn (ms_im cn) (ms_im cs) (ms_im cd) (ms_im cl) (ms_im ysf) (ms_im yss) (ms_im yds) (ms_im yle) st pe he) : ∀ k j, j + k = l → wY_send_203 post (nI a) (nI d) B (nI N) (nI W) (nI R) (nI R) sent disc (ms_im rt) es (ms_im cw) (ms_im una) (ms_im nxt) (ms_im high) rn (ms_im cn) (ms_im cs) (ms_im cd) (ms_im cl) (ms_im ysf) (ms_im yss) (ms_im yds) (ms_im yle) st pe he (k + 1) (nI j) (nI j) := by
  obtain ⟨h1, h2, h3, h4⟩ := hl
  intro k
  induction k with
  | zero =>
    intro j hj
    have e : j = l := by omega
    subst e
    refine pk_le 4 j (fun _ => H) (fun z => nm_r (nI_add d j) (pk_le W (d + j) (fun _ => H) (fun z2 => pk_lt 255 (d + j) (fun z => absurd z (by omega)) (fun _ => ⟨pk_in (d + j) 256 (by omega), br_t ?_ H⟩))))
    rw [nI_clamp (by omega)]
    rcases h4 with h4 | h4 | h4
    · omega
    · omega
    · exact h4
  | succ k ih =>
    intro j hj
    have g := ih (j + 1) (by omega)
    refine pk_le 4 j (fun z => absurd z (by omega)) (fun z => nm_r (nI_add d j) (pk_le W (d + j) (fun z => absurd z (by omega)) (fun z2 => pk_lt 255 (d + j) (fun z => absurd z (by omega)) (fun _ => ⟨pk_in (d + j) 256 (by omega), br_f ?_ (nm_r (nI_1 j) (nm_r (nI_1 j) g))⟩))))
    rw [nI_clamp (by omega)]
    exact h3 j (by omega)
/-- the least pending offset is looked for -/
theorem ms_y_sf {post : Int32 → SY → Prop} {e : Nat} (hW : W ≤ 256) (hl : ms_lp pe R W e) (H1 : e = W → wY_send_191 post (nI a) (-1) B (nI N) (nI W) (nI R) (nI R) sent disc (ms_im rt) es (ms_im cw) (ms_im una) (ms_im nxt) (ms_im high) rn (ms_im cn) (ms_im cs) (ms_im cd) (ms_im cl) (ms_im ysf) (ms_im yss) (ms_im yds) (ms_im yle) st pe he) (H2 : e < W → wY_send_191 post (nI a) (nI e) B (nI N) (nI W) (nI R) (nI R) sent disc (ms_im rt) es (ms_im cw) (ms_im una) (ms_im nxt) (ms_im high) rn (ms_im cn) (ms_im cs) (ms_im cd) (ms_im cl) (ms_im ysf) (ms_im yss) (ms_im yds) (ms_im yle) st pe he) : ∃ n, wY_send_152 post (nI a) (-1) B (nI N) (nI W) (nI R) (nI R) sent disc (ms_im rt) es (ms_im cw) (ms_im una) (ms_im nxt) (ms_im high) rn (ms_im cn) (ms_im cs) (ms_im cd) (ms_im cl) (ms_im ysf) (ms_im yss) (ms_im yds) (ms_im yle) st pe he n (nI R) := by
  obtain ⟨h1, h2, h3, h4⟩ := hl
  refine pk_loop (σ := Unit) (fun n i _ => wY_send_152 post (nI a) (-1) B (nI N) (nI W) (nI R) (nI R) sent disc (ms_im rt) es (ms_im cw) (ms_im una) (ms_im nxt) (ms_im high) rn (ms_im cn) (ms_im cs) (ms_im cd) (ms_im cl) (ms_im ysf) (ms_im yss) (ms_im yds) (ms_im yle) st pe he n (nI i)) (fun i _ => R ≤ i) e R () h1 (Nat.le_refl R) ?_ ?_
  · intro n _ _
    exact pk_le W e (fun z => H1 (by omega)) (fun z => br_f (nI_pos (by omega)) (pk_le 256 e (fun z2 => absurd z2 (by omega)) (fun _ => ⟨pk_in e 256 (by omega), br_f (by rw [nI_clamp (by omega)]; exact h4 z) (H2 z)⟩)))
  · intro n i _ hi hr hw
    exact pk_le W i (fun z => absurd z (by omega)) (fun z => br_f (nI_pos (by omega)) (pk_le 256 i (fun z2 => absurd z2 (by omega)) (fun _ => ⟨pk_in i 256 (by omega), br_t (by rw [nI_clamp (by omega)]; exact h3 i hr hi) (nm_r (nI_1 i) (hw () (by omega)))⟩)))
/-- how send begins: H is asked where all four tests are passed -/
theorem ms_y_s0 {post : Int32 → SY → Prop} {e : Nat} (ha : a < 3) (hW : W ≤ 256) (hl : ms_lp pe R W e) (h1 : una a ≤ nxt a) (h2 : nxt a ≤ high a) (h3 : high a < 2 ^ 30) (hc : cw a ≤ 4096) (hn : cn a ≤ 8)
    (H : ms_rf es cw una nxt high cn e W a = 0 → wpY_send post (ms_Y B W R R sent disc st pe he es cw rt una nxt high rn cn cs cd cl N ysf yss yds yle) (nI a)) (hp : post (ms_rf es cw una nxt high cn e W a) (ms_Y B W R R sent disc st pe he es cw rt una nxt high rn cn cs cd cl N ysf yss yds yle)) : wpY_send post (ms_Y B W R R sent disc st pe he es cw rt una nxt high rn cn cs cd cl N ysf yss yds yle) (nI a) := by
  have hw := ms_wib (cw a)
  by_cases c0 : ms_rf es cw una nxt high cn e W a = 0
  · exact H c0
  · unfold ms_rf at hp c0
    unfold wpY_send
    refine ms_y_sub ha ?_
    refine br_t rfl ⟨pk_in a 3 ha, ?_⟩
    rw [nI_clamp (show a < 2 ^ 31 by omega)]
    by_cases c1 : es a = 1
    · rw [if_neg (fun z => z c1)] at hp c0
      refine br_t c1 ⟨pk_in a 3 ha, pk_in a 3 ha, ms_y_win ha hc ?_⟩
      refine pk_lt (nxt a - una a) (ms_wi (cw a)) (fun c2 => ?_) (fun c2 => ?_) (pk_sub h1)
      · rw [if_neg (show ¬ ms_wi (cw a) ≤ nxt a - una a by omega)] at hp c0
        refine ⟨pk_in a 3 ha, pk_lt (cn a) 8 (fun c3 => ?_) (fun c3 => ?_)⟩
        · rw [if_neg (show ¬ cn a = 8 by omega)] at hp c0
          by_cases c4 : nxt a = high a ∧ e = W
          · rw [if_pos c4] at hp
            refine ⟨pk_in a 3 ha, pk_in a 3 ha, pk_le (high a) (nxt a) (fun _ => ms_y_sf hW hl (fun _ => br_f (by decide) hp) (fun z => absurd z (by omega))) (fun z => absurd z (by omega))⟩
          · rw [if_neg c4] at c0
            exact absurd rfl c0
        · rw [if_pos (show cn a = 8 by omega)] at hp
          exact hp
      · rw [if_pos c2] at hp
        exact hp
    · rw [if_pos c1] at hp
      exact br_f c1 hp
/-- a segment is sent again -/
theorem ms_y_s1 {post : Int32 → SY → Prop} {j : Nat} (ha : a < 3) (he1 : es a = 1) (h1 : una a ≤ nxt a) (hw : nxt a - una a < ms_wi (cw a)) (hc : cw a ≤ 4096) (hn : cn a < 8) (hx : nxt a < high a) (hh : high a < 2 ^ 30) (hN : N ≤ 24) (hj : j < N) (g1 : ysf j = a) (g2 : yss j = nxt a) (g3 : ∀ i, i < j → ¬ (ysf i = a ∧ yss i = nxt a)) (hb : ∀ i, i < N → ysf i < 2 ^ 31 ∧ yss i < 2 ^ 31)
    (hp : post (nI (yle j)) (ms_Y B W R R (sent + 1) disc st pe he es cw rt una (ms_un nxt a (nxt a + 1)) high rn (ms_un cn a (cn a + 1)) (ms_un cs (a * 8 + cn a) (nxt a)) (ms_un cd (a * 8 + cn a) (yds j)) (ms_un cl (a * 8 + cn a) (yle j)) N ysf yss yds yle)) : wpY_send post (ms_Y B W R R sent disc st pe he es cw rt una nxt high rn cn cs cd cl N ysf yss yds yle) (nI a) := by
  have hw8 := ms_wib (cw a)
  unfold wpY_send
  refine ms_y_sub ha ?_
  refine br_t rfl ⟨pk_in a 3 ha, ?_⟩
  rw [nI_clamp (show a < 2 ^ 31 by omega)]
  refine br_t he1 ⟨pk_in a 3 ha, pk_in a 3 ha, ms_y_win ha hc ?_⟩
  refine pk_lt (nxt a - una a) (ms_wi (cw a)) (fun _ => ?_) (fun z => absurd z (by omega)) (pk_sub h1)
  refine ⟨pk_in a 3 ha, pk_lt (cn a) 8 (fun _ => ?_) (fun z => absurd z (by omega))⟩
  refine ⟨pk_in a 3 ha, pk_in a 3 ha, pk_le (high a) (nxt a) (fun z => absurd z (by omega)) (fun _ => ⟨pk_in a 3 ha, ?_⟩)⟩
  refine ms_y_find hN hj g1 g2 g3 hb (br_t (nI_pos' (by omega)) ⟨pk_in j 24 (by omega), pk_in j 24 (by omega), pk_in j 24 (by omega), ?_⟩)
  rw [ms_at (by omega), ms_at (by omega), ms_at (by omega), g2]
  refine ms_y_push ha hn ⟨pk_in a 3 ha, pk_in a 3 ha, nm_r ms_ic0 (nm_e ⟨pk_in j 24 (by omega), ?_⟩)⟩
  rw [ms_at (by omega)]
  exact hp
/-- a new segment is sent -/
theorem ms_y_s2 {post : Int32 → SY → Prop} {e l : Nat} (ha : a < 3) (he1 : es a = 1) (h1 : una a ≤ nxt a) (hw : nxt a - una a < ms_wi (cw a)) (hc : cw a ≤ 4096) (hn : cn a < 8) (hx : nxt a = high a) (hh : high a < 2 ^ 30) (hN : N < 24) (hW : W ≤ 256) (hlp : ms_lp pe R W e) (heW : e < W) (hl : ms_ln pe W e l)
    (hp : post (nI l) (ms_Y B W R R (sent + 1) disc st (ms_cl pe e (e + l)) he es cw rt una (ms_un nxt a (nxt a + 1)) (ms_un high a (high a + 1)) rn (ms_un cn a (cn a + 1)) (ms_un cs (a * 8 + cn a) (high a)) (ms_un cd (a * 8 + cn a) e) (ms_un cl (a * 8 + cn a) l) (N + 1) (ms_un ysf N a) (ms_un yss N (high a)) (ms_un yds N e) (ms_un yle N l))) : wpY_send post (ms_Y B W R R sent disc st pe he es cw rt una nxt high rn cn cs cd cl N ysf yss yds yle) (nI a) := by
  have hw8 := ms_wib (cw a)
  have hl2 := hl.2.1
  have hC := ms_y_sc ha hn hh (by omega) hN (by omega) hp l 0 (Nat.zero_add l)
  rw [Nat.add_zero e, ms_cl0] at hC
  have hL := ms_y_sl hl hW ⟨_, hC⟩ l 0 (Nat.zero_add l)
  unfold wpY_send
  refine ms_y_sub ha ?_
  refine br_t rfl ⟨pk_in a 3 ha, ?_⟩
  rw [nI_clamp (show a < 2 ^ 31 by omega)]
  refine br_t he1 ⟨pk_in a 3 ha, pk_in a 3 ha, ms_y_win ha hc ?_⟩
  refine pk_lt (nxt a - una a) (ms_wi (cw a)) (fun _ => ?_) (fun z => absurd z (by omega)) (pk_sub h1)
  refine ⟨pk_in a 3 ha, pk_lt (cn a) 8 (fun _ => ?_) (fun z => absurd z (by omega))⟩
  refine ⟨pk_in a 3 ha, pk_in a 3 ha, pk_le (high a) (nxt a) (fun _ => ?_) (fun z => absurd z (by omega))⟩
  exact ms_y_sf hW hlp (fun z => absurd z (by omega)) (fun _ => br_t (nI_pos' (by omega)) ⟨_, hL⟩)
end
