section
variable {B : Int32} {W R : Nat} {sent disc : Int32} {st pe he es : Nat → Int32} {cw rt una nxt high : Nat → Nat} {rn : Nat → Int32} {cn cs cd cl rd rl : Nat → Nat} {a : Nat}
theorem ms_x_ref {post : Int32 → Prop} {e : Nat} (ha : a < 3) (hW : W ≤ 256) (hl : ms_lp pe R W e) (h1 : una a ≤ nxt a) (h2 : nxt a ≤ high a) (h3 : high a < 2 ^ 31) (hc : cw a ≤ 4096) (hn : cn a ≤ 8) (hp : post (ms_rf es cw una nxt high cn e W a)) : wpX_refusalOfSend post (ms_X B W R sent disc st pe he es cw rt una nxt high rn cn cs cd cl rd rl) (nI a) := by
  unfold ms_rf at hp
  have hw := ms_wib (cw a)
  have he2 := hl.2.1
  unfold wpX_refusalOfSend
  refine ms_x_sub ha ?_
  refine br_f (by decide) ?_
  refine ms_x_est ha ?_
  by_cases c1 : es a = 1
  · rw [if_pos c1]
    rw [if_neg (fun z => z c1)] at hp
    refine br_f (by decide) ⟨pk_in a 3 ha, pk_in a 3 ha, ms_x_win ha hc ?_⟩
    refine pk_lt (nxt a - una a) (ms_wi (cw a)) (fun c2 => ?_) (fun c2 => ?_) (by rw [ms_at (by omega), ms_at (by omega), pk_sub h1])
    · rw [if_neg (by omega)] at hp
      refine ⟨pk_in a 3 ha, pk_eq (cn a) 8 (fun c3 => ?_) (fun c3 => ?_) (ms_at (by omega))⟩
      · rw [if_pos c3] at hp
        exact hp
      · rw [if_neg c3] at hp
        refine ⟨pk_in a 3 ha, pk_in a 3 ha, pk_eq (nxt a) (high a) (fun c4 => ?_) (fun c4 => ?_) (ms_at (by omega)) (ms_at (by omega))⟩
        · refine ms_x_lp hW hl (pk_eq e W (fun c5 => ?_) (fun c5 => ?_))
          · rw [if_pos ⟨c4, c5⟩] at hp
            exact hp
          · rw [if_neg (fun z => c5 z.2)] at hp
            exact hp
        · rw [if_neg (fun z => c4 z.1)] at hp
          exact hp
    · rw [if_pos c2] at hp
      exact hp
  · rw [if_neg c1]
    rw [if_pos c1] at hp
    exact br_t rfl hp
theorem ms_x_mkx {post : St2 → Prop} {e l : Nat} (ha : a < 3) (hh : high a < 2 ^ 30) (hp : post (ms_X B W R sent disc st pe he es cw rt una nxt (ms_un high a (high a + 1)) rn cn cs cd cl (ms_un rd (a * 8 + high a % 8) e) (ms_un rl (a * 8 + high a % 8) l))) : wX_makeRecord_48 post (nI a) (nI e) (nI l) B (nI W) (nI R) sent disc st pe he es (ms_im cw) (ms_im rt) (ms_im una) (ms_im nxt) (ms_im high) rn (ms_im cn) (ms_im cs) (ms_im cd) (ms_im cl) (ms_im rd) (ms_im rl) := by
  refine ⟨pk_in a 3 ha, ?_⟩
  rw [ms_at (by omega)]
  refine ms_x_slot (by omega) ?_
  exact ⟨pk_in (a * 8 + high a % 8) 24 (by omega), nm_r (ms_up (by omega)) ⟨pk_in (a * 8 + high a % 8) 24 (by omega), nm_r (ms_up (by omega)) ⟨pk_in a 3 ha, pk_in a 3 ha, nm_r (ms_ic2 (by omega)) hp⟩⟩⟩
theorem ms_x_mkl {post : St2 → Prop} {e l : Nat} (ha : a < 3) (hh : high a < 2 ^ 30) (hW : W ≤ 256) (hl : ms_ln pe W e l) (hp : post (ms_X B W R sent disc st (ms_cl pe e (e + l)) he es cw rt una nxt (ms_un high a (high a + 1)) rn cn cs cd cl (ms_un rd (a * 8 + high a % 8) e) (ms_un rl (a * 8 + high a % 8) l))) : ∀ k j, j + k = l → wX_makeRecord_7 post (nI a) (nI e) B (nI W) (nI R) sent disc (k + 1) (nI j) st (ms_cl pe e (e + j)) he es (ms_im cw) (ms_im rt) (ms_im una) (ms_im nxt) (ms_im high) rn (ms_im cn) (ms_im cs) (ms_im cd) (ms_im cl) (ms_im rd) (ms_im rl) := by
  obtain ⟨h1, h2, h3, h4⟩ := hl
  have E : wX_makeRecord_48 post (nI a) (nI e) (nI l) B (nI W) (nI R) sent disc st (ms_cl pe e (e + l)) he es (ms_im cw) (ms_im rt) (ms_im una) (ms_im nxt) (ms_im high) rn (ms_im cn) (ms_im cs) (ms_im cd) (ms_im cl) (ms_im rd) (ms_im rl) := ms_x_mkx ha hh hp
  intro k
  induction k with
  | zero =>
    intro j hj
    have e0 : j = l := by omega
    subst e0
    refine pk_le 4 j (fun _ => E) (fun z => pk_le W (e + j) (fun _ => E) (fun z2 => ⟨pk_in (e + j) 256 (by omega) (nI_add e j), br_t ?_ E⟩) rfl (nI_add e j))
    rw [nI_add, nI_clamp (by omega), ms_clo (by omega)]
    rcases h4 with h4 | h4 | h4
    · omega
    · omega
    · exact h4
  | succ k ih =>
    intro j hj
    have g := ih (j + 1) (by omega)
    rw [← Nat.add_assoc, ← ms_clS pe (Nat.le_add_right e j)] at g
    refine pk_le 4 j (fun z => absurd z (by omega)) (fun z => pk_le W (e + j) (fun z => absurd z (by omega)) (fun z2 => ⟨pk_in (e + j) 256 (by omega) (nI_add e j), br_f ?_ ⟨pk_in (e + j) 256 (by omega) (nI_add e j), nm_r (by rw [nI_add, nI_clamp (by omega)]) (nm_r (nI_1 j) g)⟩⟩) rfl (nI_add e j))
    rw [nI_add, nI_clamp (by omega), ms_clo (by omega)]
    exact h3 j (by omega)
theorem ms_x_mk {post : St2 → Prop} {e l : Nat} (ha : a < 3) (hh : high a < 2 ^ 30) (hW : W ≤ 256) (hlp : ms_lp pe R W e) (hl : ms_ln pe W e l) (hp : post (ms_X B W R sent disc st (ms_cl pe e (e + l)) he es cw rt una nxt (ms_un high a (high a + 1)) rn cn cs cd cl (ms_un rd (a * 8 + high a % 8) e) (ms_un rl (a * 8 + high a % 8) l))) : wpX_makeRecord post (ms_X B W R sent disc st pe he es cw rt una nxt high rn cn cs cd cl rd rl) (nI a) := by
  have h := ms_x_mkl ha hh hW hl hp l 0 (Nat.zero_add l)
  rw [Nat.add_zero e, ms_cl0] at h
  exact ms_x_lp hW hlp ⟨_, h⟩
theorem ms_x_nj {post : Int32 → St2 → Prop} (ha : a < 3) (hh : nxt a < 2 ^ 30) (hn : cn a < 8) (hp : post (nI (rl (a * 8 + nxt a % 8))) (ms_X B W R (sent + 1) disc st pe he es cw rt una (ms_un nxt a (nxt a + 1)) high rn (ms_un cn a (cn a + 1)) (ms_un cs (a * 8 + cn a) (nxt a)) (ms_un cd (a * 8 + cn a) (rd (a * 8 + nxt a % 8))) (ms_un cl (a * 8 + cn a) (rl (a * 8 + nxt a % 8))) rd rl)) : wX_sendNext_20 post (nI a) B (nI W) (nI R) sent disc st pe he es (ms_im cw) (ms_im rt) (ms_im una) (ms_im nxt) (ms_im high) rn (ms_im cn) (ms_im cs) (ms_im cd) (ms_im cl) (ms_im rd) (ms_im rl) := by
  refine ⟨pk_in a 3 ha, nm_r (ms_at (by omega)) (ms_x_slot (by omega) ⟨pk_in (a * 8 + nxt a % 8) 24 (by omega), pk_in (a * 8 + nxt a % 8) 24 (by omega), ?_⟩)⟩
  rw [ms_at (by omega), ms_at (by omega)]
  refine ms_x_app ha hn ⟨pk_in a 3 ha, pk_in a 3 ha, nm_r (ms_ic (by omega)) (nm_e ⟨pk_in (a * 8 + nxt a % 8) 24 (by omega), ?_⟩)⟩
  rw [ms_at (by omega)]
  exact hp
theorem ms_x_next1 {post : Int32 → St2 → Prop} (ha : a < 3) (hh : nxt a < 2 ^ 30) (hh2 : high a < 2 ^ 30) (hne : nxt a ≠ high a) (hn : cn a < 8) (hp : post (nI (rl (a * 8 + nxt a % 8))) (ms_X B W R (sent + 1) disc st pe he es cw rt una (ms_un nxt a (nxt a + 1)) high rn (ms_un cn a (cn a + 1)) (ms_un cs (a * 8 + cn a) (nxt a)) (ms_un cd (a * 8 + cn a) (rd (a * 8 + nxt a % 8))) (ms_un cl (a * 8 + cn a) (rl (a * 8 + nxt a % 8))) rd rl)) : wpX_sendNext post (ms_X B W R sent disc st pe he es cw rt una nxt high rn cn cs cd cl rd rl) (nI a) :=
  ⟨pk_in a 3 ha, pk_in a 3 ha, pk_eq (nxt a) (high a) (fun z => absurd z hne) (fun _ => ms_x_nj ha hh hn hp) (ms_at (by omega)) (ms_at (by omega))⟩
theorem ms_x_next2 {post : Int32 → St2 → Prop} {e l : Nat} (ha : a < 3) (hh : high a < 2 ^ 30) (hne : nxt a = high a) (hn : cn a < 8) (hW : W ≤ 256) (hlp : ms_lp pe R W e) (hl : ms_ln pe W e l) (hp : post (nI l) (ms_X B W R (sent + 1) disc st (ms_cl pe e (e + l)) he es cw rt una (ms_un nxt a (nxt a + 1)) (ms_un high a (high a + 1)) rn (ms_un cn a (cn a + 1)) (ms_un cs (a * 8 + cn a) (high a)) (ms_un cd (a * 8 + cn a) e) (ms_un cl (a * 8 + cn a) l) (ms_un rd (a * 8 + high a % 8) e) (ms_un rl (a * 8 + high a % 8) l))) : wpX_sendNext post (ms_X B W R sent disc st pe he es cw rt una nxt high rn cn cs cd cl rd rl) (nI a) := by
  refine ⟨pk_in a 3 ha, pk_in a 3 ha, pk_eq (nxt a) (high a) (fun _ => ms_x_mk ha hh hW hlp hl (ms_x_nj ha (by omega) hn ?_)) (fun z => absurd hne z) (ms_at (by omega)) (ms_at (by omega))⟩
  rw [hne, ms_us, ms_us]
  rw [hne] at hp
  exact hp
end
