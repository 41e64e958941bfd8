theorem ms_d1 {c : Nat} (h : 0 < c) : nI c - 1 = nI (c - 1) := pk_sub (a := c) (b := 1) h
theorem ms_shU {f : Nat → Nat} {b i : Nat} (h : b ≤ i) (hi : i < 1000) : upd (ms_im (ms_sh f b i)) (nI i).toNatClampNeg (ms_im (ms_sh f b i) (nI i + 1).toNatClampNeg) = ms_im (ms_sh f b (i + 1)) := by
  rw [nI_1, ms_at (by omega), ms_up (by omega), ms_shS f h]
section
variable {B : Int32} {W R : Nat} {sent disc : Int32} {st pe he es : Nat → Int32} {cw rt una nxt high : Nat → Nat} {rn : Nat → Int32} {cn cs cd cl rd rl : Nat → Nat} {a : Nat}
theorem ms_x_sub {post : Int32 → Prop} (ha : a < 3) (hp : post 1) : wpX_isSubflow post () (nI a) :=
  br_f (nI_pos (by omega)) (br_f (nI_ge (b := 3) ha (by decide)) hp)
theorem ms_x_nsb {post : Int32 → Prop} {x : Int32} (hx : x < 0 ∨ (3 : Int32) ≤ x) (hp : post 0) : wpX_isSubflow post () x := by
  by_cases h : x < 0
  · exact br_t h hp
  · rcases hx with hx | hx
    · exact absurd hx h
    · exact br_f h (br_t hx hp)
theorem ms_x_est {post : Int32 → Prop} (ha : a < 3) (hp : post (if es a = 1 then 1 else 0)) : wpX_isEstablished post (ms_X B W R sent disc st pe he es cw rt una nxt high rn cn cs cd cl rd rl) (nI a) := by
  refine ⟨pk_in a 3 ha, ?_⟩
  rw [nI_clamp (by omega)]
  by_cases h : es a = 1
  · rw [if_pos h] at hp
    exact br_t h hp
  · rw [if_neg h] at hp
    exact br_f h hp
theorem ms_x_win {post : Int32 → Prop} (ha : a < 3) (hc : cw a ≤ 4096) (hp : post (nI (ms_wi (cw a)))) : wpX_window post (ms_X B W R sent disc st pe he es cw rt una nxt high rn cn cs cd cl rd rl) (nI a) := by
  refine ⟨pk_in a 3 ha, by decide, ?_⟩
  refine nm_r (e' := nI (cw a / 256)) ?_ ?_
  · rw [ms_at (by omega)]
    exact pk_div (d := 256) (by omega) (by decide) (by decide)
  · unfold ms_wi at hp
    have h8 : cw a / 256 < 2 ^ 31 := by omega
    refine pk_le (cw a / 256) 8 (fun z => ?_) (fun z => ?_)
    · rw [if_neg (by omega)] at hp
      exact hp
    · rw [if_pos z] at hp
      exact hp
theorem ms_x_lp {post : Int32 → Prop} {e : Nat} (hW : W ≤ 256) (hl : ms_lp pe R W e) (hp : post (nI e)) : wpX_leastPending post (ms_X B W R sent disc st pe he es cw rt una nxt high rn cn cs cd cl rd rl) := by
  obtain ⟨h1, h2, h3, h4⟩ := hl
  refine pk_loop (σ := Unit) (fun n i _ => wX_leastPending_5 post B (nI W) (nI R) sent disc st pe he es (ms_im cw) (ms_im rt) (ms_im una) (ms_im nxt) (ms_im high) rn (ms_im cn) (ms_im cs) (ms_im cd) (ms_im cl) (ms_im rd) (ms_im rl) n (nI i)) (fun i _ => R ≤ i) e R () h1 (Nat.le_refl R) ?_ ?_
  · intro n _ _
    refine pk_le W e (fun z => ?_) (fun z => ⟨pk_in e 256 (by omega), br_f (by rw [nI_clamp (by omega)]; exact h4 z) hp⟩)
    rw [show W = e by omega]
    exact hp
  · intro n i _ hi hr hw
    exact pk_le W i (fun z => absurd z (by omega)) (fun z => ⟨pk_in i 256 (by omega), br_t (by rw [nI_clamp (by omega)]; exact h3 i hr hi) (nm_r (nI_1 i) (hw () (by omega)))⟩)
theorem ms_x_slot {post : Int32 → Prop} {b : Nat} (hb : b < 2 ^ 31) (hp : post (nI (a * 8 + b % 8))) : wpX_recordSlot post () (nI a) (nI b) := by
  rw [← ms_rs a hb] at hp
  exact ⟨by decide, hp⟩
theorem ms_x_app {post : St2 → Prop} {s d l : Nat} (ha : a < 3) (hn : cn a < 8) (hp : post (ms_X B W R sent disc st pe he es cw rt una nxt high rn (ms_un cn a (cn a + 1)) (ms_un cs (a * 8 + cn a) s) (ms_un cd (a * 8 + cn a) d) (ms_un cl (a * 8 + cn a) l) rd rl)) : wpX_append post (ms_X B W R sent disc st pe he es cw rt una nxt high rn cn cs cd cl rd rl) (nI a) (nI s) (nI d) (nI l) :=
  ⟨pk_in a 3 ha, nm_r (e' := nI (a * 8 + cn a)) (by rw [ms_at (by omega)]; exact ms_sl a (cn a)) ⟨pk_in (a * 8 + cn a) 24 (by omega), nm_r (ms_up (by omega)) ⟨pk_in (a * 8 + cn a) 24 (by omega), nm_r (ms_up (by omega)) ⟨pk_in (a * 8 + cn a) 24 (by omega), nm_r (ms_up (by omega)) ⟨pk_in a 3 ha, pk_in a 3 ha, nm_r (ms_ic (by omega)) hp⟩⟩⟩⟩⟩
theorem ms_x_popl {post : St2 → Prop} (ha : a < 3) (h0 : 0 < cn a) (h8 : cn a ≤ 8) (hp : post (ms_X B W R sent disc st pe he es cw rt una nxt high rn (ms_un cn a (cn a - 1)) (ms_sh cs (a * 8) (a * 8 + (cn a - 1))) (ms_sh cd (a * 8) (a * 8 + (cn a - 1))) (ms_sh cl (a * 8) (a * 8 + (cn a - 1))) rd rl)) : ∀ d i, i + d = a * 8 + (cn a - 1) → a * 8 ≤ i → wX_removeHead_19 post (nI a) (nI (a * 8 + (cn a - 1))) B (nI W) (nI R) sent disc (d + 1) (nI i) st pe he es (ms_im cw) (ms_im rt) (ms_im una) (ms_im nxt) (ms_im high) rn (ms_im cn) (ms_im (ms_sh cs (a * 8) i)) (ms_im (ms_sh cd (a * 8) i)) (ms_im (ms_sh cl (a * 8) i)) (ms_im rd) (ms_im rl) := by
  intro d
  induction d with
  | zero =>
    intro i hi hl
    have e : i = a * 8 + (cn a - 1) := by omega
    subst e
    exact pk_le (a * 8 + (cn a - 1)) (a * 8 + (cn a - 1)) (fun _ => ⟨pk_in a 3 ha, pk_in a 3 ha, nm_r (by rw [ms_at (by omega), ms_d1 h0]; exact ms_up (by omega)) hp⟩) (fun z => absurd z (by omega))
  | succ d ih =>
    intro i hi hl
    exact pk_le (a * 8 + (cn a - 1)) i (fun z => absurd z (by omega)) (fun _ => ⟨pk_in (i + 1) 24 (by omega) (nI_1 i), pk_in i 24 (by omega), nm_r (ms_shU hl (by omega)) ⟨pk_in (i + 1) 24 (by omega) (nI_1 i), pk_in i 24 (by omega), nm_r (ms_shU hl (by omega)) ⟨pk_in (i + 1) 24 (by omega) (nI_1 i), pk_in i 24 (by omega), nm_r (ms_shU hl (by omega)) (nm_r (nI_1 i) (ih (i + 1) (by omega) (by omega)))⟩⟩⟩)
theorem ms_x_pop {post : St2 → Prop} (ha : a < 3) (h0 : 0 < cn a) (h8 : cn a ≤ 8) (hp : post (ms_X B W R sent disc st pe he es cw rt una nxt high rn (ms_un cn a (cn a - 1)) (ms_sh cs (a * 8) (a * 8 + (cn a - 1))) (ms_sh cd (a * 8) (a * 8 + (cn a - 1))) (ms_sh cl (a * 8) (a * 8 + (cn a - 1))) rd rl)) : wpX_removeHead post (ms_X B W R sent disc st pe he es cw rt una nxt high rn cn cs cd cl rd rl) (nI a) := by
  have h := ms_x_popl ha h0 h8 hp (cn a - 1) (a * 8) rfl (Nat.le_refl _)
  rw [ms_sh0, ms_sh0, ms_sh0] at h
  refine nm_r (ms_m8 a) ⟨pk_in a 3 ha, nm_r (e' := nI (a * 8 + (cn a - 1))) ?_ ⟨_, h⟩⟩
  rw [ms_at (by omega), nI_add, ms_d1 (by omega), show a * 8 + cn a - 1 = a * 8 + (cn a - 1) by omega]
theorem ms_x_holdl {post : St2 → Prop} {d l : Nat} (hd : d + l ≤ 256) (hp : post (ms_X B W R sent ((ms_hd R B d disc he l).1) st pe ((ms_hd R B d disc he l).2) es cw rt una nxt high rn cn cs cd cl rd rl)) : ∀ m j, j + m = l → wX_hold_2 post (nI d) (nI l) B (nI W) (nI R) sent (m + 1) (nI (d + j)) (ms_hd R B d disc he j).1 st pe ((ms_hd R B d disc he j).2) es (ms_im cw) (ms_im rt) (ms_im una) (ms_im nxt) (ms_im high) rn (ms_im cn) (ms_im cs) (ms_im cd) (ms_im cl) (ms_im rd) (ms_im rl) := by
  intro m
  induction m with
  | zero =>
    intro j hj
    have e : j = l := by omega
    subst e
    exact pk_le (d + j) (d + j) (fun _ => hp) (fun z => absurd z (by omega)) (nI_add d j)
  | succ m ih =>
    intro j hj
    have g := ih (j + 1) (by omega)
    refine pk_le (d + l) (d + j) (fun z => absurd z (by omega)) (fun _ => ?_) (nI_add d l)
    by_cases c1 : nI (d + j) < nI R
    · rw [ms_hd1 (Or.inl c1)] at g
      exact br_t c1 (nm_e (nm_r (nI_1 (d + j)) g))
    · refine br_f c1 ?_
      by_cases c2 : nI R + B ≤ nI (d + j)
      · rw [ms_hd1 (Or.inr (Or.inl c2))] at g
        exact br_t c2 (nm_e (nm_r (nI_1 (d + j)) g))
      · refine br_f c2 ⟨pk_in (d + j) 256 (by omega), ?_⟩
        by_cases c3 : (ms_hd R B d disc he j).2 (d + j) = 0
        · rw [ms_hd2 (by rintro (z | z | z); exact c1 z; exact c2 z; exact z c3)] at g
          exact br_t (by rw [nI_clamp (by omega)]; exact c3) ⟨pk_in (d + j) 256 (by omega), nm_r (by rw [nI_clamp (by omega)]) (nm_r (nI_1 (d + j)) g)⟩
        · rw [ms_hd1 (Or.inr (Or.inr c3))] at g
          exact br_f (by rw [nI_clamp (by omega)]; exact c3) (nm_e (nm_r (nI_1 (d + j)) g))
theorem ms_x_hold {post : St2 → Prop} {d l : Nat} (hd : d + l ≤ 256) (hp : post (ms_X B W R sent ((ms_hd R B d disc he l).1) st pe ((ms_hd R B d disc he l).2) es cw rt una nxt high rn cn cs cd cl rd rl)) : wpX_hold post (ms_X B W R sent disc st pe he es cw rt una nxt high rn cn cs cd cl rd rl) (nI d) (nI l) :=
  ⟨_, ms_x_holdl hd hp l 0 (Nat.zero_add l)⟩
theorem ms_x_prel {post : Int32 → St2 → Prop} {m : Nat} (hm : ms_px he R m) (hp : post (nI m) (ms_X B W (R + m) sent disc st (ms_cl pe R (R + m)) (ms_cl he R (R + m)) es cw rt una nxt high rn cn cs cd cl rd rl)) : ∀ k j, j + k = m → wX_deliverPrefix_2 post B (nI W) sent disc (k + 1) (nI j) (nI (R + j)) st (ms_cl pe R (R + j)) (ms_cl he R (R + j)) es (ms_im cw) (ms_im rt) (ms_im una) (ms_im nxt) (ms_im high) rn (ms_im cn) (ms_im cs) (ms_im cd) (ms_im cl) (ms_im rd) (ms_im rl) := by
  obtain ⟨h1, h2, h3⟩ := hm
  intro k
  induction k with
  | zero =>
    intro j hj
    have e : j = m := by omega
    subst e
    refine pk_le 256 (R + j) (fun _ => hp) (fun z => ⟨pk_in (R + j) 256 (by omega), br_t ?_ hp⟩)
    rw [nI_clamp (by omega), ms_clo (by omega)]
    rcases h3 with h3 | h3
    · omega
    · exact h3
  | succ k ih =>
    intro j hj
    have g := ih (j + 1) (by omega)
    rw [← Nat.add_assoc, ← ms_clS pe (Nat.le_add_right R j), ← ms_clS he (Nat.le_add_right R j)] at g
    refine pk_le 256 (R + j) (fun z => absurd z (by omega)) (fun z => ⟨pk_in (R + j) 256 (by omega), br_f ?_ ⟨pk_in (R + j) 256 (by omega), nm_r (by rw [nI_clamp (by omega)]) ⟨pk_in (R + j) 256 (by omega), nm_r (by rw [nI_clamp (by omega)]) (nm_r (nI_1 (R + j)) (nm_r (nI_1 j) g))⟩⟩⟩)
    rw [nI_clamp (by omega), ms_clo (by omega)]
    exact h2 j (by omega)
theorem ms_x_pre {post : Int32 → St2 → Prop} {m : Nat} (hm : ms_px he R m) (hp : post (nI m) (ms_X B W (R + m) sent disc st (ms_cl pe R (R + m)) (ms_cl he R (R + m)) es cw rt una nxt high rn cn cs cd cl rd rl)) : wpX_deliverPrefix post (ms_X B W R sent disc st pe he es cw rt una nxt high rn cn cs cd cl rd rl) := by
  have h := ms_x_prel hm hp m 0 (Nat.zero_add m)
  rw [Nat.add_zero R, ms_cl0, ms_cl0] at h
  exact ⟨_, h⟩
theorem ms_x_ril {post : St2 → Prop} {d l : Nat} (hd : d + l ≤ 256) (hR : R ≤ 256) (hp : post (ms_X B W R sent disc st (ms_ri pe R d l) he es cw rt una nxt high rn cn cs cd cl rd rl)) : ∀ m j, j + m = l → wX_reinject_2 post (nI d) (nI l) B (nI W) (nI R) sent disc (m + 1) (nI (d + j)) st (ms_ri pe R d j) he es (ms_im cw) (ms_im rt) (ms_im una) (ms_im nxt) (ms_im high) rn (ms_im cn) (ms_im cs) (ms_im cd) (ms_im cl) (ms_im rd) (ms_im rl) := by
  intro m
  induction m with
  | zero =>
    intro j hj
    have e : j = l := by omega
    subst e
    exact pk_le (d + j) (d + j) (fun _ => hp) (fun z => absurd z (by omega)) (nI_add d j)
  | succ m ih =>
    intro j hj
    have g := ih (j + 1) (by omega)
    refine pk_le (d + l) (d + j) (fun z => absurd z (by omega)) (fun _ => ?_) (nI_add d l)
    refine pk_lt (d + j) R (fun z => ?_) (fun z => ⟨pk_in (d + j) 256 (by omega), nm_r (by rw [nI_clamp (by omega), ms_riS pe z]) (nm_r (nI_1 (d + j)) g)⟩)
    rw [← ms_riK pe z] at g
    exact nm_r (nI_1 (d + j)) g
theorem ms_x_ri {post : St2 → Prop} {d l : Nat} (hd : d + l ≤ 256) (hR : R ≤ 256) (hp : post (ms_X B W R sent disc st (ms_ri pe R d l) he es cw rt una nxt high rn cn cs cd cl rd rl)) : wpX_reinject post (ms_X B W R sent disc st pe he es cw rt una nxt high rn cn cs cd cl rd rl) (nI d) (nI l) := by
  have h := ms_x_ril hd hR hp l 0 (Nat.zero_add l)
  rw [ms_ri0] at h
  exact ⟨_, h⟩
end
