section
variable {B : Int32} {W R : Nat} {sent disc : Int32} {st pe he es : Nat → Int32} {cw rt una nxt high : Nat → Nat} {rn : Nat → Int32} {cn cs cd cl rd rl : Nat → Nat} {a h c : Nat}
/-- the class's deliver: another number -/
theorem ms_x_dn {post : Int32 → St2 → Prop} (ha : a < 3) (h0 : 0 < cn a) (h8 : cn a ≤ 8) (hne : ¬ nI (cs (a * 8)) = rn a) (hp : post 0 (ms_X B W R sent disc st pe he es cw rt una nxt high rn (ms_un cn a (cn a - 1)) (ms_sh cs (a * 8) (a * 8 + (cn a - 1))) (ms_sh cd (a * 8) (a * 8 + (cn a - 1))) (ms_sh cl (a * 8) (a * 8 + (cn a - 1))) rd rl)) : wpX_deliver post (ms_X B W R sent disc st pe he es cw rt una nxt high rn cn cs cd cl rd rl) (nI a) := by
  unfold wpX_deliver
  refine ms_x_sub ha ?_
  refine br_f (by decide) ⟨pk_in a 3 ha, pk_eq (cn a) 0 (fun z => absurd z (by omega)) (fun _ => ?_) (ms_at (by omega))⟩
  refine nm_r (ms_m8 a) ⟨pk_in (a * 8) 24 (by omega), nm_r (ms_at (by omega)) ⟨pk_in (a * 8) 24 (by omega), nm_r (ms_at (by omega)) ⟨pk_in (a * 8) 24 (by omega), nm_r (ms_at (by omega)) ?_⟩⟩⟩
  refine ms_x_pop ha h0 h8 ⟨pk_in a 3 ha, ?_⟩
  rw [nI_clamp (show a < 2 ^ 31 by omega)]
  exact br_f hne hp
/-- the class's deliver: the next number, a failed subflow -/
theorem ms_x_df {post : Int32 → St2 → Prop} {m : Nat} (ha : a < 3) (h0 : 0 < cn a) (h8 : cn a ≤ 8) (heq : nI (cs (a * 8)) = rn a) (hes : ¬ es a = 1) (hd : cd (a * 8) + cl (a * 8) ≤ 256) (hm : ms_px (ms_hd R B (cd (a * 8)) disc he (cl (a * 8))).2 R m) (hp : post (nI m) (ms_X B W (R + m) sent ((ms_hd R B (cd (a * 8)) disc he (cl (a * 8))).1) st (ms_cl pe R (R + m)) (ms_cl (ms_hd R B (cd (a * 8)) disc he (cl (a * 8))).2 R (R + m)) es cw rt una nxt high (upd rn a (rn a + 1)) (ms_un cn a (cn a - 1)) (ms_sh cs (a * 8) (a * 8 + (cn a - 1))) (ms_sh cd (a * 8) (a * 8 + (cn a - 1))) (ms_sh cl (a * 8) (a * 8 + (cn a - 1))) rd rl)) : wpX_deliver post (ms_X B W R sent disc st pe he es cw rt una nxt high rn cn cs cd cl rd rl) (nI a) := by
  unfold wpX_deliver
  refine ms_x_sub ha ?_
  refine br_f (by decide) ⟨pk_in a 3 ha, pk_eq (cn a) 0 (fun z => absurd z (by omega)) (fun _ => ?_) (ms_at (by omega))⟩
  refine nm_r (ms_m8 a) ⟨pk_in (a * 8) 24 (by omega), nm_r (ms_at (by omega)) ⟨pk_in (a * 8) 24 (by omega), nm_r (ms_at (by omega)) ⟨pk_in (a * 8) 24 (by omega), nm_r (ms_at (by omega)) ?_⟩⟩⟩
  refine ms_x_pop ha h0 h8 ⟨pk_in a 3 ha, ?_⟩
  rw [nI_clamp (show a < 2 ^ 31 by omega)]
  refine br_t heq ⟨pk_in a 3 ha, pk_in a 3 ha, nm_e (ms_x_hold hd (ms_x_pre hm (ms_x_est ha ?_)))⟩
  rw [if_neg hes]
  exact br_t rfl hp
/-- the class's deliver: the next number, an established subflow -/
theorem ms_x_de {post : Int32 → St2 → Prop} {m b : Nat} (ha : a < 3) (h0 : 0 < cn a) (h8 : cn a ≤ 8) (heq : nI (cs (a * 8)) = rn a) (hes : es a = 1) (hwd : ms_wd cw rt) (hrn : rn a + 1 = nI b) (hb : b < 2 ^ 30) (hx : nxt a < 2 ^ 30) (hd : cd (a * 8) + cl (a * 8) ≤ 256) (hm : ms_px (ms_hd R B (cd (a * 8)) disc he (cl (a * 8))).2 R m) (hp : ∀ n2 : Nat → Nat, ((nxt a < b ∧ n2 = ms_un nxt a b) ∨ (b ≤ nxt a ∧ n2 = nxt)) → post (nI m) (ms_X B W (R + m) sent ((ms_hd R B (cd (a * 8)) disc he (cl (a * 8))).1) st (ms_cl pe R (R + m)) (ms_cl (ms_hd R B (cd (a * 8)) disc he (cl (a * 8))).2 R (R + m)) es (ms_un cw a (ms_nc (ms_M es cw rt 3) (ms_S es cw rt 3) (cw a))) rt (ms_un una a b) n2 high (upd rn a (rn a + 1)) (ms_un cn a (cn a - 1)) (ms_sh cs (a * 8) (a * 8 + (cn a - 1))) (ms_sh cd (a * 8) (a * 8 + (cn a - 1))) (ms_sh cl (a * 8) (a * 8 + (cn a - 1))) rd rl)) : wpX_deliver post (ms_X B W R sent disc st pe he es cw rt una nxt high rn cn cs cd cl rd rl) (nI a) := by
  unfold wpX_deliver
  refine ms_x_sub ha ?_
  refine br_f (by decide) ⟨pk_in a 3 ha, pk_eq (cn a) 0 (fun z => absurd z (by omega)) (fun _ => ?_) (ms_at (by omega))⟩
  refine nm_r (ms_m8 a) ⟨pk_in (a * 8) 24 (by omega), nm_r (ms_at (by omega)) ⟨pk_in (a * 8) 24 (by omega), nm_r (ms_at (by omega)) ⟨pk_in (a * 8) 24 (by omega), nm_r (ms_at (by omega)) ?_⟩⟩⟩
  refine ms_x_pop ha h0 h8 ⟨pk_in a 3 ha, ?_⟩
  rw [nI_clamp (show a < 2 ^ 31 by omega)]
  refine br_t heq ⟨pk_in a 3 ha, pk_in a 3 ha, nm_e (ms_x_hold hd (ms_x_pre hm (ms_x_est ha ?_)))⟩
  rw [if_pos hes]
  exact br_f (by decide) (ms_x_ack ha hwd hes (by rw [pk_us]; exact hrn) hb hx hp)
theorem ms_x_faill {post : Int32 → St2 → Prop} (ha : a < 3) (hes : es a = 1) (hu : una a ≤ high a) (hh : high a < 2 ^ 30) (hxr : ms_xr W es una high rd rl) (hW : W ≤ 256) (hR : R ≤ 256) (hp : post 1 (ms_X B W R sent disc st (ms_fx pe R rd rl a (una a) (high a - una a)) he (upd es a 2) cw rt una nxt high rn cn cs cd cl rd rl)) : ∀ k j, j + k = high a - una a → wX_fail_24 post (nI a) (k + 1) (nI (una a + j)) B (nI W) (nI R) sent disc st (ms_fx pe R rd rl a (una a) j) he es (ms_im cw) (ms_im rt) (ms_im una) (ms_im nxt) (ms_im high) rn (ms_im cn) (ms_im cs) (ms_im cd) (ms_im cl) (ms_im rd) (ms_im rl) := by
  intro k
  induction k with
  | zero =>
    intro j hj
    have e : j = high a - una a := by omega
    subst e
    exact ⟨pk_in a 3 ha, pk_le (high a) (una a + (high a - una a)) (fun _ => ⟨pk_in a 3 ha, nm_r (ms_cu (by omega)) hp⟩) (fun z => absurd z (by omega)) (ms_at (by omega))⟩
  | succ k ih =>
    intro j hj
    have g := ih (j + 1) (by omega)
    obtain ⟨r1, r2, r3⟩ := hxr a (una a + j) ha hes (by omega) (by omega)
    refine ⟨pk_in a 3 ha, pk_le (high a) (una a + j) (fun z => absurd z (by omega)) (fun _ => ms_x_slot (by omega) ⟨pk_in (a * 8 + (una a + j) % 8) 24 (by omega), pk_in (a * 8 + (una a + j) % 8) 24 (by omega), ?_⟩) (ms_at (by omega))⟩
    rw [ms_at (by omega), ms_at (by omega)]
    exact ms_x_ri (by omega) hR (nm_r (nI_1 (una a + j)) g)
theorem ms_x_fail {post : Int32 → St2 → Prop} (ha : a < 3) (hes : es a = 1) (hu : una a ≤ high a) (hh : high a < 2 ^ 30) (hxr : ms_xr W es una high rd rl) (hW : W ≤ 256) (hR : R ≤ 256) (hp : post 1 (ms_X B W R sent disc st (ms_fx pe R rd rl a (una a) (high a - una a)) he (upd es a 2) cw rt una nxt high rn cn cs cd cl rd rl)) : wpX_fail post (ms_X B W R sent disc st pe he es cw rt una nxt high rn cn cs cd cl rd rl) (nI a) := by
  unfold wpX_fail
  refine ms_x_sub ha ?_
  refine br_f (by decide) ?_
  refine ms_x_est ha ?_
  rw [if_pos hes]
  exact br_f (by decide) ⟨pk_in a 3 ha, nm_r (ms_at (by omega)) ⟨_, ms_x_faill ha hes hu hh hxr hW hR hp (high a - una a) 0 (Nat.zero_add _)⟩⟩
theorem ms_x_refb {post : Int32 → Prop} {x : Int32} (hx : x < 0 ∨ (3 : Int32) ≤ x) (hp : post (-1)) : wpX_refusalOfSend post (ms_X B W R sent disc st pe he es cw rt una nxt high rn cn cs cd cl rd rl) x := by
  unfold wpX_refusalOfSend
  refine ms_x_nsb hx ?_
  exact br_t rfl hp
theorem ms_x_60 {post : Int32 → St2 → Prop} {c : Nat} (ha : a < 3) (hp : post 1 (ms_X B W R sent disc st pe he es (ms_un cw a c) rt una (ms_un nxt a (una a)) high rn cn cs cd cl rd rl)) : wX_timeout_60 post (nI a) (nI c) (nI a) B (nI W) (nI R) sent disc st pe he es (ms_im cw) (ms_im rt) (ms_im una) (ms_im nxt) (ms_im high) rn (ms_im cn) (ms_im cs) (ms_im cd) (ms_im cl) (ms_im rd) (ms_im rl) :=
  ⟨pk_in a 3 ha, nm_r (ms_up (by omega)) ⟨pk_in a 3 ha, pk_in a 3 ha, nm_r (by rw [ms_at (by omega)]; exact ms_up (by omega)) hp⟩⟩
theorem ms_x_to {post : Int32 → St2 → Prop} (ha : a < 3) (hes : es a = 1) (hc : cw a ≤ 4096) (hh : high a < 2 ^ 30) (hu : una a < high a) (hp : post 1 (ms_X B W R sent disc st pe he es (ms_un cw a (if cw a / 2 < 256 then 256 else cw a / 2)) rt una (ms_un nxt a (una a)) high rn cn cs cd cl rd rl)) : wpX_timeout post (ms_X B W R sent disc st pe he es cw rt una nxt high rn cn cs cd cl rd rl) (nI a) := by
  unfold wpX_timeout
  refine ms_x_sub ha ?_
  refine br_f (by decide) ?_
  refine ms_x_est ha ?_
  rw [if_pos hes]
  refine br_f (by decide) ⟨pk_in a 3 ha, pk_in a 3 ha, pk_eq (high a) (una a) (fun z => absurd z (by omega)) (fun _ => ⟨pk_in a 3 ha, by decide, nm_r (e' := nI (cw a / 2)) ?_ ?_⟩) (ms_at (by omega)) (ms_at (by omega))⟩
  · rw [ms_at (by omega)]
    exact pk_div (d := 2) (by omega) (by decide) (by decide)
  · refine pk_le 256 (cw a / 2) (fun z => ?_) (fun z => ?_)
    · rw [if_neg (by omega)] at hp
      exact ms_x_60 ha hp
    · rw [if_pos z] at hp
      exact ms_x_60 ha hp
end
