section
variable {B : Int32} {W R : Nat} {sent disc : Int32} {st pe he es : Nat → Int32} {cw rt una nxt high : Nat → Nat} {rn : Nat → Int32} {cn cs cd cl rd rl : Nat → Nat} {N : Nat} {ysf yss yds yle : Nat → Nat} {a h c : Nat}
theorem ms_k_b (hct : ms_ct h es una nxt high rn) (hrc : ms_rc W es una high rd rl N ysf yss yds yle) (hh : h < 2 ^ 30) : ∀ i, i < N → ysf i < 2 ^ 31 ∧ yss i < 2 ^ 31 := by
  intro i hi
  obtain ⟨w1, _, _, w4, _⟩ := hrc.2.2.1 _ _ _ _ ⟨i, hi, rfl, rfl, rfl, rfl⟩
  obtain ⟨_, _, _, q4, _⟩ := hct _ w1
  exact ⟨by omega, by omega⟩
/-- one segment is sent, on both sides alike -/
theorem ms_step {e : Nat} (ha : a < 3) (hfg : ms_fg R W pe he) (hct : ms_ct h es una nxt high rn) (hwd : ms_wd cw rt) (hch : ms_ch W high cn cs cd cl) (hrc : ms_rc W es una high rd rl N ysf yss yds yle) (hsm : c ≤ ms_sm una nxt) (hh : h < 2 ^ 29) (hlp : ms_lp pe R W e) (h0 : ms_rf es cw una nxt high cn e W a = 0) :
    ∃ (l : Nat) (u' : SX) (v' : SY), 1 ≤ l ∧ l ≤ 4 ∧ ms_R (h + 1) (c + 1) u' v' ∧ (∀ post : Int32 → SX → Prop, post (nI l) u' → wpX_sendNext post (ms_X B W R sent disc st pe he es cw rt una nxt high rn cn cs cd cl rd rl) (nI a)) ∧ (∀ post : Int32 → SY → Prop, post (nI l) v' → wpY_send post (ms_Y B W R R sent disc st pe he es cw rt una nxt high rn cn cs cd cl N ysf yss yds yle) (nI a)) := by
  obtain ⟨es1, w1, n8, enW⟩ := ms_rf0 h0
  obtain ⟨c1, c2, c3, c4, _⟩ := hct a ha
  obtain ⟨_, d2, _, _⟩ := hwd a ha
  obtain ⟨k8, _⟩ := hch a ha
  have f2 := hfg.2.1
  have w8 := ms_wib (cw a)
  have hs : c + 1 ≤ ms_sm una (ms_un nxt a (nxt a + 1)) := by rw [ms_smS ha c1]; omega
  by_cases hx : nxt a = high a
  · have hl2 := hlp.2.1
    have heW : e < W := by
      have := enW hx
      omega
    obtain ⟨l, hl⟩ := ms_lnE pe (W := W) (d := e) hl2
    have l1 := ms_ln1 hl heW (hlp.2.2.2 heW)
    have room := ms_room hrc (ms_k_hi hct) ha (by omega)
    refine ⟨l, (ms_X B W R (sent + 1) disc st (ms_cl pe e (e + l)) he es cw rt una (ms_un nxt a (nxt a + 1)) (ms_un high a (high a + 1)) rn (ms_un cn a (cn a + 1)) (ms_un cs (a * 8 + cn a) (high a)) (ms_un cd (a * 8 + cn a) e) (ms_un cl (a * 8 + cn a) l) (ms_un rd (a * 8 + high a % 8) e) (ms_un rl (a * 8 + high a % 8) l)),
      (ms_Y B W R R (sent + 1) disc st (ms_cl pe e (e + l)) he es cw rt una (ms_un nxt a (nxt a + 1)) (ms_un high a (high a + 1)) rn (ms_un cn a (cn a + 1)) (ms_un cs (a * 8 + cn a) (high a)) (ms_un cd (a * 8 + cn a) e) (ms_un cl (a * 8 + cn a) l) (N + 1) (ms_un ysf N a) (ms_un yss N (high a)) (ms_un yds N e) (ms_un yle N l)),
      l1, hl.1, ?_, fun post hp => ?_, fun post hp => ?_⟩
    · exact ms_mk (ms_k_cl hfg _ _) (ms_k_new hct hx (by omega)) hwd (ms_ch_push (ms_chW (Nat.le_refl _) (ms_k_le a) hch) ha (by omega) (by rw [ms_us]; omega) hl.2.1) (ms_rc_new hrc (ms_k_hi hct) ha es1 (by omega) l1 hl.1 hl.2.1) hs
    · exact ms_x_next2 ha (by omega) hx (by omega) f2 hlp hl hp
    · exact ms_y_s2 ha es1 c1 w1 d2 (by omega) hx (by omega) (by omega) f2 hlp heW hl hp
  · have hlt : nxt a < high a := by omega
    obtain ⟨j, j1, j2, j3, j4, j5, j6⟩ := ms_k_find hrc ha es1 c1 hlt
    obtain ⟨r1, r2, r3⟩ := ms_xrE hrc a (nxt a) ha es1 c1 hlt
    refine ⟨rl (a * 8 + nxt a % 8), (ms_X B W R (sent + 1) disc st pe he es cw rt una (ms_un nxt a (nxt a + 1)) high rn (ms_un cn a (cn a + 1)) (ms_un cs (a * 8 + cn a) (nxt a)) (ms_un cd (a * 8 + cn a) (rd (a * 8 + nxt a % 8))) (ms_un cl (a * 8 + cn a) (rl (a * 8 + nxt a % 8))) rd rl),
      (ms_Y B W R R (sent + 1) disc st pe he es cw rt una (ms_un nxt a (nxt a + 1)) high rn (ms_un cn a (cn a + 1)) (ms_un cs (a * 8 + cn a) (nxt a)) (ms_un cd (a * 8 + cn a) (rd (a * 8 + nxt a % 8))) (ms_un cl (a * 8 + cn a) (rl (a * 8 + nxt a % 8))) N ysf yss yds yle),
      r1, r2, ?_, fun post hp => ?_, fun post hp => ?_⟩
    · exact ms_mk hfg (ms_ctH (by omega) (ms_k_send hct hlt)) hwd (ms_ch_push hch ha (by omega) hlt r3) hrc hs
    · exact ms_x_next1 ha (by omega) (by omega) hx (by omega) hp
    · exact ms_y_s1 ha es1 c1 w1 d2 (by omega) hlt (by omega) hrc.1 j1 j2 j3 j6 (ms_k_b hct hrc (by omega)) (by rw [j4, j5]; exact hp)
/-- the fastest, by the class -/
theorem ms_x_fel {post : Int32 → Prop} {e : Nat} (hW : W ≤ 256) (hlp : ms_lp pe R W e) (hct : ms_ct h es una nxt high rn) (hwd : ms_wd cw rt) (hch : ms_ch W high cn cs cd cl) (hh : h < 2 ^ 29) (hp : post (ms_bi (ms_bs (ms_rf es cw una nxt high cn e W) rt 3))) : ∀ k i, i + k = 3 → wX_fastestEligible_4 post B (nI W) (nI R) sent disc st pe he es (ms_im cw) (ms_im rt) (ms_im una) (ms_im nxt) (ms_im high) rn (ms_im cn) (ms_im cs) (ms_im cd) (ms_im cl) (ms_im rd) (ms_im rl) (k + 1) (ms_bi (ms_bs (ms_rf es cw una nxt high cn e W) rt i)) (nI i) := by
  intro k
  induction k with
  | zero =>
    intro i hi
    have e0 : i = 3 := by omega
    subst e0
    exact pk_le 3 3 (fun _ => hp) (fun z => absurd z (by omega))
  | succ k ih =>
    intro i hi
    have g := ih (i + 1) (by omega)
    obtain ⟨c1, c2, c3, c4, _⟩ := hct i (by omega)
    obtain ⟨_, d2, d3, d4⟩ := hwd i (by omega)
    obtain ⟨k8, _⟩ := hch i (by omega)
    refine pk_le 3 i (fun z => absurd z (by omega)) (fun _ => ms_x_ref (by omega) hW hlp c1 c2 (by omega) d2 k8 ?_)
    have hb := ms_bsb (f := ms_rf es cw una nxt high cn e W) (rt := rt) i
    rw [ms_bs] at g
    generalize ms_bs (ms_rf es cw una nxt high cn e W) rt i = b at g hb ⊢
    by_cases q1 : ms_rf es cw una nxt high cn e W i = 0
    · refine br_t q1 ?_
      by_cases q2 : b = 3
      · rw [if_pos ⟨q1, Or.inl q2⟩] at g
        refine br_t (by rw [q2]; exact if_pos rfl) (nm_r (nI_1 i) ?_)
        unfold ms_bi at g
        rw [if_neg (by omega)] at g
        exact g
      · have hb3 : b < 3 := by omega
        have hb' : ms_bi b = nI b := by unfold ms_bi; rw [if_neg q2]
        obtain ⟨_, _, e3, e4⟩ := hwd b hb3
        rw [hb']
        refine br_f (ms_nm1 (by omega)) ⟨pk_in i 3 (by omega), pk_in b 3 hb3, pk_le (rt b) (rt i) (fun z => ?_) (fun z => ?_) (ms_at (by omega)) (ms_at (by omega))⟩
        · rw [if_neg (by omega), hb'] at g
          exact nm_r (nI_1 i) g
        · rw [if_pos ⟨q1, Or.inr z⟩] at g
          unfold ms_bi at g
          rw [if_neg (by omega)] at g
          exact nm_r (nI_1 i) g
    · rw [if_neg (fun z => q1 z.1)] at g
      exact br_f q1 (nm_r (nI_1 i) g)
end
section
variable {B : Int32} {W R : Nat} {sent disc : Int32} {st pe he es : Nat → Int32} {cw rt una nxt high : Nat → Nat} {rn : Nat → Int32} {cn cs cd cl rd rl : Nat → Nat} {N : Nat} {ysf yss yds yle : Nat → Nat} {a h c : Nat}
theorem ms_x_fe {post : Int32 → Prop} {e : Nat} (hW : W ≤ 256) (hlp : ms_lp pe R W e) (hct : ms_ct h es una nxt high rn) (hwd : ms_wd cw rt) (hch : ms_ch W high cn cs cd cl) (hh : h < 2 ^ 29) (hp : post (ms_bi (ms_bs (ms_rf es cw una nxt high cn e W) rt 3))) : wpX_fastestEligible post (ms_X B W R sent disc st pe he es cw rt una nxt high rn cn cs cd cl rd rl) :=
  ⟨4, ms_x_fel hW hlp hct hwd hch hh hp 3 0 rfl⟩
end
