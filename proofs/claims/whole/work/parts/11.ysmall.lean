theorem ms_shR {f : Nat → Nat} {i q : Nat} (h : i ≤ q) (hq : q < 1000) : upd (ms_im (ms_sh f i q)) (nI (q + 1) - 1).toNatClampNeg (ms_im (ms_sh f i q) (nI (q + 1)).toNatClampNeg) = ms_im (ms_sh f i (q + 1)) := by
  rw [nI_pred, ms_at (by omega), ms_up (by omega), ms_shS f h]
section
variable {B : Int32} {W R : Nat} {sent disc : Int32} {st pe he es : Nat → Int32} {cw rt una nxt high : Nat → Nat} {rn : Nat → Int32} {cn cs cd cl : Nat → Nat} {N : Nat} {ysf yss yds yle : Nat → Nat} {a U : Nat}
theorem ms_y_sub {post : Int32 → Prop} (ha : a < 3) (hp : post 0) : wpY_bad post (ms_Y B W R R sent disc st pe he es cw rt una nxt high rn cn cs cd cl N ysf yss yds yle) (nI a) :=
  br_f (nI_pos (by omega)) (br_t (nI_le (b := 2) (by omega) (by decide)) hp)
theorem ms_y_nsb {post : Int32 → Prop} {x : Int32} (hx : x < 0 ∨ (3 : Int32) ≤ x) (hp : post 1) : wpY_bad post (ms_Y B W R R sent disc st pe he es cw rt una nxt high rn cn cs cd cl N ysf yss yds yle) x := by
  by_cases h : x < 0
  · exact br_t h hp
  · rcases hx with hx | hx
    · exact absurd hx h
    · refine br_f h (br_f ?_ hp)
      obtain ⟨j, hj, rfl⟩ := nI_of h
      have h3 : 3 ≤ j := by
        rw [← nI_leI (by decide) hj]
        exact hx
      exact nI_ge (a := 2) (by omega) hj
theorem ms_y_win {post : Int32 → Prop} (ha : a < 3) (hc : cw a ≤ 4096) (hp : post (nI (ms_wi (cw a)))) : wpY_window post (ms_Y B W R R sent disc st pe he es cw rt una nxt high rn cn cs cd cl N ysf yss yds yle) (nI a) := by
  refine ⟨pk_in a 3 ha, by decide, ?_⟩
  refine nm_r (e' := nI (cw a / 256)) ?_ ?_
  · rw [ms_at (by omega)]
    exact pk_div (d := 256) (by omega) (by decide) (by decide)
  · unfold ms_wi at hp
    have h8 : cw a / 256 < 2 ^ 31 := by omega
    refine pk_le (cw a / 256) 8 (fun z => ?_) (fun z => ?_)
    · rw [if_neg (by omega)] at hp
      exact hp
    · rw [if_pos z] at hp
      exact hp
theorem ms_y_any {post : Int32 → Prop} {e : Nat} (hW : W ≤ 256) (hl : ms_lp pe R W e) (hp : post (if e = W then 0 else 1)) : wpY_anyPending post (ms_Y B W R R sent disc st pe he es cw rt una nxt high rn cn cs cd cl N ysf yss yds yle) := by
  obtain ⟨h1, h2, h3, h4⟩ := hl
  refine pk_loop (σ := Unit) (fun n i _ => wY_anyPending_5 post B (nI N) (nI W) (nI R) (nI R) sent disc (ms_im rt) es (ms_im cw) (ms_im una) (ms_im nxt) (ms_im high) rn (ms_im cn) (ms_im cs) (ms_im cd) (ms_im cl) (ms_im ysf) (ms_im yss) (ms_im yds) (ms_im yle) st pe he n (nI i)) (fun i _ => R ≤ i) e R () h1 (Nat.le_refl R) ?_ ?_
  · intro n _ _
    refine pk_le W e (fun z => ?_) (fun z => br_f (nI_pos (by omega)) (pk_le 256 e (fun z2 => absurd z2 (by omega)) (fun _ => ⟨pk_in e 256 (by omega), br_f (by rw [nI_clamp (by omega)]; exact h4 z) ?_⟩)))
    · rw [if_pos (show e = W by omega)] at hp
      exact hp
    · rw [if_neg (by omega)] at hp
      exact hp
  · intro n i _ hi hr hw
    exact pk_le W i (fun z => absurd z (by omega)) (fun z => br_f (nI_pos (by omega)) (pk_le 256 i (fun z2 => absurd z2 (by omega)) (fun _ => ⟨pk_in i 256 (by omega), br_t (by rw [nI_clamp (by omega)]; exact h3 i hr hi) (nm_r (nI_1 i) (hw () (by omega)))⟩)))
theorem ms_y_el {post : Int32 → Prop} {e : Nat} (ha : a < 3) (hW : W ≤ 256) (hl : ms_lp pe R W e) (h1 : una a ≤ nxt a) (h2 : nxt a ≤ high a) (h3 : high a < 2 ^ 31) (hc : cw a ≤ 4096) (hn : cn a ≤ 8) (hp : post (if ms_rf es cw una nxt high cn e W a = 0 then 1 else 0)) : wpY_eligible post (ms_Y B W R R sent disc st pe he es cw rt una nxt high rn cn cs cd cl N ysf yss yds yle) (nI a) := by
  have hw := ms_wib (cw a)
  have he2 := hl.2.1
  refine ⟨pk_in a 3 ha, ?_⟩
  rw [nI_clamp (show a < 2 ^ 31 by omega)]
  by_cases c1 : es a = 1
  · refine br_t c1 ⟨pk_in a 3 ha, pk_in a 3 ha, ms_y_win ha hc ?_⟩
    refine pk_lt (nxt a - una a) (ms_wi (cw a)) (fun c2 => ?_) (fun c2 => ?_) (pk_sub h1)
    · have c2' : ¬ ms_wi (cw a) ≤ nxt a - una a := by omega
      refine ⟨pk_in a 3 ha, pk_lt (cn a) 8 (fun c3 => ?_) (fun c3 => ?_)⟩
      · have c3' : ¬ cn a = 8 := by omega
        refine ⟨pk_in a 3 ha, pk_in a 3 ha, pk_le (high a) (nxt a) (fun c4 => ?_) (fun c4 => ?_)⟩
        · refine ms_y_any hW hl ?_
          by_cases c5 : e = W
          · rw [ms_rfD c1 c2' c3' ⟨by omega, c5⟩, if_neg (by decide)] at hp
            rw [if_pos c5]
            exact ⟨rfl, hp⟩
          · rw [ms_rfE c1 c2' c3' (fun z => c5 z.2), if_pos rfl] at hp
            rw [if_neg c5]
            exact ⟨rfl, hp⟩
        · rw [ms_rfE c1 c2' c3' (by omega), if_pos rfl] at hp
          exact hp
      · rw [ms_rfC c1 c2' (by omega), if_neg (by decide)] at hp
        exact hp
    · rw [ms_rfB c1 c2, if_neg (by decide)] at hp
      exact hp
  · rw [ms_rfA c1, if_neg (by decide)] at hp
    exact br_f c1 hp
theorem ms_y_push {post : SY → Prop} {s d l : Nat} (ha : a < 3) (hn : cn a < 8) (hp : post (ms_Y B W R R sent disc st pe he es cw rt una nxt high rn (ms_un cn a (cn a + 1)) (ms_un cs (a * 8 + cn a) s) (ms_un cd (a * 8 + cn a) d) (ms_un cl (a * 8 + cn a) l) N ysf yss yds yle)) : wpY_push post (ms_Y B W R R sent disc st pe he es cw rt una nxt high rn cn cs cd cl N ysf yss yds yle) (nI a) (nI s) (nI d) (nI l) :=
  ⟨pk_in a 3 ha, pk_lt (cn a) 8 (fun _ => ⟨pk_in a 3 ha, nm_r (e' := nI (a * 8 + cn a)) (by rw [ms_at (by omega)]; exact ms_sl a (cn a)) ⟨pk_in (a * 8 + cn a) 24 (by omega), nm_r (ms_up (by omega)) ⟨pk_in (a * 8 + cn a) 24 (by omega), nm_r (ms_up (by omega)) ⟨pk_in (a * 8 + cn a) 24 (by omega), nm_r (ms_up (by omega)) ⟨pk_in a 3 ha, pk_in a 3 ha, nm_r (ms_ic (by omega)) hp⟩⟩⟩⟩⟩) (fun z => absurd z (by omega)) (ms_at (by omega))⟩
theorem ms_y_popx {post : SY → Prop} (ha : a < 3) (h0 : 0 < cn a) (h8 : cn a ≤ 8) (hp : post (ms_Y B W R R sent disc st pe he es cw rt una nxt high rn (ms_un cn a (cn a - 1)) cs cd cl N ysf yss yds yle)) : wY_popHead_83 post (nI a) B (nI N) (nI W) (nI R) (nI R) sent disc (ms_im rt) es (ms_im cw) (ms_im una) (ms_im nxt) (ms_im high) rn (ms_im cn) (ms_im cs) (ms_im cd) (ms_im cl) (ms_im ysf) (ms_im yss) (ms_im yds) (ms_im yle) st pe he :=
  ⟨pk_in a 3 ha, pk_le (cn a) 0 (fun z => absurd z (by omega)) (fun _ => ⟨pk_in a 3 ha, pk_in a 3 ha, nm_r (by rw [ms_at (by omega), ms_d1 h0]; exact ms_up (by omega)) hp⟩) (ms_at (by omega))⟩
theorem ms_y_popl {post : SY → Prop} (ha : a < 3) (h0 : 0 < cn a) (h8 : cn a ≤ 8) (hp : post (ms_Y B W R R sent disc st pe he es cw rt una nxt high rn (ms_un cn a (cn a - 1)) (ms_sh cs (a * 8) (a * 8 + (cn a - 1))) (ms_sh cd (a * 8) (a * 8 + (cn a - 1))) (ms_sh cl (a * 8) (a * 8 + (cn a - 1))) N ysf yss yds yle)) : ∀ d j, j + d = cn a - 1 → wY_popHead_7 post (nI a) (nI (a * 8)) B (nI N) (nI W) (nI R) (nI R) sent disc (d + 1) (nI (j + 1)) (ms_im rt) es (ms_im cw) (ms_im una) (ms_im nxt) (ms_im high) rn (ms_im cn) (ms_im (ms_sh cs (a * 8) (a * 8 + j))) (ms_im (ms_sh cd (a * 8) (a * 8 + j))) (ms_im (ms_sh cl (a * 8) (a * 8 + j))) (ms_im ysf) (ms_im yss) (ms_im yds) (ms_im yle) st pe he := by
  intro d
  induction d with
  | zero =>
    intro j hj
    have e : j = cn a - 1 := by omega
    subst e
    exact ⟨pk_in a 3 ha, pk_le (cn a) (cn a - 1 + 1) (fun _ => ms_y_popx ha h0 h8 hp) (fun z => absurd z (by omega)) (ms_at (by omega))⟩
  | succ d ih =>
    intro j hj
    have b1 : nI (a * 8) + nI (j + 1) = nI (a * 8 + j + 1) := nI_add _ _
    have b2 : (nI (a * 8) + nI (j + 1)) - 1 = nI (a * 8 + j) := by rw [b1, nI_pred]
    exact ⟨pk_in a 3 ha, pk_le (cn a) (j + 1) (fun z => absurd z (by omega)) (fun _ => pk_le 8 (j + 1) (fun z => absurd z (by omega)) (fun _ => ⟨pk_in (a * 8 + j + 1) 24 (by omega) b1, pk_in (a * 8 + j) 24 (by omega) b2, nm_r (ms_shY (by omega)) ⟨pk_in (a * 8 + j + 1) 24 (by omega) b1, pk_in (a * 8 + j) 24 (by omega) b2, nm_r (ms_shY (by omega)) ⟨pk_in (a * 8 + j + 1) 24 (by omega) b1, pk_in (a * 8 + j) 24 (by omega) b2, nm_r (ms_shY (by omega)) (nm_r (nI_1 (j + 1)) (ih (j + 1) (by omega)))⟩⟩⟩)) (ms_at (by omega))⟩
theorem ms_y_pop {post : SY → Prop} (ha : a < 3) (h0 : 0 < cn a) (h8 : cn a ≤ 8) (hp : post (ms_Y B W R R sent disc st pe he es cw rt una nxt high rn (ms_un cn a (cn a - 1)) (ms_sh cs (a * 8) (a * 8 + (cn a - 1))) (ms_sh cd (a * 8) (a * 8 + (cn a - 1))) (ms_sh cl (a * 8) (a * 8 + (cn a - 1))) N ysf yss yds yle)) : wpY_popHead post (ms_Y B W R R sent disc st pe he es cw rt una nxt high rn cn cs cd cl N ysf yss yds yle) (nI a) := by
  have h := ms_y_popl ha h0 h8 hp (cn a - 1) 0 (Nat.zero_add _)
  rw [Nat.add_zero (a * 8), ms_sh0, ms_sh0, ms_sh0] at h
  exact nm_r (ms_m8 a) ⟨_, h⟩
theorem ms_y_find {post : Int32 → Prop} {b j : Nat} (hN : N ≤ 24) (hj : j < N) (h1 : ysf j = a) (h2 : yss j = b) (h3 : ∀ i, i < j → ¬ (ysf i = a ∧ yss i = b)) (hb : ∀ i, i < N → ysf i < 2 ^ 31 ∧ yss i < 2 ^ 31) (hp : post (nI j)) : wpY_findRecord post (ms_Y B W R R sent disc st pe he es cw rt una nxt high rn cn cs cd cl N ysf yss yds yle) (nI a) (nI b) := by
  have ha : a < 2 ^ 31 := by rw [← h1]; exact (hb j hj).1
  have hbb : b < 2 ^ 31 := by rw [← h2]; exact (hb j hj).2
  refine pk_loop (σ := Unit) (fun n i _ => wY_findRecord_2 post (nI a) (nI b) B (nI N) (nI W) (nI R) (nI R) sent disc (ms_im rt) es (ms_im cw) (ms_im una) (ms_im nxt) (ms_im high) rn (ms_im cn) (ms_im cs) (ms_im cd) (ms_im cl) (ms_im ysf) (ms_im yss) (ms_im yds) (ms_im yle) st pe he n (nI i)) (fun _ _ => True) j 0 () (Nat.zero_le j) trivial ?_ ?_
  · intro n _ _
    exact pk_le N j (fun z => absurd z (by omega)) (fun _ => pk_le 24 j (fun z => absurd z (by omega)) (fun _ => ⟨pk_in j 24 (by omega), br_t (by rw [ms_at (by omega), h1]) ⟨pk_in j 24 (by omega), br_t (by rw [ms_at (by omega), h2]) hp⟩⟩))
  · intro n i _ hi _ hw
    have g := nm_r (P := fun x => wY_findRecord_2 post (nI a) (nI b) B (nI N) (nI W) (nI R) (nI R) sent disc (ms_im rt) es (ms_im cw) (ms_im una) (ms_im nxt) (ms_im high) rn (ms_im cn) (ms_im cs) (ms_im cd) (ms_im cl) (ms_im ysf) (ms_im yss) (ms_im yds) (ms_im yle) st pe he n x) (nI_1 i) (hw () trivial)
    have hbi := hb i (by omega)
    refine pk_le N i (fun z => absurd z (by omega)) (fun _ => pk_le 24 i (fun z => absurd z (by omega)) (fun _ => ⟨pk_in i 24 (by omega), pk_eq (ysf i) a (fun q => ⟨pk_in i 24 (by omega), pk_eq (yss i) b (fun q2 => absurd ⟨q, q2⟩ (h3 i hi)) (fun _ => g) (ms_at (by omega)) rfl hbi.2 hbb⟩) (fun _ => g) (ms_at (by omega)) rfl hbi.1 ha⟩))
theorem ms_y_reml {post : SY → Prop} {i : Nat} (hN : N ≤ 24) (hi : i < N) (hp : post (ms_Y B W U R sent disc st pe he es cw rt una nxt high rn cn cs cd cl (N - 1) (ms_sh ysf i (N - 1)) (ms_sh yss i (N - 1)) (ms_sh yds i (N - 1)) (ms_sh yle i (N - 1)))) : ∀ k q, q + k = N - 1 → i ≤ q → wY_removeRecord_4 post B (nI N) (nI W) (nI U) (nI R) sent disc (k + 1) (nI (q + 1)) (ms_im rt) es (ms_im cw) (ms_im una) (ms_im nxt) (ms_im high) rn (ms_im cn) (ms_im cs) (ms_im cd) (ms_im cl) (ms_im (ms_sh ysf i q)) (ms_im (ms_sh yss i q)) (ms_im (ms_sh yds i q)) (ms_im (ms_sh yle i q)) st pe he := by
  intro k
  induction k with
  | zero =>
    intro q hq hl
    have e : q = N - 1 := by omega
    subst e
    exact pk_le N (N - 1 + 1) (fun _ => pk_le N 0 (fun z => absurd z (by omega)) (fun _ => nm_r (ms_d1 (by omega)) hp)) (fun z => absurd z (by omega))
  | succ k ih =>
    intro q hq hl
    have b2 : nI (q + 1) - 1 = nI q := nI_pred q
    exact pk_le N (q + 1) (fun z => absurd z (by omega)) (fun _ => pk_le 24 (q + 1) (fun z => absurd z (by omega)) (fun _ => ⟨pk_in (q + 1) 24 (by omega), pk_in q 24 (by omega) b2, nm_r (ms_shR hl (by omega)) ⟨pk_in (q + 1) 24 (by omega), pk_in q 24 (by omega) b2, nm_r (ms_shR hl (by omega)) ⟨pk_in (q + 1) 24 (by omega), pk_in q 24 (by omega) b2, nm_r (ms_shR hl (by omega)) ⟨pk_in (q + 1) 24 (by omega), pk_in q 24 (by omega) b2, nm_r (ms_shR hl (by omega)) (nm_r (nI_1 (q + 1)) (ih (q + 1) (by omega) (by omega)))⟩⟩⟩⟩))
theorem ms_y_rem {post : SY → Prop} {i : Nat} (hN : N ≤ 24) (hi : i < N) (hp : post (ms_Y B W U R sent disc st pe he es cw rt una nxt high rn cn cs cd cl (N - 1) (ms_sh ysf i (N - 1)) (ms_sh yss i (N - 1)) (ms_sh yds i (N - 1)) (ms_sh yle i (N - 1)))) : wpY_removeRecord post (ms_Y B W U R sent disc st pe he es cw rt una nxt high rn cn cs cd cl N ysf yss yds yle) (nI i) := by
  have h := ms_y_reml hN hi hp (N - 1 - i) i (by omega) (Nat.le_refl i)
  rw [ms_sh0, ms_sh0, ms_sh0, ms_sh0] at h
  exact nm_r (nI_1 i) ⟨_, h⟩
end
