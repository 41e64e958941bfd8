theorem i_vc (xs : Nat → Int32) (L : Nat) (hL : L ≤ 260) : wpL_law (fun r => r = 1) L xs := by
  unfold wpL_law
  refine ms_cell 0 rfl (by decide) (by omega) (fun c0 => ?_)
  refine ms_cell 1 rfl (by decide) (by omega) (fun c1 => ?_)
  refine ms_cell 2 rfl (by decide) (by omega) (fun c2 => ?_)
  refine ms_cell 3 rfl (by decide) (by omega) (fun c3 => ?_)
  refine ⟨16, 912, by decide, by decide, ms_init c0 c1 c2 c3 (fun u I => ?_)⟩
  have J := I (ms_s 0)
  obtain ⟨_, _, _, _, _, _, _, _, _, _, _, _, _, _, _, _, _, _, _, rfl, _⟩ := J
  refine ms_cell 4 rfl (by decide) (by omega) (fun seed => ?_)
  refine pk_le L 5 (fun _ => ?_) (fun z => ⟨by decide, ?_⟩)
  · have g := ms_w60 (post := fun r => r = 1) (L := L) (xs := xs) (seed := seed) (ns := 0) (T := 64) (kc := 1 + 16) (ks := 21 + 912) hL (by omega) (by omega) rfl 64 0 0 0 _ rfl (I (ms_s seed))
    rw [nI_0] at g
    exact nm_r (e' := nI 64) (by decide) ⟨65, g⟩
  · have e3 : (nI L - 4) / 2 = nI ((L - 4) / 2) := by
      show (nI L - nI 4) / nI 2 = _
      rw [pk_sub (by omega), pk_div (by omega) (by decide) (by decide)]
    have g := ms_w60 (post := fun r => r = 1) (L := L) (xs := xs) (seed := seed) (ns := (L - 4) / 2) (T := (L - 4) / 2 + 64) (kc := 1 + 16) (ks := 21 + 912) hL (by omega) (by omega) rfl ((L - 4) / 2 + 64) 0 0 0 _ (Nat.zero_add _) (I (ms_s seed))
    rw [nI_0] at g
    exact nm_r e3 (nm_r (e' := nI ((L - 4) / 2 + 64)) (nI_add _ 64) ⟨_, g⟩)
