theorem i_vc0 (k0 : Int32) (k1 : Int32) (k2 : Int32) (k3 : Int32) : wpX_init (fun u => wpY_init (fun v => i_Rel 4 u v) k0 k1 k2 k3) k0 k1 k2 k3 := by
  obtain ⟨r0, p0, q0, e0⟩ := ms_cpr k1
  obtain ⟨r1, p1, q1, e1⟩ := ms_cpr k2
  obtain ⟨r2, p2, q2, e2⟩ := ms_cpr k3
  have R0 := ms_Y0 (b := ms_cp k0 8 32) ⟨p0, q0⟩ ⟨p1, q1⟩ ⟨p2, q2⟩
  unfold wpX_init
  refine ms_x_clp ?_
  refine ms_x_clp ?_
  rw [e0]
  refine nm_r (e' := ms_im (ms_un (fun _ => 0) 0 r0)) (ms_imu (fun _ => 0) 0 r0) ?_
  refine ms_x_clp ?_
  rw [e1]
  refine nm_r (ms_imu _ _ _) ?_
  refine ms_x_clp ?_
  rw [e2]
  refine nm_r (ms_imu _ _ _) ⟨4, ms_x_in ?_ 3 0 rfl⟩
  unfold wpY_init
  refine ms_cpw (fun z => wY_init_167 _ k1 k2 k3 z 0 0 0 0 0 0 0 (ms_im (fun _ => 0)) (ms_im (fun _ => 0)) (ms_im (fun _ => 0)) (ms_im (fun _ => 0)) (ms_im (fun _ => 0)) (ms_im (fun _ => 0)) (ms_im (fun _ => 0)) (ms_im (fun _ => 0)) (ms_im (fun _ => 0)) (ms_im (fun _ => 0)) (ms_im (fun _ => 0)) (ms_im (fun _ => 0)) (ms_im (fun _ => 0)) (ms_im (fun _ => 0)) (ms_im (fun _ => 0)) (ms_im (fun _ => 0)) (ms_im (fun _ => 0)) (ms_im (fun _ => 0))) k0 8 32 ?_
  exact ms_y_167 e0 e1 e2 ⟨4, ms_y_in R0 3 0 rfl⟩
