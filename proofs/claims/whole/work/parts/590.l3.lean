def x_u0 : xS := (fun p k => if p = 60 ∧ (k = 27 ∨ k = 35) then 120 else if p = 60 ∧ (k = 32 ∨ k = 33) then -1 else if p = 74 ∧ k = 0 then 3 else if p = 74 ∧ k = 1 then 2 else if p = 74 ∧ k = 2 then 20 else 0, fun _ _ => 0)
theorem mk_0 {σ : xS} : x_mk x_u0 (x_n0 (sI_Mo_init_60 (x_n0 σ 60)) 96) := by
  unfold sI_Mo_init_60
  refine ⟨⟨?_, ?_, ?_, ?_, ?_, ?_, ?_⟩, ⟨fun k _ => ?_, fun k _ => ?_, fun k _ => ?_, fun k _ => ?_, fun k _ => ?_, fun k _ => ?_⟩, ⟨fun k hk => ?_, ?_, fun k hk => ?_⟩, ?_, ?_, ?_, ?_, ?_⟩
  · simp (disch := omega) only [n0_ne, n0_eq, y_pI_ne, x_pI_kn, x_pI_kk]; rfl
  · simp (disch := omega) only [n0_ne, n0_eq, y_pI_ne, x_pI_kn, x_pI_kk]; rfl
  · simp (disch := omega) only [n0_ne, n0_eq, y_pI_ne, x_pI_kn, x_pI_kk]; rfl
  · simp (disch := omega) only [n0_ne, n0_eq, y_pI_ne, x_pI_kn, x_pI_kk]; rfl
  · simp (disch := omega) only [n0_ne, n0_eq, y_pI_ne, x_pI_kn, x_pI_kk]; rfl
  · simp (disch := omega) only [n0_ne, n0_eq, y_pI_ne, x_pI_kn, x_pI_kk]; rfl
  · simp (disch := omega) only [n0_ne, n0_eq, y_pI_ne, x_pI_kn, x_pI_kk]; rfl
  · simp (disch := omega) only [n0_ne, n0_eq, y_pI_ne, x_pI_kn, x_pI_kk]; rfl
  · simp (disch := omega) only [n0_ne, n0_eq, y_pI_ne, x_pI_kn, x_pI_kk]; rfl
  · simp (disch := omega) only [n0_ne, n0_eq, y_pI_ne, x_pI_kn, x_pI_kk]; rfl
  · simp (disch := omega) only [n0_ne, n0_eq, y_pI_ne, x_pI_kn, x_pI_kk]; rfl
  · simp (disch := omega) only [n0_ne, n0_eq, y_pI_ne, x_pI_kn, x_pI_kk]; rfl
  · simp (disch := omega) only [n0_ne, n0_eq, y_pI_ne, x_pI_kn, x_pI_kk]; rfl
  · rcases (show k = 0 ∨ k = 1 ∨ k = 2 ∨ k = 3 ∨ k = 4 by omega) with rfl | rfl | rfl | rfl | rfl <;> (simp (disch := omega) only [n0_ne, n0_eq, y_pI_ne, x_pI_kn, x_pI_kk]; rfl)
  · simp (disch := omega) only [n0_ne, n0_eq, y_pI_ne, x_pI_kn, x_pI_kk]; rfl
  · rcases (show k = 0 ∨ k = 1 ∨ k = 2 ∨ k = 3 ∨ k = 4 ∨ k = 5 by omega) with rfl | rfl | rfl | rfl | rfl | rfl <;> (simp (disch := omega) only [n0_ne, n0_eq, y_pI_ne, x_pI_kn, x_pI_kk]; rfl)
  · simp (disch := omega) only [n0_ne, n0_eq, y_pI_ne, x_pI_kn, x_pI_kk]
  · simp (disch := omega) only [n0_ne, n0_eq, y_pI_ne, x_pI_kn, x_pI_kk]
  · simp (disch := omega) only [n0_ne, n0_eq, y_pI_ne, x_pI_kn, x_pI_kk]
  · simp (disch := omega) only [n0_ne, n0_eq, y_pI_ne, x_pI_kn, x_pI_kk]
  · simp (disch := omega) only [n0_ne, n0_eq, y_pI_ne, x_pI_kn, x_pI_kk]
theorem rel_start : ∃ σ1, f_lawInit = some σ1 ∧ x_Rel σ1 := by
  obtain ⟨⟨u, F⟩, e, h7, hA, b35, b36, t19, t20⟩ := c_init
  dsimp only at h7 hA b35 b36 t19 t20
  refine ⟨x_n0 (sI_Mo_init_60 (x_n0 F 60)) 96, by unfold f_lawInit; rw [e]; rfl, ?_⟩
  obtain ⟨⟨a0, a1, a4, a5, a8, a9⟩, -, -, c2⟩ := h7
  obtain ⟨⟨z1, z7, z9, z11⟩, z55, z59⟩ := hA
  obtain ⟨m0, m1, m2, m3, m4, m5⟩ := b36
  have d21 : (x_dr7 F).1 21 = F.1 7 := by funext k; simp [x_dr7]
  have d22 : (x_dr7 F).1 22 = F.1 8 := by funext k; simp [x_dr7]
  have d23 : (x_dr7 F).1 23 = F.1 9 := by funext k; simp [x_dr7]
  have d24 : (x_dr7 F).1 24 = F.1 10 := by funext k; simp [x_dr7]
  have d25 : (x_dr7 F).1 25 = F.1 11 := by funext k; simp [x_dr7]
  have d28 : (x_dr7 F).1 28 = F.1 14 := by funext k; simp [x_dr7]
  have d29 : (x_dr7 F).1 29 = F.1 15 := by funext k; simp [x_dr7]
  have d30 : (x_dr7 F).1 30 = F.1 16 := by funext k; simp [x_dr7]
  have d6 : ∀ k, (x_dr7 F).1 6 k = 0 := by intro k; simp [x_dr7]
  have d26 : ∀ k, ¬ k = 4 → (x_dr7 F).1 26 k = F.1 36 k := by intro k hk; simp [x_dr7, hk]
  have d264 : (x_dr7 F).1 26 4 = -1 := by simp [x_dr7]
  generalize x_dr7 F = τ at d21 d22 d23 d24 d25 d28 d29 d30 d6 d26 d264
  have u37 : x_u0.1 60 37 = 0 := rfl
  have k1 : x_d1 τ x_u0 := by
    refine ⟨?_, ?_, 0, 0, by omega, by omega, ?_, rfl, ?_, rfl, rfl, fun j hj => by omega, ?_⟩
    · rw [d21, a0]; rfl
    · rw [d21, a0]; decide
    · rw [d21, a1]; rfl
    · rw [d21, a4]; rfl
    · rw [if_pos rfl, d21, a0]; rfl
  have k2 : x_d2 τ x_u0 := ⟨0, by omega, by rw [d21, a5]; rfl, rfl, fun j hj => by omega⟩
  have k3 : x_d3 τ x_u0 := ⟨0, by omega, by rw [d21, a8]; rfl, rfl, fun j hj => by omega⟩
  have k4 : x_d4 τ x_u0 := by
    unfold x_d4
    rw [u37, d26 0 (by omega), d26 1 (by omega), d26 2 (by omega), d26 3 (by omega), d264, d26 5 (by omega), m0, m1, m2, m3, m5, d6, d6, d6, d6, d6]
    simp only [bt_0]
    decide
  have k5 : x_d5 [] [] 0 τ x_u0 := by
    unfold x_d5
    rw [u37, bt_0, bt_0, if_neg (by decide), if_neg (by decide), d29, d30, d21, a9]
    exact ⟨⟨rfl, fun j hj => by simp at hj⟩, by simp, ⟨(c2 0 (by omega)).1, (c2 0 (by omega)).2, rfl⟩, ⟨(c2 1 (by omega)).1, (c2 1 (by omega)).2, rfl⟩, 0, by omega, rfl, rfl, fun h hh => by omega, fun h _ hh => ⟨(c2 (2 + h) (by omega)).1, (c2 (2 + h) (by omega)).2⟩⟩
  have n1 : sp_nm F.1 = 0 := by unfold sp_nm; rw [a1]; decide
  have n4 : sp_la F.1 = 0 := by unfold sp_la; rw [a4]; decide
  refine B_of (τ := τ) (υ := x_u0) (F := F) (i := 0) (v := 0) (c := []) (P := []) (by omega) k1 k2 k3 k4 k5 ⟨rfl, fun j hj => by simp at hj⟩ (by simp) mk_0 ⟨⟨d21.symm, d22.symm, d23.symm, d24.symm, d25.symm, d28.symm, d29.symm, d30.symm⟩, ?_, t20, ?_, b35, ⟨z1, z7, z9, z11⟩, z55⟩ ?_ ?_ ?_ ?_ ?_
  · rw [n1, n4]; exact t19
  · intro j hj
    have : (if τ.1 21 9 ≤ 0 then (-1 : Int32) else 0) = -1 := by rw [d21, a9]; decide
    rw [this]
    by_cases h4 : j = 4
    · rw [h4, m4]; rfl
    · show _ = if j = 4 then _ else τ.1 26 j
      rw [if_neg h4, d26 j h4]
  · intro p hp
    unfold sI_Mo_init_60
    simp (disch := omega) only [n0_ne, y_pI_ne]
  · unfold sI_Mo_init_60
    refine ⟨?_, ?_, ?_⟩ <;> simp (disch := omega) only [n0_ne, n0_eq, y_pI_ne, x_pI_kn, x_pI_kk]
  · unfold sI_Mo_init_60
    simp (disch := omega) only [n0_ne, n0_eq, y_pI_ne, x_pI_kn, x_pI_kk]
  · unfold sI_Mo_init_60
    simp (disch := omega) only [n0_ne, n0_eq, y_pI_ne, x_pI_kn, x_pI_kk]
  · intro k hk
    unfold sI_Mo_init_60
    simp (disch := omega) only [n0_ne, n0_eq, y_pI_ne]
    exact z59 k
theorem law_all {xs : Nat → Int32} {L : Nat} (hL : L ≤ 3072) : ∃ (σ1 : xS) (r : Int32 × xS), f_lawInit = some σ1 ∧ x_it (f_law xs L) 600 (0, σ1) = some r := by
  obtain ⟨σ1, e, R⟩ := rel_start
  obtain ⟨r, er, -⟩ := law_run (xs := xs) hL 512 0 600 σ1 R (by omega) (by omega) (by omega)
  exact ⟨σ1, r, e, er⟩
