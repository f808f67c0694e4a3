section CL
variable {σ : xS}
theorem c_l24 : x_ens (x_it f_Re_read_2_1_21_L24 10000 ((0 : Int32), σ)) (fun b => (∀ j, j < 12 → b.2.1 6 j = 0) ∧ x_fr [(6, 99999)] σ b.2) := by
  refine x_iv.go (fun i a => a.1 = Int32.ofNat i ∧ (∀ j, j < i → a.2.1 6 j = 0) ∧ x_fr [(6, 99999)] σ a.2) 12 (by omega) ⟨rfl, fun j hj => by omega, x_fr.rf⟩ ?_
  rintro i a hi ⟨e, z, f⟩
  unfold f_Re_read_2_1_21_L24
  dsimp only
  rw [e]
  by_cases h : i = 12
  · rw [if_pos (show (12 : Int32) ≤ Int32.ofNat i by rw [h]; decide)]
    exact x_iv.l ⟨fun j hj => z j (by omega), f⟩
  · rw [if_neg (show ¬ (12 : Int32) ≤ Int32.ofNat i from fun x => by have := (i_le (j := 12) (by omega) (by omega)).mp x; omega), if_neg (i_ix (by omega) (by omega)), i_cl (by omega), i_s]
    refine x_iv.r (by omega) ⟨rfl, fun j hj => ?_, x_frI (p := 6) (k := i) (by simp [x_in]) f⟩
    by_cases hj2 : j = i
    · rw [hj2]; exact x_pI_kk
    · exact (x_pI_kn hj2).trans (z j (by omega))
theorem c_l33 : x_ens (x_it f_Sc_clear_21_L33 10000 ((0 : Int32), σ)) (fun b => (∀ j, j < 12 → b.2.1 26 j = 0) ∧ x_fr [(26, 99999)] σ b.2) := by
  refine x_iv.go (fun i a => a.1 = Int32.ofNat i ∧ (∀ j, j < i → a.2.1 26 j = 0) ∧ x_fr [(26, 99999)] σ a.2) 12 (by omega) ⟨rfl, fun j hj => by omega, x_fr.rf⟩ ?_
  rintro i a hi ⟨e, z, f⟩
  unfold f_Sc_clear_21_L33
  dsimp only
  rw [e]
  by_cases h : i = 12
  · rw [if_pos (show (12 : Int32) ≤ Int32.ofNat i by rw [h]; decide)]
    exact x_iv.l ⟨fun j hj => z j (by omega), f⟩
  · rw [if_neg (show ¬ (12 : Int32) ≤ Int32.ofNat i from fun x => by have := (i_le (j := 12) (by omega) (by omega)).mp x; omega), if_neg (i_ix (by omega) (by omega)), i_cl (by omega), i_s]
    refine x_iv.r (by omega) ⟨rfl, fun j hj => ?_, x_frI (p := 26) (k := i) (by simp [x_in]) f⟩
    by_cases hj2 : j = i
    · rw [hj2]; exact x_pI_kk
    · exact (x_pI_kn hj2).trans (z j (by omega))
theorem c_l7 : x_ens (x_it f_Ru_clear_27_L7 10000 ((0 : Int32), σ)) (fun b => (∀ j, j < 6 → b.2.1 29 j = 0 ∧ b.2.1 30 j = 0) ∧ x_fr [(29, 99999), (30, 99999)] σ b.2) := by
  refine x_iv.go (fun i a => a.1 = Int32.ofNat i ∧ (∀ j, j < i → a.2.1 29 j = 0 ∧ a.2.1 30 j = 0) ∧ x_fr [(29, 99999), (30, 99999)] σ a.2) 6 (by omega) ⟨rfl, fun j hj => by omega, x_fr.rf⟩ ?_
  rintro i a hi ⟨e, z, f⟩
  unfold f_Ru_clear_27_L7
  dsimp only
  rw [e]
  by_cases h : i = 6
  · rw [if_pos (show (6 : Int32) ≤ Int32.ofNat i by rw [h]; decide)]
    exact x_iv.l ⟨fun j hj => z j (by omega), f⟩
  · rw [if_neg (show ¬ (6 : Int32) ≤ Int32.ofNat i from fun x => by have := (i_le (j := 6) (by omega) (by omega)).mp x; omega), if_neg (i_ix (by omega) (by omega)), if_neg (i_ix (by omega) (by omega)), i_cl (by omega), i_s]
    refine x_iv.r (by omega) ⟨rfl, fun j hj => ?_, x_frI (p := 30) (k := i) (by simp [x_in]) (x_frI (p := 29) (k := i) (by simp [x_in]) f)⟩
    rw [y_pI_ne (q := 29) (show 29 ≠ 30 by omega)]
    by_cases hj2 : j = i
    · rw [hj2]; exact ⟨x_pI_kk, x_pI_kk⟩
    · rw [x_pI_kn hj2, x_pI_kn hj2, y_pI_ne (q := 30) (show 30 ≠ 29 by omega)]
      exact z j (by omega)
def x_e0 (σ : xS) : Prop := (σ.1 21 0 = 120 ∧ σ.1 21 1 = 0 ∧ σ.1 21 4 = 0 ∧ σ.1 21 5 = 0 ∧ σ.1 21 8 = 0 ∧ σ.1 21 9 = 0) ∧ (σ.1 26 0 = 3 ∧ σ.1 26 1 = 2 ∧ σ.1 26 2 = 20 ∧ σ.1 26 3 = 0 ∧ σ.1 26 4 = -1 ∧ σ.1 26 5 = 0) ∧ σ.1 27 1 = 0 ∧ ∀ j, j < 6 → σ.1 29 j = 0 ∧ σ.1 30 j = 0
theorem c_rclear : x_ens (f_Ru_clear_27 σ) (fun q => q.2.1 27 1 = 0 ∧ (∀ j, j < 6 → q.2.1 29 j = 0 ∧ q.2.1 30 j = 0) ∧ x_fr [(27, 1), (29, 99999), (30, 99999)] σ q.2) := by
  unfold f_Ru_clear_27
  dsimp only
  refine x_ens.bi c_l7 ?_
  rintro b ⟨z, f⟩
  exact x_ens.so ⟨(f.ck 27 1 rfl).trans x_pI_kk, z, x_fr.trans (x_frI (p := 27) (k := 1) (v := 0) rfl x_fr.rf) (f.su rfl)⟩
theorem c_clear : x_ens (f_Sc_clear_21 σ) (fun q => x_e0 q.2) := by
  unfold f_Sc_clear_21
  dsimp only
  obtain ⟨υ, hυ, e⟩ : ∃ υ, x_pI (x_pI (x_pI (x_pI (x_pI (x_pI σ 21 0 120) 21 1 0) 21 4 0) 21 5 0) 21 8 0) 21 9 0 = υ ∧ (υ.1 21 0 = 120 ∧ υ.1 21 1 = 0 ∧ υ.1 21 4 = 0 ∧ υ.1 21 5 = 0 ∧ υ.1 21 8 = 0 ∧ υ.1 21 9 = 0) := ⟨_, rfl, by simp [x_pI]⟩
  rw [hυ]
  refine x_ens.bi c_l33 ?_
  rintro b ⟨z, f⟩
  obtain ⟨υ2, hυ2, e2, e3⟩ : ∃ υ2, x_pI (x_pI (x_pI (x_pI b.2 26 0 3) 26 1 2) 26 2 20) 26 4 (-1) = υ2 ∧ (υ2.1 26 0 = 3 ∧ υ2.1 26 1 = 2 ∧ υ2.1 26 2 = 20 ∧ υ2.1 26 3 = 0 ∧ υ2.1 26 4 = -1 ∧ υ2.1 26 5 = 0) ∧ υ2.1 21 = b.2.1 21 := ⟨_, rfl, by simp [x_pI, z 3 (by omega), z 5 (by omega)], by rw [y_pI_ne (by omega), y_pI_ne (by omega), y_pI_ne (by omega), y_pI_ne (by omega)]⟩
  rw [hυ2]
  refine x_ens.bi c_rclear ?_
  rintro q ⟨q1, q2, fq⟩
  refine x_ens.so ⟨?_, ?_, q1, q2⟩
  · rw [fq.ce 21 rfl, e3, f.ce 21 rfl]
    exact e
  · rw [fq.ce 26 rfl]
    exact e2
end CL
def x_e1 (υ : xS) : Prop := (υ.1 60 28 = 0 ∧ υ.1 60 29 = 0 ∧ υ.1 60 30 = 0 ∧ υ.1 60 31 = 0 ∧ υ.1 60 32 = -1 ∧ υ.1 60 33 = -1 ∧ υ.1 60 34 = 0 ∧ υ.1 60 37 = 0 ∧ υ.1 60 40 = 0) ∧ υ.1 74 0 = 3 ∧ υ.1 74 1 = 2 ∧ υ.1 74 2 = 20 ∧ υ.1 74 3 = 0 ∧ υ.1 74 4 = 0
theorem m_forgets {υ : xS} : x_ens (f_Mo_forgetsText_60 υ) (fun q => x_e1 q.2 ∧ x_fr [(60, 28), (60, 29), (60, 30), (60, 31), (60, 32), (60, 33), (60, 34), (60, 37), (60, 40), (74, 99999)] υ q.2) := by
  have h : x_ens (f_Mo_forgetsText_60 υ) (fun q => x_e1 q.2) := by
    unfold f_Mo_forgetsText_60
    refine x_ens.so ?_
    unfold x_e1
    simp [x_pI]
  obtain ⟨q, e, h⟩ := h
  exact ⟨q, e, h, fr_Mo_forgetsText_60 e⟩
theorem x_e1.fr {W : List (Nat × Nat)} {υ υ' : xS} (h : x_e1 υ) (f : x_fr W υ υ') (h1 : x_in W 60 28 = false) (h2 : x_in W 60 29 = false) (h3 : x_in W 60 30 = false) (h4 : x_in W 60 31 = false) (h5 : x_in W 60 32 = false) (h6 : x_in W 60 33 = false) (h7 : x_in W 60 34 = false) (h8 : x_in W 60 37 = false) (h9 : x_in W 60 40 = false) (h74 : (W.all fun w => w.1 != 74) = true) : x_e1 υ' := by
  unfold x_e1
  rw [f.ck 60 28 h1, f.ck 60 29 h2, f.ck 60 30 h3, f.ck 60 31 h4, f.ck 60 32 h5, f.ck 60 33 h6, f.ck 60 34 h7, f.ck 60 37 h8, f.ck 60 40 h9, f.ce 74 h74]
  exact h
theorem bt_0 {w : Nat} : x_bt 0 w = false := by
  unfold x_bt
  simp
theorem e_start {g : Nat → Int32} {n m i : Nat} {τ υ τ0 υ0 : xS} (h : x_kh (tk_i g n) m τ i []) (k : x_mh g n m υ i) (e0 : x_e0 τ0) (e1 : x_e1 υ0) (f : x_fr [(2, 4), (2, 6), (2, 7), (21, 0)] τ0 τ) (f' : x_fr [(60, 16), (60, 17), (60, 20), (60, 21), (60, 22), (60, 23), (60, 24), (60, 25), (60, 26), (60, 27)] υ0 υ) (h6 : ∀ j, j < 12 → τ0.1 6 j = 0) (hh : τ.1 21 0 = υ.1 60 27 ∧ 12 ≤ τ.1 21 0 ∧ τ.1 21 0 ≤ 480) : x_DR g n m i [] [] τ (x_pI υ 60 35 (υ.1 60 27)) := by
  obtain ⟨⟨-, a1, a4, a5, a8, a9⟩, ⟨b0, b1, b2, b3, b4, b5⟩, c1, c2⟩ := e0
  obtain ⟨⟨d28, d29, d30, d31, d32, d33, d34, d37, d40⟩, g0, g1, g2, g3, g4⟩ := e1
  have fI : x_fr [(60, 35)] υ (x_pI υ 60 35 (υ.1 60 27)) := x_frI (p := 60) (k := 35) rfl x_fr.rf
  have e35 : (x_pI υ 60 35 (υ.1 60 27)).1 60 35 = υ.1 60 27 := x_pI_kk
  generalize x_pI υ 60 35 (υ.1 60 27) = υ' at fI e35
  have F := fun p k (h : x_in _ p k = false) (h' : x_in _ p k = false) => (fI.ck p k h).trans (f'.ck p k h')
  refine ⟨h, k.fr fI rfl rfl rfl rfl rfl rfl rfl rfl rfl rfl, ?_, ?_, ?_, ?_, ?_⟩
  · refine ⟨?_, hh.2, 0, 0, by omega, by omega, ?_, ?_, ?_, ?_, rfl, fun j hj => by omega, ?_⟩
    · rw [fI.ck 60 27 rfl]; exact hh.1
    · rw [f.ck 21 1 rfl]; exact a1
    · rw [F 60 28 rfl rfl]; exact d28
    · rw [f.ck 21 4 rfl]; exact a4
    · rw [F 60 34 rfl rfl]; exact d34
    · rw [if_pos rfl, e35]; exact hh.1.symm
  · exact ⟨0, by omega, (f.ck 21 5 rfl).trans a5, (F 60 29 rfl rfl).trans d29, fun j hj => by omega⟩
  · exact ⟨0, by omega, (f.ck 21 8 rfl).trans a8, (F 60 30 rfl rfl).trans d30, fun j hj => by omega⟩
  · unfold x_d4
    rw [f.ce 26 rfl, f.ce 6 rfl, fI.ce 74 rfl, f'.ce 74 rfl, F 60 37 rfl rfl, d37, b0, b1, b2, b3, b4, b5, g0, g1, g2, g3, g4, h6 0 (by omega), h6 1 (by omega), h6 2 (by omega), h6 3 (by omega), h6 5 (by omega)]
    simp only [bt_0]
    decide
  · unfold x_d5
    rw [F 60 40 rfl rfl, F 60 37 rfl rfl, d37, d40, bt_0, bt_0, if_neg (by decide), if_neg (by decide), f.ce 29 rfl, f.ce 30 rfl, F 60 32 rfl rfl, F 60 33 rfl rfl, f.ck 21 9 rfl, F 60 31 rfl rfl, d31, d32, d33, a9]
    refine ⟨⟨rfl, fun j hj => by simp at hj⟩, by simp, ⟨(c2 0 (by omega)).1, (c2 0 (by omega)).2, rfl⟩, ⟨(c2 1 (by omega)).1, (c2 1 (by omega)).2, rfl⟩, 0, by omega, rfl, rfl, fun h hh => by omega, fun h _ hh => ⟨(c2 (2 + h) (by omega)).1, (c2 (2 + h) (by omega)).2⟩⟩
