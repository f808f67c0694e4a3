section DR2
variable {g : Nat → Int32} {n m i : Nat} {c P : List Int32} {τ υ : xS}
theorem dr_3 (d : x_DR g n m i c P τ υ) {qc : Int32 × xS} {qm : Unit × xS} (fc : x_fr [(2, 4), (2, 6), (2, 7), (21, 8), (26, 99999)] τ qc.2) (fm : x_fr [(60, 16), (60, 17), (60, 20), (60, 21), (60, 22), (60, 23), (60, 24), (60, 25), (60, 26), (60, 30), (73, 99999)] υ qm.2) (h : x_rs g n m i c (fun τ' υ' => x_d3 τ' υ' ∧ ∀ p, p < 6 → τ'.1 26 p = τ.1 26 p) qc qm.2) : x_lo5 g n m i qc qm.2 := by
  obtain ⟨-, -, d1, d2, -, d4, d5⟩ := d
  rcases h with h | ⟨h1, i', h2, h3, h4, h5, h6⟩
  · exact Or.inl h
  · refine Or.inr ⟨h1, i', c, P, h2, h3, h4, d1.fr fc fm rfl rfl rfl rfl rfl rfl rfl rfl rfl rfl rfl, d2.fr fc fm rfl rfl rfl rfl rfl rfl, h5, ?_, d5.fr (Nat.le_of_lt h2) fc fm rfl rfl rfl rfl rfl rfl rfl rfl rfl (by rw [fm.ck 60 37 rfl]) (by rw [fm.ck 60 37 rfl])⟩
    unfold x_d4 at d4 ⊢
    rw [h6 0 (by omega), h6 1 (by omega), h6 2 (by omega), h6 3 (by omega), h6 4 (by omega), h6 5 (by omega), fc.ce 6 rfl, fm.ce 74 rfl, fm.ck 60 37 rfl]
    exact d4
theorem dr_4 (d : x_DR g n m i c P τ υ) {qc : Int32 × xS} {qm : Unit × xS} (fc : x_fr [(2, 4), (2, 6), (2, 7), (6, 99999), (26, 99999)] τ qc.2) (fm : x_fr [(60, 16), (60, 17), (60, 20), (60, 21), (60, 22), (60, 23), (60, 24), (60, 25), (60, 26), (60, 37), (74, 99999)] υ qm.2) (h : x_rs g n m i c (fun τ' υ' => x_D4 (x_bt (υ.1 60 37) 2) (x_bt (υ.1 60 37) 17) τ' υ' ∧ ∀ j, τ'.1 26 (6 + j) = τ.1 26 (6 + j)) qc qm.2) : x_lo5 g n m i qc qm.2 := by
  obtain ⟨-, -, d1, d2, d3, -, d5⟩ := d
  rcases h with h | ⟨h1, i', h2, h3, h4, ⟨h5, h7, h8⟩, h6⟩
  · exact Or.inl h
  · refine Or.inr ⟨h1, i', c, P, h2, h3, h4, d1.fr fc fm rfl rfl rfl rfl rfl rfl rfl rfl rfl rfl rfl, d2.fr fc fm rfl rfl rfl rfl rfl rfl, ?_, h5, d5.fr (Nat.le_of_lt h2) fc fm rfl rfl rfl rfl rfl rfl rfl rfl rfl h7 h8⟩
    obtain ⟨k, a, b, e, f⟩ := d3
    refine ⟨k, a, (fc.ck 21 8 rfl).trans b, (fm.ck 60 30 rfl).trans e, fun j hj => ?_⟩
    rw [fm.ce 73 rfl, h6 j]
    exact f j hj
theorem dr_5 (d : x_DR g n m i c P τ υ) {V : List (Nat × Nat)} {qc : Int32 × xS} {qm : Unit × xS} (fc : x_fr [(2, 4), (2, 6), (2, 7), (21, 9), (27, 1), (28, 99999), (29, 99999), (30, 99999)] τ qc.2) (fm : x_fr [(60, 16), (60, 17), (60, 20), (60, 21), (60, 22), (60, 23), (60, 24), (60, 25), (60, 26), (60, 31), (60, 32), (60, 33), (60, 37), (60, 38), (60, 39), (60, 40), (60, 41), (60, 42), (75, 99999), (76, 99999), (77, 99999), (78, 99999)] υ qm.2) (h : x_r5 g n m i (fun _ υ' => ∀ b, b < 32 → ¬ b = 2 → ¬ b = 17 → x_bt (υ'.1 60 37) b = x_bt (υ.1 60 37) b) qc qm.2) : x_lo5 g n m i qc qm.2 := by
  obtain ⟨-, -, d1, d2, d3, d4, -⟩ := d
  rcases h with h | ⟨h1, i', c', P', h2, h3, h4, h5, h6⟩
  · exact Or.inl h
  · exact Or.inr ⟨h1, i', c', P', h2, h3, h4, d1.fr fc fm rfl rfl rfl rfl rfl rfl rfl rfl rfl rfl rfl, d2.fr fc fm rfl rfl rfl rfl rfl rfl, d3.fr fc fm rfl (fun j _ => d3_26 rfl _) rfl rfl, d4.fr fc fm rfl rfl rfl rfl rfl rfl rfl rfl h6, h5⟩
end DR2
