theorem fr_fin {υ : xS} {r : Unit × xS} (h : l_fin υ = some r) : x_fr x_WT υ r.2 := by
  unfold l_fin at h
  cases e : f_Mo_isSign_60 (59 : Int32) υ with
  | none => rw [e] at h; cases h
  | some a =>
    rw [e] at h
    dsimp only [Option.bind_some] at h
    cases e2 : f_Mo_need_60 a.1 a.2 with
    | none => rw [e2] at h; cases h
    | some b =>
      rw [e2] at h
      cases h
      exact x_fr.trans (x_fr.su (fr_Mo_isSign_60 e) rfl) (x_fr.su (fr_Mo_need_60 e2) rfl)
section DR
variable {g : Nat → Int32} {n m i : Nat} {c P : List Int32} {τ υ : xS}
theorem dr_1 (d : x_DR g n m i c P τ υ) {qc : Int32 × xS} {qm : Unit × xS} (fc : x_fr [(2, 4), (2, 6), (2, 7), (21, 1), (21, 4), (22, 99999), (23, 99999)] τ qc.2) (fm : x_fr [(60, 16), (60, 17), (60, 20), (60, 21), (60, 22), (60, 23), (60, 24), (60, 25), (60, 26), (60, 28), (60, 34), (60, 35), (69, 99999), (70, 99999)] υ qm.2) (h : x_rs g n m i c x_d1 qc qm.2) : x_lo5 g n m i qc qm.2 := by
  obtain ⟨-, -, -, d2, d3, d4, d5⟩ := d
  rcases h with h | ⟨h1, i', h2, h3, h4, h5⟩
  · exact Or.inl h
  · exact Or.inr ⟨h1, i', c, P, h2, h3, h4, h5, d2.fr fc fm rfl rfl rfl rfl rfl rfl, d3.fr fc fm rfl (fun j _ => d3_26 rfl _) rfl rfl, d4.fr fc fm rfl rfl rfl rfl rfl rfl rfl rfl (fun b _ _ _ => by rw [fm.ck 60 37 rfl]), d5.fr (Nat.le_of_lt h2) fc fm rfl rfl rfl rfl rfl rfl rfl rfl rfl (by rw [fm.ck 60 37 rfl]) (by rw [fm.ck 60 37 rfl])⟩
theorem dr_2 (d : x_DR g n m i c P τ υ) {qc : Int32 × xS} {qm : Unit × xS} (fc : x_fr [(2, 4), (2, 6), (2, 7), (21, 5), (24, 99999), (25, 99999)] τ qc.2) (fm : x_fr [(60, 16), (60, 17), (60, 20), (60, 21), (60, 22), (60, 23), (60, 24), (60, 25), (60, 26), (60, 29), (71, 99999), (72, 99999)] υ qm.2) (h : x_rs g n m i c x_d2 qc qm.2) : x_lo5 g n m i qc qm.2 := by
  obtain ⟨-, -, d1, -, d3, d4, d5⟩ := d
  rcases h with h | ⟨h1, i', h2, h3, h4, h5⟩
  · exact Or.inl h
  · exact Or.inr ⟨h1, i', c, P, h2, h3, h4, d1.fr fc fm rfl rfl rfl rfl rfl rfl rfl rfl rfl rfl rfl, h5, d3.fr fc fm rfl (fun j _ => d3_26 rfl _) rfl rfl, d4.fr fc fm rfl rfl rfl rfl rfl rfl rfl rfl (fun b _ _ _ => by rw [fm.ck 60 37 rfl]), d5.fr (Nat.le_of_lt h2) fc fm rfl rfl rfl rfl rfl rfl rfl rfl rfl (by rw [fm.ck 60 37 rfl]) (by rw [fm.ck 60 37 rfl])⟩
end DR
