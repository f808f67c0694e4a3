theorem x_B.mks {C : Nat → Nat → Int32} {σ τ : xS} (B : x_B C σ) (h : x_fr [(0, 9), (17, 99999), (18, 99999), (49, 99999), (50, 99999), (51, 99999), (52, 99999), (53, 99999), (54, 99999), (55, 1), (55, 4), (56, 99999), (57, 99999), (58, 99999), (60, 0), (60, 4), (60, 68), (60, 69), (79, 99999), (80, 99999), (82, 99999), (83, 99999), (84, 99999), (85, 99999), (86, 99999), (87, 99999), (88, 99999), (89, 99999), (96, 99999)] σ τ) (e4 : τ.1 60 4 = σ.1 60 4) (e79 : ∀ k, k < 12 → τ.1 79 k = σ.1 79 k)
    (hk : τ.1 55 4 = τ.1 60 68 ∧ (τ.1 55 4 = -1 ∨ 0 ≤ τ.1 55 4 ∧ τ.1 55 4 ≤ 3) ∧ ∀ i, i < (τ.1 55 4).toNatClampNeg → τ.1 58 i = τ.1 87 i) : x_B C τ := by
  have hk6 := B.1.2.2.2.1.2
  obtain ⟨b1, b2, b3, b4, b5, b6, b7, b8, b9, b10, b11⟩ := B
  refine ⟨b1, b2.fr h rfl, b3.fr h rfl rfl rfl rfl rfl rfl rfl, b4.cp hk6 (by rw [h.ce 35 rfl]) (by rw [h.ce 35 rfl]) (by rw [h.ce 35 rfl]) (fun k _ => by rw [show 35 + 1 = 36 from rfl, h.ce 36 rfl]) (fun k _ => by rw [show 35 + 2 = 37 from rfl, h.ce 37 rfl]) (fun k _ => by rw [show 35 + 3 = 38 from rfl, h.ce 38 rfl]) (fun k _ => by rw [show 35 + 4 = 39 from rfl, h.ce 39 rfl]) (fun k _ => by rw [show 35 + 5 = 40 from rfl, h.ce 40 rfl]) (fun k _ => by rw [show 35 + 6 = 41 from rfl, h.ce 41 rfl]) e79 (fun k _ => by rw [h.ce 81 rfl]) (fun k _ => by rw [h.ce 90 rfl]) (fun k _ => by rw [h.ce 91 rfl]) (h.ck 60 56 rfl) (h.ck 60 74 rfl) (h.ck 60 76 rfl), e4.trans b5, ?_, ?_, ?_, ?_, ?_, hk⟩
  · rw [h.ck 60 59 rfl, h.ck 60 60 rfl, h.ck 60 64 rfl]; exact b6
  · rw [h.ck 60 15 rfl, h.ck 0 1 rfl, h.ce 1 rfl, h.ce 67 rfl]; exact b7
  · rw [h.ck 0 11 rfl, h.ck 60 17 rfl]; exact b8
  · rw [h.ce 59 rfl, h.ce 68 rfl]; exact b9
  · rw [h.ck 0 7 rfl, h.ck 60 78 rfl]
    refine ⟨b10.1, b10.2.imp id (fun x => ⟨x.1, x.2.of (h.ce 42 rfl) (h.ce 43 rfl) (h.ce 44 rfl) (h.ce 45 rfl) (h.ce 46 rfl) (h.ce 47 rfl) (h.ce 48 rfl) (h.ce 92 rfl) (h.ce 93 rfl) (h.ce 94 rfl) (h.ce 95 rfl) (h.ck 60 79 rfl) (h.ck 60 80 rfl) (h.ck 60 81 rfl)⟩)⟩
theorem x_obi {α β : Type} {o : Option α} {f : α → Option β} {b : β} (h : o.bind f = some b) : ∃ a, o = some a ∧ f a = some b := by
  cases o with
  | none => cases h
  | some a => exact ⟨a, rfl, h⟩
theorem o_marks (v : Int32) : x_OP (w_marks v) (f_Mo_marks_60 v) := by
  rintro σ ⟨C, B, F⟩
  have G := B.1
  have R := B.S.2
  have hnm := G.1.2
  by_cases h : 0 ≤ v ∧ v ≤ 3
  · obtain ⟨m, hm, ev, -⟩ := i_rge (b := 3) (by omega) h.1 h.2
    have hn : (sp_pls C (sp_nm C)).length ≤ 13 := by have := @sp_pls_len C (sp_nm C); omega
    obtain ⟨n, en⟩ : ∃ n, (sp_pls C (sp_nm C)).length = n := ⟨_, rfl⟩
    obtain ⟨q12, d12, l12⟩ := c_places G B.2.1
    have f12 := fr_Ch_findPlaces_55_7 d12
    -- the model's places, from any state that the class may leave
    have mp : ∀ σ1, x_fr [(0, 9), (17, 99999), (18, 99999), (49, 99999), (50, 99999), (51, 99999), (52, 99999), (53, 99999), (54, 99999), (55, 1), (55, 4), (56, 99999), (57, 99999), (58, 99999), (96, 99999)] σ σ1 → ∃ q21 b22, f_Mo_addsSpot_60 ((x_pI (x_pI σ1 60 0 0) 60 69 0).1 60 1) (x_pI (x_pI σ1 60 0 0) 60 69 0) = some q21 ∧ x_it (f_Mo_marks_60_L36 v) 10000 (0, q21.2) = some b22 ∧ x_li (b22.2.1 60 69) (b22.2.1 88) (sp_pls C (sp_nm C)) ∧ x_fr [(60, 69), (88, 99999)] (x_pI σ1 60 0 0) b22.2 := by
      intro σ1 f1
      have M1 : x_M C (x_pI σ1 60 0 0) := B.2.2.1.fr (W := [(0, 9), (17, 99999), (18, 99999), (49, 99999), (50, 99999), (51, 99999), (52, 99999), (53, 99999), (54, 99999), (55, 1), (55, 4), (56, 99999), (57, 99999), (58, 99999), (60, 0), (96, 99999)]) (x_frI (p := 60) (k := 0) rfl (x_fr.su f1 rfl)) rfl rfl rfl rfl rfl rfl rfl
      obtain ⟨b22, e22, g1, g2⟩ := m_places (v := v) G M1
      obtain ⟨q21, e21, e22'⟩ := x_obi e22
      exact ⟨q21, b22, e21, e22', g1, g2⟩
    by_cases hmn : m ≤ n
    · -- class
      obtain ⟨b3, d3, rw3, f3⟩ := c_first hm (σ := q12.2)
      have g3 : x_fr [(55, 1), (56, 99999), (57, 99999)] σ b3.2 := x_fr.trans (x_fr.su f12 rfl) (x_fr.su f3 rfl)
      obtain ⟨r, dr, r1, r2, r3, r4⟩ := c_mk_L (S := σ.1 36) (σ := b3.2) (n := n) (m := m) G R hm hmn en (B.2.1.fr g3 rfl) (g3.ce 36 rfl) (by rw [f3.ce 55 rfl, f3.ce 56 rfl]; exact l12) 300 0 10000 (0, 1, 2) (0, 1, 2) (-1) b3.2 (by omega) (by omega) rfl (x_vn0 hm) x_fr.rf rw3 (Or.inl rfl)
      have rne : ¬ r.1 = -1 := by rw [r1]; exact sp_mk_1 G
      obtain ⟨k1, k2⟩ := r4.resolve_left rne
      have fc : x_fr [(0, 9), (17, 99999), (18, 99999), (49, 99999), (50, 99999), (51, 99999), (52, 99999), (53, 99999), (54, 99999), (55, 1), (55, 4), (56, 99999), (57, 99999), (58, 99999), (96, 99999)] σ r.2.2.2 := x_fr.trans (x_fr.su g3 rfl) (x_fr.su r3 rfl)
      have ecl : w_marks v σ = some (0, x_pL r.2.2.2 96 0 r.1.toInt64) := by
        unfold w_marks f_RH_marks_0 f_Ch_pickFirst_55
        rw [if_neg (i_nl.mpr h.1), if_pos h.2, d12]
        dsimp only [Option.bind_some]
        rw [l12.1, en, ev, if_pos ((i_le (by omega) (by omega)).mpr hmn), d3]
        dsimp only [Option.bind_some]
        rw [if_neg (by decide)]
        rw [i_z] at dr
        rw [dr]
        rfl
      have f1 : x_fr [(0, 9), (17, 99999), (18, 99999), (49, 99999), (50, 99999), (51, 99999), (52, 99999), (53, 99999), (54, 99999), (55, 1), (55, 4), (56, 99999), (57, 99999), (58, 99999), (96, 99999)] σ (x_pL r.2.2.2 96 0 r.1.toInt64) := x_fr.trans fc (x_fr.su x_pL_fr rfl)
      generalize hσ1 : x_pL r.2.2.2 96 0 r.1.toInt64 = σ1 at f1
      have hl1 : σ1.2 96 0 = r.1.toInt64 := by rw [← hσ1]; exact x_pL_at
      have c55 : σ1.1 55 4 = Int32.ofNat m := by rw [← hσ1]; exact k1
      have c58 : ∀ i, i < m → σ1.1 58 i = sp_pi (sp_pls C (sp_nm C)) (sp_mk C (σ.1 36) n m 300 (0, 1, 2) (-1) (0, 1, 2)).2 i := by rw [← hσ1]; exact k2
      have c09 : σ1.1 0 9 = 0 := by rw [← hσ1]; exact r2
      -- model
      obtain ⟨q21, b22, e21, e22, l22, f22⟩ := mp σ1 f1
      obtain ⟨q23, e23, a23, f23⟩ := e_Mo_cp_79_80 (σ := b22.2)
      obtain ⟨b26, e26, rw26, f26⟩ := m_first hm (σ := x_pI q23.2 60 4 v) (w := q23.2.1 60 4)
      have g26 : x_fr [(60, 4), (60, 69), (80, 99999), (88, 99999), (89, 99999)] (x_pI σ1 60 0 0) b26.2 := x_fr.trans (x_frI (p := 60) (k := 4) rfl (x_fr.trans (x_fr.su f22 rfl) (x_fr.su f23 rfl))) (x_fr.su f26 rfl)
      have h26 : x_fr [(0, 9), (17, 99999), (18, 99999), (49, 99999), (50, 99999), (51, 99999), (52, 99999), (53, 99999), (54, 99999), (55, 1), (55, 4), (56, 99999), (57, 99999), (58, 99999), (60, 0), (60, 4), (60, 69), (80, 99999), (88, 99999), (89, 99999), (96, 99999)] σ b26.2 := x_fr.trans (x_frI (p := 60) (k := 0) rfl (x_fr.su f1 rfl)) (x_fr.su g26 rfl)
      have A := B.S.1.1
      obtain ⟨t, dt, t1, t2, t3⟩ := m_mk_L (S := σ.1 36) (σ := b26.2) (n := n) (m := m) (w := q23.2.1 60 4) G R hm hmn en (B.2.2.1.fr h26 rfl rfl rfl rfl rfl rfl rfl) (by rw [h26.ce 79 rfl]; exact A) (by rw [f26.ck 60 4 rfl, x_pI_kk]; exact ev) (by rw [h26.ck 60 59 rfl, h26.ck 60 60 rfl, h26.ck 60 64 rfl]; exact B.2.2.2.2.2.1) (by rw [f26.ck 60 69 rfl, x_pI_kn (by omega), f23.ck 60 69 rfl, f26.ce 88 rfl, y_pI_ne (by omega), f23.ce 88 rfl]; exact l22) 300 0 10000 (0, 1, 2) (0, 1, 2) (-1) b26.2 (by omega) (by omega) rfl (x_vn0 hm) x_fr.rf (fun _ _ => rfl) rw26 (Or.inl rfl)
      have tne : ¬ t.1 = -1 := by rw [t1]; exact sp_mk_1 G
      have k3 := t3.resolve_left tne
      obtain ⟨q29, e29, a29, f29⟩ := e_Mo_cp_80_79 (σ := x_pI t.2.2 60 4 (q23.2.1 60 4))
      have em : f_Mo_marks_60 v σ1 = some (t.1, x_pI q29.2 60 68 v) := by
        unfold f_Mo_marks_60
        dsimp only
        rw [e_Mo_wr x_60 (by decide), if_pos h]
        dsimp only
        rw [if_neg (by decide), e21]
        dsimp only [Option.bind_some]
        rw [e22]
        dsimp only [Option.bind_some]
        rw [if_pos (show v ≤ b22.2.1 60 69 by rw [l22.1, en, ev]; exact (i_le (by omega) (by omega)).mpr hmn), e23]
        dsimp only [Option.bind_some]
        rw [← ev] at e26 dt
        rw [e26]
        dsimp only [Option.bind_some]
        rw [dt]
        dsimp only [Option.bind_some]
        rw [e29]
        rfl
      have hfin : x_fr [(0, 9), (17, 99999), (18, 99999), (49, 99999), (50, 99999), (51, 99999), (52, 99999), (53, 99999), (54, 99999), (55, 1), (55, 4), (56, 99999), (57, 99999), (58, 99999), (60, 0), (60, 4), (60, 68), (60, 69), (79, 99999), (80, 99999), (82, 99999), (83, 99999), (84, 99999), (85, 99999), (86, 99999), (87, 99999), (88, 99999), (89, 99999), (96, 99999)] σ (x_pI q29.2 60 68 v) := x_frI (p := 60) (k := 68) rfl (x_fr.trans (x_frI (p := 60) (k := 4) rfl (x_fr.trans (x_fr.su h26 rfl) (x_fr.su t2 rfl))) (x_fr.su f29 rfl))
      have m55 : ∀ p, p < 60 → (x_pI q29.2 60 68 v).1 p = σ1.1 p := by
        intro p hp
        rw [y_pI_ne (by omega)]
        have k : ∀ {W : List (Nat × Nat)} {a b : xS}, x_fr W a b → (W.all fun w => decide (60 ≤ w.1)) = true → b.1 p = a.1 p := by
          intro W a b hf hs
          refine hf.ce p ?_
          rw [List.all_eq_true] at hs ⊢
          intro w hw
          have := hs w hw
          simp only [decide_eq_true_eq] at this
          simp only [bne_iff_ne]; omega
        rw [k f29 rfl, y_pI_ne (by omega), k t2 rfl, k g26 rfl, y_pI_ne (by omega)]
      refine ⟨0, σ1, t.1, x_pI q29.2 60 68 v, by rw [ecl, hσ1], em, ?_, fun _ => ?_, C, B.mks hfin ?_ ?_ ⟨?_, ?_, ?_⟩, Or.inl ?_⟩
      · rw [x_pI_kn (by omega), f29.ck 60 0 rfl, x_pI_kn (by omega), t2.ck 60 0 rfl, g26.ck 60 0 rfl]; exact x_60
      · have e1 : (x_pI q29.2 60 68 v).2 96 0 = σ1.2 96 0 := by
          show q29.2.2 96 0 = _
          rw [f29.2 96 0 rfl]
          show t.2.2.2 96 0 = _
          rw [t2.2 96 0 rfl, g26.2 96 0 rfl]; rfl
        rw [e1, hl1, r1, t1]
      · rw [x_pI_kn (by omega), f29.ck 60 4 rfl, x_pI_kk, f23.ck 60 4 rfl, f22.ck 60 4 rfl, x_pI_kn (by omega), f1.ck 60 4 rfl]
      · intro k hk
        rw [y_pI_ne (by omega), a29 k hk, y_pI_ne (by omega), t2.ce 80 rfl, f26.ce 80 rfl, y_pI_ne (by omega), a23 k hk, f22.ce 79 rfl, y_pI_ne (by omega), f1.ce 79 rfl]
      · rw [m55 55 (by omega), c55, x_pI_kk, ev]
      · rw [m55 55 (by omega), c55]; exact Or.inr (i_nb (b := 3) (by omega) hm)
      · rw [m55 55 (by omega), c55, i_cl (by omega), m55 58 (by omega)]
        intro i hi
        rw [c58 i hi, y_pI_ne (by omega), f29.ce 87 rfl, y_pI_ne (by omega), k3 i hi]
      · rw [m55 0 (by omega)]; exact c09
    · have fc : x_fr [(0, 9), (17, 99999), (18, 99999), (49, 99999), (50, 99999), (51, 99999), (52, 99999), (53, 99999), (54, 99999), (55, 1), (55, 4), (56, 99999), (57, 99999), (58, 99999), (96, 99999)] σ (x_pL q12.2 96 0 (-1 : Int32).toInt64) := x_fr.trans (x_fr.su f12 rfl) (x_fr.su x_pL_fr rfl)
      have f9 : x_fr x_Q σ (x_pL q12.2 96 0 (-1 : Int32).toInt64) := x_fr.trans (x_fr.su f12 rfl) (x_fr.su x_pL_fr rfl)
      have F9 : y_F C (x_pL q12.2 96 0 (-1 : Int32).toInt64) := (F.of f12 rfl rfl).of (x_pL_fr) rfl rfl
      obtain ⟨q21, b22, e21, e22, l22, f22⟩ := mp _ fc
      refine ⟨0, x_pL q12.2 96 0 (-1 : Int32).toInt64, -1, b22.2, ?_, ?_, ?_, fun _ => ?_, C, ?_, ?_⟩
      · unfold w_marks f_RH_marks_0 f_Ch_pickFirst_55
        rw [if_neg (i_nl.mpr h.1), if_pos h.2, d12]
        dsimp only [Option.bind_some]
        rw [l12.1, en, ev, if_neg (fun x => hmn ((i_le (by omega) (by omega)).mp x))]
        rfl
      · unfold f_Mo_marks_60
        dsimp only
        rw [e_Mo_wr x_60 (by decide), if_pos h]
        dsimp only
        rw [if_neg (by decide), e21]
        dsimp only [Option.bind_some]
        rw [e22]
        dsimp only [Option.bind_some]
        rw [if_neg (show ¬ v ≤ b22.2.1 60 69 by rw [l22.1, en, ev]; exact fun x => hmn ((i_le (by omega) (by omega)).mp x))]
      · rw [f22.ck 60 0 rfl]; exact x_60
      · rw [f22.2 96 0 rfl]
        exact x_pL_at (σ := q12.2) (v := (-1 : Int32).toInt64)
      · exact ((B.fr f9 rfl).t0 (v := 0)).fr f22 rfl
      · exact (F9.fr (W := [(60, 0)]) (x_frI (p := 60) (k := 0) rfl x_fr.rf) rfl).fr f22 rfl
  · refine ⟨1, σ, 0, x_pI σ 60 0 1, ?_, ?_, x_60, fun h => absurd h (by decide), C, B.t0, F.fr (W := [(60, 0)]) (x_frI (p := 60) (k := 0) rfl x_fr.rf) rfl⟩
    · unfold w_marks f_RH_marks_0
      by_cases h1 : v < 0
      · rw [if_pos h1]; rfl
      · rw [if_neg h1, if_neg (fun x => h ⟨i_nl.mp h1, x⟩)]; rfl
    · unfold f_Mo_marks_60
      dsimp only
      rw [e_Mo_wr x_60 (by decide), if_neg h]
      dsimp only
      rw [if_pos rfl, x_pI_pI]
