theorem pL_kk {σ : xS} {v : Int64} : (x_pL σ 96 0 v).2 96 0 = v := by simp [x_pL]
theorem x_fr.l {W : List (Nat × Nat)} {σ τ : xS} (f : x_fr W σ τ) (h : x_in W 96 0 = false) : τ.2 96 0 = σ.2 96 0 := f.2 96 0 h
theorem o_scene (v : Int32) : x_OP (w_scene v) (f_Mo_scene_60 v) := by
  rintro σ ⟨C, B, Fw⟩
  obtain ⟨t1, t2, t3, t4⟩ := B.2.2.2.2.2.2.1
  obtain ⟨n0, hn0, e01, hk⟩ : ∃ n : Nat, n ≤ 700 ∧ σ.1 0 1 = Int32.ofNat n ∧ ∀ k, k < n → σ.1 1 k = σ.1 67 k := ⟨_, i_nat (n := 700) (by omega) t3, (i_ex t2).1, t4⟩
  by_cases hv : v < 0 ∨ ¬ v ≤ σ.1 0 1
  · have ec : w_scene v σ = some (1, σ) := by
      have : f_RH_scene_0 v σ = some (.inr 1, σ) := by
        unfold f_RH_scene_0
        by_cases h0 : v < 0
        · rw [if_pos h0]
        · rw [if_neg h0, if_neg (hv.resolve_left h0)]
      unfold w_scene
      rw [this]
      dsimp only [Option.bind_some]
      rw [if_pos rfl]
    have em : f_Mo_scene_60 v σ = some (0, x_pI (x_pI σ 60 0 0) 60 0 1) := by
      have hj : f_Mo_scene_60_J22 v (x_pI σ 60 0 0) = some (0, x_pI (x_pI σ 60 0 0) 60 0 1) := by
        unfold f_Mo_scene_60_J22 f_Mo_scene_60_J23 f_Mo_right_60
        rw [if_pos (show (x_pI σ 60 0 0).1 60 0 = 0 from x_pI_kk), if_pos rfl]
        dsimp only
        rw [if_neg (show ¬ (x_pI (x_pI σ 60 0 0) 60 0 1).1 60 0 = 0 by rw [x_pI_kk]; decide)]
        dsimp only [Option.bind_some]
        rw [if_pos rfl]
      unfold f_Mo_scene_60
      dsimp only
      by_cases h0 : v < 0
      · rw [if_pos h0, hj]
      · rw [if_neg h0, if_pos (show (x_pI σ 60 0 0).1 60 15 < v by rw [x_pI_kn (by omega), t1]; exact i_nle.mp (hv.resolve_left h0)), hj]
    have f : x_fr [(60, 0)] σ (x_pI (x_pI σ 60 0 0) 60 0 1) := x_frI (p := 60) (k := 0) rfl (x_frI (p := 60) (k := 0) rfl x_fr.rf)
    exact ⟨1, σ, 0, _, ec, em, x_pI_kk, fun h => absurd h (by decide), C, B.fr f rfl, Fw.fr f rfl⟩
  · have hv0 : 0 ≤ v := i_nl.mp (fun x => hv (Or.inl x))
    have hvn : v ≤ σ.1 0 1 := Classical.byContradiction fun x => hv (Or.inr x)
    obtain ⟨ev, hv31⟩ := i_ex hv0
    generalize v.toNatClampNeg = n at ev hv31
    subst ev
    rw [e01] at hvn
    have hn : n ≤ n0 := (i_le hv31 (by omega)).mp hvn
    have hn7 : n ≤ 700 := by omega
    have hg : ∀ i, i < n → σ.1 67 i = σ.1 1 i := fun i hi => (hk i (by omega)).symm
    have rd : ∀ υ : xS, υ.1 60 0 = 0 → (∀ i, i < n → υ.1 67 i = σ.1 1 i) → x_ens (f_Re_read_2_1_21 (Int32.ofNat n) σ) (fun qc => ∃ υ', f_Mo_scene_60_J23 (Int32.ofNat n) 1 υ = f_Mo_scene_60_J136 υ' ∧ x_fr x_VM υ υ' ∧ υ'.1 60 15 = 0 ∧ (υ'.1 60 16 = 0 → υ'.1 60 17 = -1) ∧ x_rd (σ.1 1) n qc υ') := fun υ h0 hg' => t_read (σ := σ) (υ := υ) (g := σ.1 1) hn7 (fun i _ => rfl) h0 hg'
    obtain ⟨qc, ec, -⟩ := rd (x_pI σ 60 0 0) x_pI_kk (by rw [y_pI_ne (by omega)]; exact hg)
    have fc := fr_Re_read_2_1_21 ec
    have rd2 : ∀ υ : xS, υ.1 60 0 = 0 → (∀ i, i < n → υ.1 67 i = σ.1 1 i) → ∃ υ', f_Mo_scene_60_J23 (Int32.ofNat n) 1 υ = f_Mo_scene_60_J136 υ' ∧ x_fr x_VM υ υ' ∧ υ'.1 60 15 = 0 ∧ (υ'.1 60 16 = 0 → υ'.1 60 17 = -1) ∧ x_rd (σ.1 1) n qc υ' := by
      intro υ h0 hg'
      obtain ⟨qc', ec', h⟩ := rd υ h0 hg'
      have : qc' = qc := by rw [ec] at ec'; cases ec'; rfl
      rw [this] at h
      exact h
    -- the model, once the cells are as they were
    have mo : ∀ Fz : xS, Fz.1 60 15 = Int32.ofNat n0 → Fz.1 67 = σ.1 67 → ∃ υ', f_Mo_scene_60 (Int32.ofNat n) Fz = f_Mo_scene_60_J136 υ' ∧ x_fr x_VM (x_pI Fz 60 0 0) υ' ∧ υ'.1 60 15 = 0 ∧ (υ'.1 60 16 = 0 → υ'.1 60 17 = -1) ∧ x_rd (σ.1 1) n qc υ' := by
      intro Fz h15 h67
      obtain ⟨υ', e, h⟩ := rd2 (x_pI Fz 60 0 0) x_pI_kk (by rw [y_pI_ne (by omega), h67]; exact hg)
      refine ⟨υ', ?_, h⟩
      unfold f_Mo_scene_60
      dsimp only
      rw [if_neg (i_ge (by omega)), if_neg (show ¬ (x_pI Fz 60 0 0).1 60 15 < Int32.ofNat n by rw [x_pI_kn (by omega), h15]; exact fun x => by have := (i_lt (by omega) (by omega)).mp x; omega)]
      exact e
    have ecl : ∀ (r : (Int32 ⊕ Nat) × xS), (if qc.1 = 0 then some ((Sum.inl ((x_pI (x_pI (x_pI qc.2 0 1 0) 59 0 ((x_pI qc.2 0 1 0).1 59 0 + 1)) 0 11 ((x_pI (x_pI qc.2 0 1 0) 59 0 ((x_pI qc.2 0 1 0).1 59 0 + 1)).1 2 7)).1 2 6) : Int32 ⊕ Nat), x_pI (x_pI (x_pI qc.2 0 1 0) 59 0 ((x_pI qc.2 0 1 0).1 59 0 + 1)) 0 11 ((x_pI (x_pI qc.2 0 1 0) 59 0 ((x_pI qc.2 0 1 0).1 59 0 + 1)).1 2 7)) else (f_Sc_finish_7 (x_sw (x_pI qc.2 0 1 0))).bind fun q5 => (f_Se_begin_35_7 q5.2).bind fun q6 => (f_Ch_drop_55 (x_pI q6.2 0 7 0)).bind fun q8 => some ((Sum.inl (0 : Int32) : Int32 ⊕ Nat), x_pI (x_pI q8.2 0 9 0) 0 11 (-1))) = some r → f_RH_scene_0 (Int32.ofNat n) σ = some r := by
      intro r hr
      unfold f_RH_scene_0
      rw [if_neg (i_ge (by omega)), if_pos (show Int32.ofNat n ≤ σ.1 0 1 by rw [e01]; exact hvn), ec]
      exact hr
    obtain ⟨-, -, -, -, -, h6, -, -, h59, -, -⟩ := id B
    -- which way did the reading go
    obtain ⟨υx, -, -, -, -, hx⟩ := mo σ (by rw [t1]; exact e01) rfl
    by_cases hq : qc.1 = 0
    · have er := ecl _ (if_pos hq)
      have q2 : x_fr [(0, 1), (0, 11), (59, 99999)] qc.2 (x_pI (x_pI (x_pI qc.2 0 1 0) 59 0 ((x_pI qc.2 0 1 0).1 59 0 + 1)) 0 11 ((x_pI (x_pI qc.2 0 1 0) 59 0 ((x_pI qc.2 0 1 0).1 59 0 + 1)).1 2 7)) := x_frI (p := 0) (k := 11) rfl (x_frI (p := 59) (k := 0) rfl (x_frI (p := 0) (k := 1) rfl x_fr.rf))
      have z1 : (x_pI (x_pI (x_pI qc.2 0 1 0) 59 0 ((x_pI qc.2 0 1 0).1 59 0 + 1)) 0 11 ((x_pI (x_pI qc.2 0 1 0) 59 0 ((x_pI qc.2 0 1 0).1 59 0 + 1)).1 2 7)).1 0 1 = 0 := by simp [x_pI]
      have z11 : (x_pI (x_pI (x_pI qc.2 0 1 0) 59 0 ((x_pI qc.2 0 1 0).1 59 0 + 1)) 0 11 ((x_pI (x_pI qc.2 0 1 0) 59 0 ((x_pI qc.2 0 1 0).1 59 0 + 1)).1 2 7)).1 0 11 = qc.2.1 2 7 := by simp [x_pI]
      have z59 : (x_pI (x_pI (x_pI qc.2 0 1 0) 59 0 ((x_pI qc.2 0 1 0).1 59 0 + 1)) 0 11 ((x_pI (x_pI qc.2 0 1 0) 59 0 ((x_pI qc.2 0 1 0).1 59 0 + 1)).1 2 7)).1 59 = sp_up (qc.2.1 59) 0 (qc.2.1 59 0 + 1) := by
        rw [y_pI_ne (by omega), x_pI_up, y_pI_ne (q := 59) (p := 0) (by omega)]
      have z26 : (x_pI (x_pI (x_pI qc.2 0 1 0) 59 0 ((x_pI qc.2 0 1 0).1 59 0 + 1)) 0 11 ((x_pI (x_pI qc.2 0 1 0) 59 0 ((x_pI qc.2 0 1 0).1 59 0 + 1)).1 2 7)).1 2 6 = qc.2.1 2 6 := by simp [x_pI]
      rw [z26] at er
      generalize x_pI (x_pI (x_pI qc.2 0 1 0) 59 0 ((x_pI qc.2 0 1 0).1 59 0 + 1)) 0 11 ((x_pI (x_pI qc.2 0 1 0) 59 0 ((x_pI qc.2 0 1 0).1 59 0 + 1)).1 2 7) = F at er q2 z1 z11 z59
      have fF : x_fr x_WS σ (x_pL F 96 0 (qc.2.1 2 6).toInt64) := x_fr.trans (fc.su rfl) (x_fr.trans (q2.su rfl) (x_frL (p := 96) (k := 0) rfl x_fr.rf))
      have ecw : w_scene (Int32.ofNat n) σ = some (0, x_pL F 96 0 (qc.2.1 2 6).toInt64) := by
        unfold w_scene
        rw [er]
        rfl
      have f60 : ∀ k, F.1 60 k = σ.1 60 k := fun k => by rw [q2.ce 60 rfl, fc.ce 60 rfl]
      obtain ⟨υ', e, fυ, h15, h17, hrd⟩ := mo (x_pL F 96 0 (qc.2.1 2 6).toInt64) (by show F.1 60 15 = _; rw [f60, t1]; exact e01) (by show F.1 67 = _; rw [q2.ce 67 rfl, fc.ce 67 rfl])
      rcases hrd with ⟨-, k, ee, k6, k7, hb⟩ | ⟨c1, -⟩
      · have hng : ¬ υ'.1 60 16 = 0 := by rw [hb.2.1]; exact hb.1
        rw [m_bad hng] at e
        have fI : x_fr [(60, 0)] (x_pL F 96 0 (qc.2.1 2 6).toInt64) (x_pI (x_pL F 96 0 (qc.2.1 2 6).toInt64) 60 0 0) := x_frI (p := 60) (k := 0) rfl x_fr.rf
        have fE : x_fr [(68, 99999)] υ' (x_pI υ' 68 0 (υ'.1 68 0 + 1)) := x_frI (p := 68) (k := 0) rfl x_fr.rf
        have fA : x_fr x_WS σ (x_pI υ' 68 0 (υ'.1 68 0 + 1)) := x_fr.trans fF (x_fr.trans (fI.su rfl) (x_fr.trans (fυ.su rfl) (fE.su rfl)))
        refine ⟨0, _, _, _, ecw, e, ?_, fun _ => ?_, C, B.sc fA ?_ ?_ ?_ ?_, Fw.of fA rfl rfl⟩
        · rw [fE.ck 60 0 rfl, fυ.ck 60 0 rfl]; exact x_pI_kk
        · rw [fE.l rfl, fυ.l rfl, fI.l rfl, pL_kk, hb.2.1, k6]
        · rw [fE.ck 0 1 rfl, fυ.ck 0 1 rfl, fI.ck 0 1 rfl]; exact z1
        · rw [fE.ck 60 15 rfl]; exact h15
        · rw [fE.ck 0 11 rfl, fυ.ck 0 11 rfl, fI.ck 0 11 rfl, fE.ck 60 17 rfl, hb.2.2]
          exact z11.trans k7
        · intro j hj
          have e59 : ∀ j, j < 3 → qc.2.1 59 j = υ'.1 68 j := by
            intro j hj
            rw [fc.ce 59 rfl, fυ.ce 68 rfl, fI.ce 68 rfl]
            show _ = F.1 68 j
            rw [q2.ce 68 rfl, fc.ce 68 rfl]
            exact h59 j hj
          rw [fE.ce 59 rfl, fυ.ce 59 rfl, fI.ce 59 rfl]
          show F.1 59 j = _
          rw [z59, x_pI_up]
          by_cases h0 : j = 0
          · rw [h0]
            show qc.2.1 59 0 + 1 = υ'.1 68 0 + 1
            rw [e59 0 (by omega)]
          · show (if j = 0 then _ else qc.2.1 59 j) = (if j = 0 then _ else υ'.1 68 j)
            rw [if_neg h0, if_neg h0]
            exact e59 j hj
      · exact absurd (hq.symm.trans c1) (by decide)
    · rcases hx with ⟨c0, -⟩ | ⟨c1, m, c, P, D⟩
      · exact absurd c0 hq
      · obtain ⟨kh, -, d1, -, -, -, d5⟩ := id D
        have hm := kh.1.1
        have hli := kh.2.2.2.2.1
        have hcl := kh.2.2.2.2.2
        obtain ⟨⟨a, F⟩, eF, ha, hF, fN⟩ := c_new d1 d5 hli (by omega)
        dsimp only at ha hF fN
        subst ha
        have er := ecl _ ((if_neg hq).trans eF)
        have ecw : w_scene (Int32.ofNat n) σ = some (0, x_pL F 96 0 (0 : Int32).toInt64) := by
          unfold w_scene
          rw [er]
          rfl
        have f60 : ∀ k, F.1 60 k = σ.1 60 k := fun k => by rw [fN.ce 60 rfl, fc.ce 60 rfl]
        obtain ⟨υ', e, fυ, h15, h17, hrd⟩ := mo (x_pL F 96 0 (0 : Int32).toInt64) (by show F.1 60 15 = _; rw [f60, t1]; exact e01) (by show F.1 67 = _; rw [fN.ce 67 rfl, fc.ce 67 rfl])
        rcases hrd with ⟨c0, -⟩ | ⟨-, m', c', P', D'⟩
        · exact absurd c0 hq
        · obtain ⟨kh', mh', d1', d2', d3', d4', d5'⟩ := D'
          have hm' := kh'.1.1
          have hg0 := mh'.2.1
          obtain ⟨⟨b, M⟩, eM, hb, hk, fM⟩ := m_good hg0
          dsimp only at hb hk fM
          subst hb
          rw [eM] at e
          have fI : x_fr [(60, 0)] (x_pL F 96 0 (0 : Int32).toInt64) (x_pI (x_pL F 96 0 (0 : Int32).toInt64) 60 0 0) := x_frI (p := 60) (k := 0) rfl x_fr.rf
          have low : ∀ p, p < 60 → M.1 p = F.1 p := by
            have fL : x_fr (([(60, 1), (60, 2), (60, 3), (60, 4), (60, 5), (60, 6), (60, 7), (60, 56), (60, 68), (60, 74), (60, 76), (60, 78), (61, 99999), (62, 99999), (63, 99999), (64, 99999), (65, 99999), (66, 99999), (79, 99999)] : List (Nat × Nat)) ++ x_VM ++ [(60, 0)]) (x_pL F 96 0 (0 : Int32).toInt64) M := x_fr.trans (fI.su rfl) (x_fr.trans (fυ.su rfl) (fM.su rfl))
            intro p hp
            have : ∀ w ∈ (([(60, 1), (60, 2), (60, 3), (60, 4), (60, 5), (60, 6), (60, 7), (60, 56), (60, 68), (60, 74), (60, 76), (60, 78), (61, 99999), (62, 99999), (63, 99999), (64, 99999), (65, 99999), (66, 99999), (79, 99999)] : List (Nat × Nat)) ++ x_VM ++ [(60, 0)]), 60 ≤ w.1 := by decide
            refine (fL.ce p ?_).trans rfl
            rw [List.all_eq_true]
            intro w hw
            have := this w hw
            simp only [bne_iff_ne]
            omega
          have l60 : ∀ k, x_in [(60, 1), (60, 2), (60, 3), (60, 4), (60, 5), (60, 6), (60, 7), (60, 56), (60, 68), (60, 74), (60, 76), (60, 78), (61, 99999), (62, 99999), (63, 99999), (64, 99999), (65, 99999), (66, 99999), (79, 99999)] 60 k = false → x_in x_VM 60 k = false → ¬ k = 0 → M.1 60 k = σ.1 60 k := by
            intro k h1 h2 h3
            rw [fM.ck 60 k h1, fυ.ck 60 k h2, x_pI_kn h3]
            exact f60 k
          refine ⟨0, _, _, _, ecw, e, ?_, fun _ => ?_, ?_⟩
          · rw [fM.ck 60 0 rfl, fυ.ck 60 0 rfl]; exact x_pI_kk
          · rw [fM.l rfl, fυ.l rfl, fI.l rfl, pL_kk]
          · have hd' : x_li (qc.2.1 27 1) (qc.2.1 28) c' := kh'.2.2.2.2.1
            refine B_of (i := m') (by omega) d1' d2' d3' d4' d5' hd' (by have := kh'.2.2.2.2.2; omega) hk hF low ?_ ?_ ?_ ?_
            · rw [l60 59 rfl rfl (by omega), l60 60 rfl rfl (by omega), l60 64 rfl rfl (by omega)]; exact h6
            · rw [fM.ck 60 15 rfl]; exact h15
            · rw [fM.ck 60 17 rfl]; exact h17 hg0
            · intro j hj
              rw [low 59 (by omega), fM.ce 68 rfl, fυ.ce 68 rfl, fI.ce 68 rfl]
              show F.1 59 j = F.1 68 j
              rw [fN.ce 59 rfl, fN.ce 68 rfl, fc.ce 59 rfl, fc.ce 68 rfl]
              exact h59 j hj
