theorem gd_fin {υ : xS} {r : Unit × xS} (h : l_fin υ = some r) : x_gd υ r.2 := by
  obtain ⟨q, e, h⟩ := x_bind h
  obtain ⟨q2, e2, h⟩ := x_bind h
  cases h
  exact (x_gd.of (fr_Mo_isSign_60 e) rfl rfl).trans (gd_Mo_need_60 e2)
abbrev x_VF : List (Nat × Nat) := [(60, 16), (60, 17), (60, 20), (60, 21), (60, 22), (60, 23), (60, 24), (60, 25), (60, 26), (60, 27)]
theorem fr_from {υ : xS} {qm : Unit × xS} (h : ((f_Mo_goes_60 υ).bind fun q42 => (f_Mo_number_60 12 480 q42.2).bind fun q43 => l_fin (x_pI q43.2 60 27 q43.1)) = some qm) : x_fr x_VF υ qm.2 ∧ x_gd υ qm.2 := by
  obtain ⟨q, e, h⟩ := x_bind h
  obtain ⟨q2, e2, h⟩ := x_bind h
  refine ⟨?_, ?_⟩
  · have f1 : x_fr x_VF υ q.2 := (fr_Mo_goes_60 e).su rfl
    have f2 : x_fr x_VF q.2 q2.2 := (fr_Mo_number_60 e2).su rfl
    have f3 : x_fr x_VF q2.2 (x_pI q2.2 60 27 q2.1) := x_frI (p := 60) (k := 27) rfl x_fr.rf
    have f4 : x_fr x_VF (x_pI q2.2 60 27 q2.1) qm.2 := (fr_fin h).su rfl
    exact ((f1.trans f2).trans f3).trans f4
  · have g1 : x_gd υ q.2 := x_gd.of (fr_Mo_goes_60 e) rfl rfl
    have g3 : x_gd q2.2 (x_pI q2.2 60 27 q2.1) := x_gdI (p := 60) (k := 27) (by omega) x_gd.rf
    exact ((g1.trans (gd_Mo_number_60 e2)).trans g3).trans (gd_fin h)
abbrev x_VL : List (Nat × Nat) := [(60, 16), (60, 17), (60, 20), (60, 21), (60, 22), (60, 23), (60, 24), (60, 25), (60, 26), (60, 28), (60, 29), (60, 30), (60, 31), (60, 32), (60, 33), (60, 34), (60, 35), (60, 37), (60, 38), (60, 39), (60, 40), (60, 41), (60, 42), (69, 99999), (70, 99999), (71, 99999), (72, 99999), (73, 99999), (74, 99999), (75, 99999), (76, 99999), (77, 99999), (78, 99999)]
theorem gd_L115 {a : xS} {o : xS ⊕ xS} (h : f_Mo_scene_60_L115 a = some o) : x_gdO (fun a => a) (fun b => b) a o := by
  unfold f_Mo_scene_60_L115 at h
  try dsimp only at h
  obtain ⟨q1, q1h, h⟩ := x_bind h
  try dsimp only at h
  have q1f : x_gd a q1.2 := x_gd.of (fr_Mo_isGood_60 q1h) rfl rfl
  refine x_iteC h (fun h => ?_) (fun h => ?_)
  · cases h
    exact q1f
  · refine x_iteC h (fun h => ?_) (fun h => ?_)
    · cases h
      exact q1f
    · obtain ⟨q2, q2h, h⟩ := x_bind h
      cases h
      exact x_gd.trans q1f (gd_Mo_line_60 q2h)
def x_rd (g : Nat → Int32) (n : Nat) (qc : Int32 × xS) (υ : xS) : Prop :=
  (qc.1 = 0 ∧ ∃ k e, qc.2.1 2 6 = k ∧ qc.2.1 2 7 = Int32.ofNat (tk_i g n e).2.2.1 ∧ x_bad g n υ k e) ∨ (qc.1 = 1 ∧ ∃ m c P, x_DR g n m m c P qc.2 υ)
section RD
variable {g : Nat → Int32} {n m i : Nat} {τ υ : xS}
theorem t_J (D : x_DR g n m i [] [] τ (x_pI υ 60 35 (υ.1 60 27))) : x_ens (f_Re_read_2_1_21_J69 τ) (fun qc => ∃ υ', f_Mo_scene_60_J107 υ = f_Mo_scene_60_J136 υ' ∧ x_fr x_VL υ υ' ∧ x_gd υ υ' ∧ x_rd g n qc υ') := by
  have hi := D.2.1.2.2.2
  have hm := D.1.1.1
  obtain ⟨b, eb, υ', em, ho⟩ := t_loop (m - i) i 0 10000 10000 [] [] τ _ (by omega) (by omega) (by omega) (by omega) D
  have fr : x_fr x_VL υ υ' := x_fr.trans (x_frI (p := 60) (k := 35) (v := υ.1 60 27) rfl x_fr.rf) (x_itF (sA := fun a => a) (sB := fun b => b) (fun a o h => fr_Mo_scene_60_L115 h) _ _ _ em)
  have gd : x_gd υ υ' := x_gd.trans (x_gdI (p := 60) (k := 35) (v := υ.1 60 27) (by omega) x_gd.rf) (x_itG (sA := fun a => a) (sB := fun b => b) (fun a o h => gd_L115 h) _ _ _ em)
  have e7 : f_Mo_scene_60_J107 υ = f_Mo_scene_60_J136 υ' := by
    unfold f_Mo_scene_60_J107
    dsimp only
    rw [em]
    rfl
  unfold f_Re_read_2_1_21_J69
  rw [show (0 : Int32) = Int32.ofNat 0 from rfl, eb]
  dsimp only [Option.bind_some]
  rcases ho with ⟨r, k, e, rfl, h0, h6, h7, hb⟩ | ⟨r, c, P, rfl, D'⟩
  · exact x_ens.so ⟨υ', e7, fr, gd, Or.inl ⟨h0, k, e, h6, h7, hb⟩⟩
  · exact x_ens.so ⟨υ', e7, fr, gd, Or.inr ⟨rfl, m, c, P, D'⟩⟩
abbrev x_VM : List (Nat × Nat) := [(60, 15), (60, 16), (60, 17), (60, 19), (60, 20), (60, 21), (60, 22), (60, 23), (60, 24), (60, 25), (60, 26), (60, 27), (60, 28), (60, 29), (60, 30), (60, 31), (60, 32), (60, 33), (60, 34), (60, 35), (60, 37), (60, 38), (60, 39), (60, 40), (60, 41), (60, 42), (69, 99999), (70, 99999), (71, 99999), (72, 99999), (73, 99999), (74, 99999), (75, 99999), (76, 99999), (77, 99999), (78, 99999)]
theorem m_ready (hn : n ≤ 700) (hmn : m ≤ n) (t3 : tk_i g n m = (0, 0, n, n)) (t2 : ∀ i, i < m → ¬ (tk_i g n i).1 = 0) (h0 : υ.1 60 0 = 0) (hg' : ∀ i, i < n → υ.1 67 i = g i) : ∃ υ0 υ1 : xS, x_e1 υ0 ∧ x_fr x_VF υ0 υ1 ∧ υ1.1 60 27 = 120 ∧ x_mh g n m υ1 0 ∧ υ1.1 60 17 = -1 ∧ υ1.1 60 15 = 0 ∧ x_fr x_VM υ υ1 ∧ f_Mo_scene_60_J23 (Int32.ofNat n) 1 υ = if tk_km.getD (tk_wd (tk_i g n) 0) 0 = 8 then ((f_Mo_goes_60 υ1).bind fun q42 => (f_Mo_number_60 12 480 q42.2).bind fun q43 => l_fin (x_pI q43.2 60 27 q43.1)).bind (fun q => f_Mo_scene_60_J107 q.2) else f_Mo_scene_60_J107 υ1 := by
  obtain ⟨s, hs, s15, s17, s16, s19, s20, fs⟩ : ∃ s, x_pI (x_pI (x_pI (x_pI (x_pI υ 60 15 0) 60 17 (-1)) 60 16 0) 60 19 (Int32.ofNat n)) 60 20 0 = s ∧ s.1 60 15 = 0 ∧ s.1 60 17 = -1 ∧ s.1 60 16 = 0 ∧ s.1 60 19 = Int32.ofNat n ∧ s.1 60 20 = 0 ∧ x_fr [(60, 15), (60, 16), (60, 17), (60, 19), (60, 20)] υ s := ⟨_, rfl, by simp [x_pI], by simp [x_pI], by simp [x_pI], by simp [x_pI], by simp [x_pI], x_frI (p := 60) (k := 20) rfl (x_frI (p := 60) (k := 19) rfl (x_frI (p := 60) (k := 16) rfl (x_frI (p := 60) (k := 17) rfl (x_frI (p := 60) (k := 15) rfl x_fr.rf))))⟩
  obtain ⟨q38, e38, h38, f38⟩ := m_forgets (υ := s)
  obtain ⟨q39, e39, h39⟩ := m_goes (σ := q38.2) (g := g) (n := n) (p := 0) hn (by omega) ((f38.ck 60 20 rfl).trans s20) ((f38.ck 60 19 rfl).trans s19) (by rw [f38.ce 67 rfl, fs.ce 67 rfl]; exact hg')
  have f39 := fr_Mo_goes_60 e39
  have f40 : x_fr [(60, 27)] q39.2 (x_pI q39.2 60 27 120) := x_frI (p := 60) (k := 27) rfl x_fr.rf
  have e40 : (x_pI q39.2 60 27 120).1 60 27 = 120 := x_pI_kk
  have mh : x_mh g n m q39.2 0 := ⟨⟨hn, hmn, t3, t2, by rw [f39.ck 60 19 rfl, f38.ck 60 19 rfl]; exact s19, by rw [f39.ce 67 rfl, f38.ce 67 rfl, fs.ce 67 rfl]; exact hg'⟩, by rw [f39.ck 60 16 rfl, f38.ck 60 16 rfl]; exact s16, h39, by omega⟩
  have mh2 := mh.fr f40 rfl rfl rfl rfl rfl rfl rfl rfl rfl rfl
  refine ⟨q38.2, x_pI q39.2 60 27 120, h38, x_fr.trans (f39.su rfl) (f40.su rfl), e40, mh2, ?_, ?_, ?_, ?_⟩
  · rw [f40.ck 60 17 rfl, f39.ck 60 17 rfl, f38.ck 60 17 rfl]; exact s17
  · rw [f40.ck 60 15 rfl, f39.ck 60 15 rfl, f38.ck 60 15 rfl]; exact s15
  · exact x_fr.trans (fs.su rfl) (x_fr.trans (f38.su rfl) (x_fr.trans (f39.su rfl) (f40.su rfl)))
  · unfold f_Mo_scene_60_J23 f_Mo_right_60
    rw [if_pos h0, if_neg (show ¬ (1 : Int32) = 0 by decide), if_pos h0]
    dsimp only [Option.bind_some]
    rw [if_neg (show ¬ (1 : Int32) = 0 by decide), hs, e38]
    dsimp only [Option.bind_some]
    rw [e39]
    dsimp only [Option.bind_some]
    have e : x_kw (tk_i g n) 0 = tk_km.getD (tk_wd (tk_i g n) 0) 0 := by
      unfold x_kw tk_wd
      by_cases h1 : (tk_i g n 0).1 = 1
      · rw [if_pos h1, if_pos h1]
      · rw [if_neg h1, if_neg h1]; rfl
    rw [l_kw mh2, e]
    dsimp only [Option.bind_some]
    by_cases h8 : tk_km.getD (tk_wd (tk_i g n) 0) 0 = 8
    · rw [if_pos h8, if_pos h8]
      simp only [l_fin, Option.bind_assoc, Option.bind_some]
    · rw [if_neg h8, if_neg h8]
theorem km_8 {w : Nat} (h : w < 23) : tk_km.getD w 0 = 8 ↔ w = 1 := by
  have : ∀ w : Fin 23, tk_km.getD w.val 0 = 8 ↔ w.val = 1 := by decide +kernel
  exact this ⟨w, h⟩
theorem t_read {σ : xS} (hn : n ≤ 700) (hg : ∀ i, i < n → σ.1 1 i = g i) (h0 : υ.1 60 0 = 0) (hg' : ∀ i, i < n → υ.1 67 i = g i) : x_ens (f_Re_read_2_1_21 (Int32.ofNat n) σ) (fun qc => ∃ υ', f_Mo_scene_60_J23 (Int32.ofNat n) 1 υ = f_Mo_scene_60_J136 υ' ∧ x_fr x_VM υ υ' ∧ υ'.1 60 15 = 0 ∧ (υ'.1 60 16 = 0 → υ'.1 60 17 = -1) ∧ x_rd g n qc υ') := by
  unfold f_Re_read_2_1_21
  refine x_ens.bi (c_split hn hg) ?_
  rintro q7 ⟨m, hm, t1, t2, t3, f7⟩
  dsimp only
  obtain ⟨υ0, υ1, m0, m1, m27, mm, m17, m15, mf, mJ⟩ := m_ready hn hm t3 t2 h0 hg'
  rw [mJ]
  refine x_ens.bi c_l24 ?_
  rintro b ⟨z, fb⟩
  obtain ⟨q12, e12, h12⟩ := c_clear (σ := b.2)
  have f12 := fr_Sc_clear_21 e12
  rw [e12]
  dsimp only [Option.bind_some]
  have fs : x_fr [(2, 4), (2, 6), (2, 7)] q7.2 (x_pI (x_pI (x_pI q7.2 2 4 0) 2 6 0) 2 7 (-1)) := x_frI (p := 2) (k := 7) rfl (x_frI (p := 2) (k := 6) rfl (x_frI (p := 2) (k := 4) rfl x_fr.rf))
  have kh : x_kh (tk_i g n) m q12.2 0 [] := by
    refine ⟨⟨by omega, by rw [t3], t2, fun j hj => tk_i_w hj, ?_, ?_⟩, x_fr.rf, ?_, by omega, ⟨h12.2.2.1, fun j hj => by simp at hj⟩, by simp⟩
    · rw [f12.ck 2 3 rfl, fb.ck 2 3 rfl, fs.ck 2 3 rfl]; exact t1.1
    · intro i hi
      rw [f12.ce 3 rfl, f12.ce 4 rfl, f12.ce 5 rfl, fb.ce 3 rfl, fb.ce 4 rfl, fb.ce 5 rfl, fs.ce 3 rfl, fs.ce 4 rfl, fs.ce 5 rfl]
      exact t1.2 i hi
    · rw [f12.ck 2 4 rfl, fb.ck 2 4 rfl, x_pI_kn (by omega), x_pI_kn (by omega)]; exact x_pI_kk
  have z6 : ∀ j, j < 12 → q12.2.1 6 j = 0 := by rw [f12.ce 6 rfl]; exact z
  obtain ⟨ew, hw⟩ := r_word kh.1 kh.2
  unfold f_Re_isWord_2
  rw [ew]
  dsimp only [Option.bind_some]
  unfold x_ok
  rw [if_pos (show 1000 ≤ 1000 + tk_wd (tk_i g n) 0 ∧ 1000 + tk_wd (tk_i g n) 0 < 1023 by omega), if_pos (show 1000 ≤ 1001 ∧ 1001 < 1023 by omega)]
  by_cases h1 : tk_wd (tk_i g n) 0 = 1
  · rw [if_pos (show 1000 + tk_wd (tk_i g n) 0 = 1001 by omega), if_pos ((km_8 hw).mpr h1)]
    dsimp only [Option.bind_some]
    rw [if_neg (show ¬ (1 : Int32) = 0 by decide)]
    have h0m : 0 < m := by
      by_cases hz : m = 0
      · exfalso
        rw [hz] at t3
        unfold tk_wd at h1
        rw [t3, if_neg (show ¬ ((0, 0, n, n) : Int32 × Int32 × Nat × Nat).1 = 1 from (by decide : ¬ (0 : Int32) = 1))] at h1
        omega
      · omega
    obtain ⟨qc, ec, qm, em, hR⟩ := t_from kh mm h0m
    have fc := fr_Re_readFrom_2_21 ec
    obtain ⟨fm, gm⟩ := fr_from em
    rw [ec, em]
    dsimp only [Option.bind_some]
    rcases hR with ⟨c0, k, e, c6, c7, hb⟩ | ⟨c1, i', hi', kh', mh', hD⟩
    · rw [if_pos c0]
      have fI : x_fr [(60, 35)] qm.2 (x_pI qm.2 60 35 (qm.2.1 60 27)) := x_frI (p := 60) (k := 35) rfl x_fr.rf
      have hb2 := hb.fr fI rfl rfl
      refine x_ens.so ⟨x_pI qm.2 60 35 (qm.2.1 60 27), ?_, ?_, ?_, ?_, Or.inl ⟨rfl, k, e, c6, c7, hb2⟩⟩
      · unfold f_Mo_scene_60_J107
        dsimp only
        obtain ⟨x, ex, hx⟩ := lb_loop (fu := 9999) (Q := fun y => y = x_pI qm.2 60 35 (qm.2.1 60 27)) hb2 rfl
        rw [ex, hx]
        rfl
      · exact x_fr.trans mf (x_fr.trans (fm.su rfl) (fI.su rfl))
      · rw [fI.ck 60 15 rfl, fm.ck 60 15 rfl]; exact m15
      · intro h; exact absurd (hb2.2.1.symm.trans h) hb2.1
    · rw [if_neg (by rw [c1]; decide)]
      refine (t_J (e_start kh' mh' h12 m0 fc (x_fr.trans m1 fm) z6 hD)).im ?_
      rintro qr ⟨υ', e1, e2, e3, e4⟩
      refine ⟨υ', e1, x_fr.trans mf (x_fr.trans (fm.su rfl) (e2.su rfl)), ?_, ?_, e4⟩
      · rw [e2.ck 60 15 rfl, fm.ck 60 15 rfl]; exact m15
      · intro h
        have := e3 h
        rw [this.2, (gm this.1).2]
        exact m17
  · rw [if_neg (show ¬ 1000 + tk_wd (tk_i g n) 0 = 1001 by omega), if_neg (fun x => h1 ((km_8 hw).mp x))]
    dsimp only [Option.bind_some]
    rw [if_pos rfl]
    have hD : q12.2.1 21 0 = υ1.1 60 27 ∧ 12 ≤ q12.2.1 21 0 ∧ q12.2.1 21 0 ≤ 480 := by
      rw [h12.1.1, m27]; decide
    refine (t_J (e_start kh mm h12 m0 x_fr.rf m1 z6 hD)).im ?_
    rintro qr ⟨υ', e1, e2, e3, e4⟩
    refine ⟨υ', e1, x_fr.trans mf (e2.su rfl), ?_, ?_, e4⟩
    · rw [e2.ck 60 15 rfl]; exact m15
    · intro h
      rw [(e3 h).2]; exact m17
end RD
