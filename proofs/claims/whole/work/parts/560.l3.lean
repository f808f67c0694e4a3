section LV2
variable {g : Nat → Int32} {n m i : Nat} {c : List Int32} {τ υ : xS}
theorem t_go (h : x_kh (tk_i g n) m τ i c) (k : x_mh g n m υ i) (hi : i < m) (d : x_d1 τ υ) : x_ens (f_Re_readGo_2_21 τ) (fun qc => (qc.1 = 0 ∨ qc.1 = 1) ∧ x_ens ((f_Mo_readsMove_60 0 υ).bind fun q => l_fin q.2) (fun qm => x_rs g n m i c x_d1 qc qm.2)) := by
  obtain ⟨d1, d2, kk, s, b1, b2, e1, e2, e3, e4, e5, e6, e7⟩ := id d
  unfold f_Re_readGo_2_21 f_Mo_readsMove_60
  by_cases hk : kk < 12
  · rw [e1, if_pos (show Int32.ofNat kk < 12 from (i_lt (k := 12) (by omega) (by omega)).mpr hk), e2, if_neg (show ¬ Int32.ofNat kk = 12 from fun x => by have := (i_ej (k := 12) (by omega) (by omega)).mp x; omega)]
    unfold f_Mo_readsMove_60_J14
    rw [k.good]
    dsimp only [Option.bind_some]
    rw [if_neg (show ¬ (1 : Int32) = 0 by decide)]
    obtain ⟨qg, eg, g1, g2⟩ := l_go k
    rw [eg]
    dsimp only [Option.bind_some]
    rw [if_pos rfl]
    obtain ⟨qn, en, n1, n2⟩ := l_num (lo := 12) (hi := 480) (by decide) g1
    rw [en]
    dsimp only [Option.bind_some]
    rw [tk_ad_lt hi] at g1 n2
    refine x_ens.bi (k_adv h) ?_
    rintro qa ⟨a1, a2⟩
    rw [tk_ad_lt hi] at a1
    refine k_nt (z := fun q => some ((0 : Int32), q)) a1 ?_ ?_
    · intro h2 hlo hhi q q1 q2 q3
      unfold x_nr at n2
      rw [if_pos h2, if_pos ⟨hlo, hhi⟩] at n2
      have hl : i + 1 < m := k.1.lt a1.2.2.2.1 (by rw [h2]; decide)
      rw [q1, n2.1]
      refine x_ens.bi (t_tenths (i0 := i) (v := (tk_i g n (i + 1)).2.1) q2 n2.2 (by rw [tk_ad_lt hl]; omega) ⟨hlo, hhi⟩ ((d.fr a2 g2 rfl rfl rfl rfl rfl rfl rfl rfl rfl rfl rfl).fr q3 n1 rfl rfl rfl rfl rfl rfl rfl rfl rfl rfl rfl) ?_) (fun qc hq => x_ens.ok hq.1 (x_ens.so hq))
      rw [q3.ck 21 1 rfl, a2.ck 21 1 rfl, e1]
      exact (i_lt (k := 12) (by omega) (by omega)).mpr hk
    · intro f q hf q6 q7
      refine x_ens.so ⟨Or.inl rfl, ?_⟩
      have hb : x_bad g n qn.2 f (i + 1) := by
        unfold x_nr at n2
        by_cases h2 : (tk_i g n (i + 1)).1 = 2
        · rw [if_pos h2] at n2 hf
          rw [if_neg hf.1] at n2
          rw [hf.2]; exact n2
        · rw [if_neg h2] at n2 hf
          rw [hf]; exact n2
      unfold f_Mo_readsMove_60_J46 f_Mo_numberHere_60
      rw [hb.good]
      dsimp only [Option.bind_some]
      rw [if_pos rfl]
      dsimp only [Option.bind_some]
      rw [if_pos rfl]
      dsimp only [Option.bind_some]
      exact rs_bad rfl q6 q7 hb
  · rw [e1, if_neg (show ¬ Int32.ofNat kk < 12 from fun x => hk ((i_lt (k := 12) (by omega) (by omega)).mp x)), e2, if_pos (show Int32.ofNat kk = 12 by rw [show kk = 12 by omega]; rfl)]
    refine x_ens.bi (k_ref h 2) ?_
    rintro q ⟨a, b, e⟩
    refine x_ens.ok (Or.inl a) (x_ens.so ⟨Or.inl a, ?_⟩)
    obtain ⟨qw, ew, w1, -⟩ := l_wrong k (k := 2) (by decide)
    rw [ew]
    dsimp only [Option.bind_some]
    unfold f_Mo_readsMove_60_J14
    rw [w1.good]
    dsimp only [Option.bind_some]
    rw [if_pos rfl]
    dsimp only [Option.bind_some]
    exact rs_bad a b e w1
theorem t_stay (h : x_kh (tk_i g n) m τ i c) (k : x_mh g n m υ i) (hi : i < m) (d : x_d1 τ υ) : x_ens (f_Re_readStay_2_21 τ) (fun qc => (qc.1 = 0 ∨ qc.1 = 1) ∧ x_ens ((f_Mo_readsMove_60 1 υ).bind fun q => l_fin q.2) (fun qm => x_rs g n m i c x_d1 qc qm.2)) := by
  obtain ⟨d1, d2, kk, s, b1, b2, e1, e2, e3, e4, e5, e6, e7⟩ := id d
  unfold f_Re_readStay_2_21 f_Mo_readsMove_60
  by_cases hk : kk < 12
  · rw [e1, if_pos (show Int32.ofNat kk < 12 from (i_lt (k := 12) (by omega) (by omega)).mpr hk), e2, if_neg (show ¬ Int32.ofNat kk = 12 from fun x => by have := (i_ej (k := 12) (by omega) (by omega)).mp x; omega)]
    unfold f_Mo_readsMove_60_J14
    rw [k.good]
    dsimp only [Option.bind_some]
    rw [if_neg (show ¬ (1 : Int32) = 0 by decide)]
    obtain ⟨qg, eg, g1, g2⟩ := l_go k
    rw [eg]
    dsimp only [Option.bind_some]
    rw [if_neg (show ¬ (1 : Int32) = 0 by decide), g2.ck 60 35 rfl, e7]
    rw [tk_ad_lt hi] at g1
    refine x_ens.bi (k_adv h) ?_
    rintro qa ⟨a1, a2⟩
    rw [tk_ad_lt hi] at a1
    have hv : 12 ≤ (if kk = 0 then τ.1 21 0 else τ.1 22 (kk - 1)) ∧ (if kk = 0 then τ.1 21 0 else τ.1 22 (kk - 1)) ≤ 480 := by
      by_cases h0 : kk = 0
      · rw [if_pos h0]; exact d2
      · rw [if_neg h0]; exact (e6 (kk - 1) (by omega)).2.2.1
    have el : f_Sc_lastPlace_21 qa.2 = some (if kk = 0 then τ.1 21 0 else τ.1 22 (kk - 1), qa.2) := by
      unfold f_Sc_lastPlace_21
      rw [a2.ck 21 1 rfl, e1, a2.ck 21 0 rfl]
      by_cases h0 : kk = 0
      · subst h0
        rw [if_pos (show Int32.ofNat 0 < 1 by decide), if_pos rfl]
      · rw [if_neg (show ¬ Int32.ofNat kk < 1 from fun x => by have := (i_lt1 (by omega)).mp x; omega), if_pos (show Int32.ofNat kk ≤ 12 from (i_le (k := 12) (by omega) (by omega)).mpr b1), i_p (by omega), i_cl (by omega), if_neg (by rintro (x | x); exact i_ge (by omega) x; omega), if_neg h0, a2.ce 22 rfl]
    rw [el]
    dsimp only [Option.bind_some]
    refine x_ens.bi (t_tenths (i0 := i) a1 g1 (by omega) hv (d.fr a2 g2 rfl rfl rfl rfl rfl rfl rfl rfl rfl rfl rfl) ?_) (fun qc hq => x_ens.ok hq.1 (x_ens.so hq))
    rw [a2.ck 21 1 rfl, e1]
    exact (i_lt (k := 12) (by omega) (by omega)).mpr hk
  · rw [e1, if_neg (show ¬ Int32.ofNat kk < 12 from fun x => hk ((i_lt (k := 12) (by omega) (by omega)).mp x)), e2, if_pos (show Int32.ofNat kk = 12 by rw [show kk = 12 by omega]; rfl)]
    refine x_ens.bi (k_ref h 2) ?_
    rintro q ⟨a, b, e⟩
    refine x_ens.ok (Or.inl a) (x_ens.so ⟨Or.inl a, ?_⟩)
    obtain ⟨qw, ew, w1, -⟩ := l_wrong k (k := 2) (by decide)
    rw [ew]
    dsimp only [Option.bind_some]
    unfold f_Mo_readsMove_60_J14
    rw [w1.good]
    dsimp only [Option.bind_some]
    rw [if_pos rfl]
    dsimp only [Option.bind_some]
    exact rs_bad a b e w1
end LV2
