def x_d2 (τ υ : xS) : Prop := ∃ k : Nat, k ≤ 6 ∧ τ.1 21 5 = Int32.ofNat k ∧ υ.1 60 29 = Int32.ofNat k ∧ ∀ j, j < k → υ.1 71 j = τ.1 24 j ∧ υ.1 72 j = τ.1 25 j ∧ (1 ≤ τ.1 24 j ∧ τ.1 24 j ≤ 600) ∧ (τ.1 25 j = 0 ∨ τ.1 25 j = 1)
theorem x_d2.fr {W V : List (Nat × Nat)} {τ τ' υ υ' : xS} (h : x_d2 τ υ) (f : x_fr W τ τ') (f' : x_fr V υ υ') (h5 : x_in W 21 5 = false) (h24 : (W.all fun w => w.1 != 24) = true) (h25 : (W.all fun w => w.1 != 25) = true) (k29 : x_in V 60 29 = false) (k71 : (V.all fun w => w.1 != 71) = true) (k72 : (V.all fun w => w.1 != 72) = true) : x_d2 τ' υ' := by
  unfold x_d2
  rw [f.ck 21 5 h5, f.ce 24 h24, f.ce 25 h25, f'.ck 60 29 k29, f'.ce 71 k71, f'.ce 72 k72]
  exact h
theorem i_c1 {v : Int32} (h : 0 ≤ v) (h2 : v ≤ 600) : 0 ≤ v + 1 ∧ (∀ w, v + 1 ≤ w → 1 ≤ w) := by
  refine ⟨by grind, fun w hw => by grind⟩
section LV3
variable {g : Nat → Int32} {n m i : Nat} {c : List Int32} {τ υ : xS}
theorem t_chg {b : Int32} (hb : b = 0 ∨ b = 1) (h : x_kh (tk_i g n) m τ i c) (k : x_mh g n m υ i) (hi : i < m) (d : x_d2 τ υ) : x_ens (f_Re_readChange_2_21 b τ) (fun qc => (qc.1 = 0 ∨ qc.1 = 1) ∧ x_ens ((f_Mo_readsChange_60 b υ).bind fun q => l_fin q.2) (fun qm => x_rs g n m i c x_d2 qc qm.2)) := by
  obtain ⟨kk, b1, e1, e2, e6⟩ := id d
  unfold f_Re_readChange_2_21 f_Mo_readsChange_60
  by_cases hk : kk < 6
  · rw [e1, if_pos (show Int32.ofNat kk < 6 from (i_lt (k := 6) (by omega) (by omega)).mpr hk), e2, if_neg (show ¬ Int32.ofNat kk = 6 from fun x => by have := (i_ej (k := 6) (by omega) (by omega)).mp x; omega)]
    unfold f_Mo_readsChange_60_J14
    rw [k.good]
    dsimp only [Option.bind_some]
    rw [if_neg (show ¬ (1 : Int32) = 0 by decide)]
    obtain ⟨qg, eg, g1, g2⟩ := l_go k
    rw [eg]
    dsimp only [Option.bind_some]
    rw [tk_ad_lt hi] at g1
    refine x_ens.bi (k_adv h) ?_
    rintro qa ⟨a1, a2⟩
    rw [tk_ad_lt hi] at a1
    have hla : ∃ la : Int32, 0 ≤ la ∧ la ≤ 600 ∧ f_Sc_lastChange_21 qa.2 = some (la, qa.2) ∧ (if qg.2.1 60 29 = 0 then f_Mo_readsChange_60_J50 b 1 qg.2 else if (qg.2.1 60 29 - 1) < 0 ∨ 6 ≤ (qg.2.1 60 29 - 1).toNatClampNeg then none else f_Mo_readsChange_60_J50 b (qg.2.1 71 (qg.2.1 60 29 - 1).toNatClampNeg + 1) qg.2) = f_Mo_readsChange_60_J50 b (la + 1) qg.2 := by
      unfold f_Sc_lastChange_21
      rw [a2.ck 21 5 rfl, e1, g2.ck 60 29 rfl, e2]
      by_cases h0 : kk = 0
      · subst h0
        rw [if_pos (show Int32.ofNat 0 < 1 by decide), if_pos (show Int32.ofNat 0 = 0 by decide)]
        exact ⟨0, by decide, by decide, rfl, rfl⟩
      · rw [if_neg (show ¬ Int32.ofNat kk < 1 from fun x => by have := (i_lt1 (by omega)).mp x; omega), if_pos (show Int32.ofNat kk ≤ 6 from (i_le (k := 6) (by omega) (by omega)).mpr b1), i_p (by omega), i_cl (by omega), if_neg (show ¬ (Int32.ofNat (kk - 1) < 0 ∨ 6 ≤ kk - 1) by rintro (x | x); exact i_ge (by omega) x; omega), if_neg (show ¬ Int32.ofNat kk = 0 from fun x => by have := (i_ne0 (by omega)).mp x; omega), if_neg (show ¬ (Int32.ofNat (kk - 1) < 0 ∨ 6 ≤ kk - 1) by rintro (x | x); exact i_ge (by omega) x; omega), a2.ce 24 rfl, g2.ce 71 rfl, (e6 (kk - 1) (by omega)).1]
        have := (e6 (kk - 1) (by omega)).2.2.1
        exact ⟨_, by have := this.1; grind, this.2, rfl, rfl⟩
    obtain ⟨la, la1, la2, la3, la4⟩ := hla
    rw [la3, la4]
    dsimp only [Option.bind_some]
    obtain ⟨w0, w1⟩ := i_c1 la1 la2
    unfold f_Mo_readsChange_60_J50
    obtain ⟨qn, en, n1, n2⟩ := l_num (lo := la + 1) (hi := 600) w0 g1
    rw [en]
    dsimp only [Option.bind_some]
    refine k_nt (z := fun q => some ((0 : Int32), q)) a1 ?_ ?_
    · intro h2 hlo hhi q q1 q2 q3
      unfold x_nr at n2
      rw [if_pos h2, if_pos ⟨hlo, hhi⟩] at n2
      have hl : i + 1 < m := k.1.lt a1.2.2.2.1 (by rw [h2]; decide)
      have c1 : q.2.1 21 5 = Int32.ofNat kk := by rw [q3.ck 21 5 rfl, a2.ck 21 5 rfl]; exact e1
      have c2 : qn.2.1 60 29 = Int32.ofNat kk := by rw [n1.ck 60 29 rfl, g2.ck 60 29 rfl]; exact e2
      rw [n2.2.good]
      dsimp only [Option.bind_some]
      rw [if_neg (show ¬ (1 : Int32) = 0 by decide), c2, i_cl (by omega), if_neg (show ¬ (Int32.ofNat kk < 0 ∨ 6 ≤ kk) by rintro (x | x); exact i_ge (by omega) x; omega), y_pI_ne (q := 60) (show 60 ≠ 71 by omega), c2, i_cl (by omega), if_neg (show ¬ (Int32.ofNat kk < 0 ∨ 6 ≤ kk) by rintro (x | x); exact i_ge (by omega) x; omega), y_pI_ne (q := 60) (show 60 ≠ 72 by omega), y_pI_ne (q := 60) (show 60 ≠ 71 by omega), c2, i_s]
      dsimp only [Option.bind_some]
      refine x_ens.bi (P := fun q5 => q5.2 = x_pI (x_pI (x_pI q.2 24 kk (tk_i g n (i + 1)).2.1) 25 kk b) 21 5 (Int32.ofNat (kk + 1))) ?_ ?_
      · unfold f_Sc_addChange_21
        rw [c1, if_neg (show ¬ (6 : Int32) ≤ Int32.ofNat kk from fun x => by have := (i_le (j := 6) (by omega) (by omega)).mp x; omega), i_cl (by omega)]
        refine x_ens.gr (by rintro (h | h) <;> first | exact i_ge (by omega) h | omega | (rw [i_cl (by omega)] at h; omega)) ?_
        dsimp only
        rw [y_pI_ne (q := 21) (show 21 ≠ 24 by omega), c1, i_cl (by omega)]
        refine x_ens.gr (by rintro (h | h) <;> first | exact i_ge (by omega) h | omega | (rw [i_cl (by omega)] at h; omega)) ?_
        rw [y_pI_ne (q := 21) (show 21 ≠ 25 by omega), y_pI_ne (q := 21) (show 21 ≠ 24 by omega), c1, i_s, q1]
        exact x_ens.so rfl
      · intro q5 e5'
        rw [e5', n2.1]
        have kc : x_kh (tk_i g n) m (x_pI (x_pI (x_pI q.2 24 kk (tk_i g n (i + 1)).2.1) 25 kk b) 21 5 (Int32.ofNat (kk + 1))) (tk_ad m (i + 1)) c := q2.fr (W := [(24, 99999), (25, 99999), (21, 5)]) (x_frI (p := 21) (k := 5) rfl (x_frI (p := 25) rfl (x_frI (p := 24) rfl x_fr.rf))) rfl rfl rfl rfl rfl rfl rfl
        have km : x_mh g n m (x_pI (x_pI (x_pI qn.2 71 kk (tk_i g n (i + 1)).2.1) 72 kk b) 60 29 (Int32.ofNat (kk + 1))) (tk_ad m (i + 1)) := n2.2.fr (W := [(71, 99999), (72, 99999), (60, 29)]) (x_frI (p := 60) (k := 29) rfl (x_frI (p := 72) rfl (x_frI (p := 71) rfl x_fr.rf))) rfl rfl rfl rfl rfl rfl rfl rfl rfl rfl
        refine x_ens.bi (rs_end (i0 := i) (D := x_d2) kc km (by rw [tk_ad_lt hl]; omega) ?_) (fun qc hq => x_ens.ok hq.1 (x_ens.so hq))
        intro τ' υ' fτ fυ
        unfold x_d2
        rw [fτ.ck 21 5 rfl, fτ.ce 24 rfl, fτ.ce 25 rfl, fυ.ck 60 29 rfl, fυ.ce 71 rfl, fυ.ce 72 rfl]
        refine ⟨kk + 1, by omega, x_pI_kk, x_pI_kk, ?_⟩
        intro j hj
        rw [y_pI_ne (q := 71) (by omega), y_pI_ne (q := 71) (by omega), x_pI_up, y_pI_ne (q := 72) (by omega), x_pI_up, y_pI_ne (q := 72) (by omega), y_pI_ne (q := 24) (by omega), y_pI_ne (q := 24) (by omega), x_pI_up, y_pI_ne (q := 25) (by omega), x_pI_up, y_pI_ne (q := 25) (by omega)]
        by_cases e : j = kk
        · subst e
          rw [sp_up_eq, sp_up_eq, sp_up_eq, sp_up_eq]
          exact ⟨rfl, rfl, ⟨w1 _ hlo, hhi⟩, hb⟩
        · rw [sp_up_ne e, sp_up_ne e, sp_up_ne e, sp_up_ne e, n1.ce 71 rfl, g2.ce 71 rfl, n1.ce 72 rfl, g2.ce 72 rfl, q3.ce 24 rfl, a2.ce 24 rfl, q3.ce 25 rfl, a2.ce 25 rfl]
          exact e6 j (by omega)
    · intro f q hf q6 q7
      refine x_ens.so ⟨Or.inl rfl, ?_⟩
      have hbd : x_bad g n qn.2 f (i + 1) := by
        unfold x_nr at n2
        by_cases h2 : (tk_i g n (i + 1)).1 = 2
        · rw [if_pos h2] at n2 hf
          rw [if_neg hf.1] at n2
          rw [hf.2]; exact n2
        · rw [if_neg h2] at n2 hf
          rw [hf]; exact n2
      rw [hbd.good]
      dsimp only [Option.bind_some]
      rw [if_pos rfl]
      dsimp only [Option.bind_some]
      exact rs_bad rfl q6 q7 hbd
  · rw [e1, if_neg (show ¬ Int32.ofNat kk < 6 from fun x => hk ((i_lt (k := 6) (by omega) (by omega)).mp x)), e2, if_pos (show Int32.ofNat kk = 6 by rw [show kk = 6 by omega]; rfl)]
    refine x_ens.bi (k_ref h 2) ?_
    rintro q ⟨a, b, e⟩
    refine x_ens.ok (Or.inl a) (x_ens.so ⟨Or.inl a, ?_⟩)
    obtain ⟨qw, ew, w1, -⟩ := l_wrong k (k := 2) (by decide)
    rw [ew]
    dsimp only [Option.bind_some]
    unfold f_Mo_readsChange_60_J14
    rw [w1.good]
    dsimp only [Option.bind_some]
    rw [if_pos rfl]
    dsimp only [Option.bind_some]
    exact rs_bad a b e w1
end LV3
