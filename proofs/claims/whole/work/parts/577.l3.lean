theorem cl_line {T : tT} {m : Nat} {τ : xS} {i : Nat} {c : List Int32} (h : x_kh T m τ i c) : f_Re_readLine_2_21 τ = x_lnC (x_sm.getD (tk_wd T i) 0) τ := by
  obtain ⟨e, hw⟩ := r_word h.1 h.2
  unfold f_Re_readLine_2_21
  rw [e]
  dsimp only [Option.bind_some]
  unfold x_ok
  rw [if_pos (show 1000 ≤ 1000 + tk_wd T i ∧ 1000 + tk_wd T i < 1023 by omega), Nat.add_sub_cancel_left, if_neg (i_ix hw (by omega)), i_cl (by omega)]
  rfl
section LN
variable {g : Nat → Int32} {n m i : Nat} {c P : List Int32} {τ υ : xS}
theorem ln_co {A : Option (Int32 × xS)} {B : Option (Unit × xS)} {R : Int32 × xS → xS → Prop} (h : x_ens A (fun qc => (qc.1 = 0 ∨ qc.1 = 1) ∧ x_ens B (fun qm => R qc qm.2))) (k : ∀ (qc : Int32 × xS) (qm : Unit × xS), A = some qc → B = some qm → R qc qm.2 → x_lo5 g n m i qc qm.2) : x_ens (x_o1b A) (fun qc => x_ens B (fun qm => x_lo5 g n m i qc qm.2)) := by
  obtain ⟨qc, ec, hc, qm, em, hm⟩ := h
  refine x_ens.be ec ?_
  exact x_ens.ok hc (x_ens.so ⟨qm, em, k qc qm ec em hm⟩)
theorem r5_im {D D' : xS → xS → Prop} {qc : Int32 × xS} {υ' : xS} (h : ∀ a b, D a b → D' a b) (k : x_r5 g n m i D qc υ') : x_r5 g n m i D' qc υ' := by
  rcases k with k | ⟨a, i', c, P, b, e, f, x, y⟩
  · exact Or.inl k
  · exact Or.inr ⟨a, i', c, P, b, e, f, x, h _ _ y⟩
theorem frb_fin {α : Type} {V : List (Nat × Nat)} {A : Option (α × xS)} {r : Unit × xS} (h : (A.bind fun q => l_fin q.2) = some r) (hA : ∀ q, A = some q → x_fr V υ q.2) (hs : (x_WT.all fun w => x_in V w.1 w.2 || x_in V w.1 99999) = true) : x_fr V υ r.2 := by
  obtain ⟨q, e, h⟩ := x_bind h
  exact (hA q e).trans ((fr_fin h).su hs)
abbrev x_V4 : List (Nat × Nat) := [(60, 16), (60, 17), (60, 20), (60, 21), (60, 22), (60, 23), (60, 24), (60, 25), (60, 26), (60, 37), (74, 99999)]
theorem frb_set {v lo hi : Int32} {r : Nat} {qm : Unit × xS} (h : ((f_Mo_once_60 v υ).bind fun q57 => if q57.1 = 0 then l_fin q57.2 else (f_Mo_number_60 lo hi q57.2).bind fun q60 => l_fin (x_pI q60.2 74 r q60.1)) = some qm) : x_fr x_V4 υ qm.2 := by
  obtain ⟨q, e, h⟩ := x_bind h
  have f1 : x_fr x_V4 υ q.2 := (fr_Mo_once_60 e).su rfl
  by_cases h0 : q.1 = 0
  · rw [if_pos h0] at h
    exact f1.trans ((fr_fin h).su rfl)
  · rw [if_neg h0] at h
    obtain ⟨q2, e2, h⟩ := x_bind h
    refine (f1.trans ((fr_Mo_number_60 e2).su rfl)).trans ?_
    refine x_fr.trans (x_frI (p := 74) (k := r) (v := q2.1) ?_ x_fr.rf) ((fr_fin h).su rfl)
    simp [x_in]
theorem frb_eye {qm : Unit × xS} (h : ((f_Mo_once_60 16 υ).bind fun q32 => if q32.1 = 0 then some ((), q32.2) else (f_Mo_isSign_60 45 q32.2).bind fun q33 => if q33.1 = 0 then f_Mo_line_60_J253 q33.1 q33.2 else (f_Mo_goes_60 q33.2).bind fun q35 => f_Mo_line_60_J253 q33.1 q35.2) = some qm) : x_fr x_V4 υ qm.2 := by
  obtain ⟨q, e, h⟩ := x_bind h
  have f1 : x_fr x_V4 υ q.2 := (fr_Mo_once_60 e).su rfl
  by_cases h0 : q.1 = 0
  · rw [if_pos h0] at h
    cases h
    exact f1
  · rw [if_neg h0] at h
    obtain ⟨q2, e2, h⟩ := x_bind h
    have f2 := f1.trans (W := x_V4) ((fr_Mo_isSign_60 e2).su rfl)
    by_cases h1 : q2.1 = 0
    · rw [if_pos h1] at h
      exact f2.trans ((fr_Mo_line_60_J253 h).su rfl)
    · rw [if_neg h1] at h
      obtain ⟨q3, e3, h⟩ := x_bind h
      exact (f2.trans ((fr_Mo_goes_60 e3).su rfl)).trans ((fr_Mo_line_60_J253 h).su rfl)
theorem t_line (d : x_DR g n m i c P τ υ) (hi : i < m) : x_ens (f_Re_readLine_2_21 τ) (fun qc => x_ens (f_Mo_line_60 υ) (fun qm => x_lo5 g n m i qc qm.2)) := by
  have h := d.1
  have k := d.2.1
  obtain ⟨-, -, d1, d2, d3, d4, d5⟩ := id d
  have dD : x_D4 (x_bt (υ.1 60 37) 2) (x_bt (υ.1 60 37) 17) τ υ := ⟨d4, rfl, rfl⟩
  rw [cl_line h, mo_line k]
  have hw := (r_word h.1 h.2).2
  rcases ln_ws hw with ⟨a, b⟩ | ⟨a, b⟩ | ⟨a, b⟩ | ⟨a, b⟩ | ⟨a, b⟩ | ⟨a, b⟩ | ⟨a, b⟩ | ⟨a, b⟩ | ⟨a, b⟩ | ⟨a, b⟩ | ⟨a, b⟩ | ⟨a, b⟩ | ⟨a, b⟩ | ⟨a, b⟩
  · rw [a, b, lc_1, lm_9]
    exact ln_co (t_go h k hi d1) (fun qc qm ec em hR => dr_1 d (fr_Re_readGo_2_21 ec) (frb_fin em (fun q e => fr_Mo_readsMove_60 e) rfl) hR)
  · rw [a, b, lc_2, lm_10]
    exact ln_co (t_stay h k hi d1) (fun qc qm ec em hR => dr_1 d (fr_Re_readStay_2_21 ec) (frb_fin em (fun q e => fr_Mo_readsMove_60 e) rfl) hR)
  · rw [a, b, lc_3, lm_12]
    exact ln_co (t_chg (Or.inr rfl) h k hi d2) (fun qc qm ec em hR => dr_2 d (fr_Re_readChange_2_21 ec) (frb_fin em (fun q e => fr_Mo_readsChange_60 e) rfl) hR)
  · rw [a, b, lc_4, lm_13]
    exact ln_co (t_chg (Or.inl rfl) h k hi d2) (fun qc qm ec em hR => dr_2 d (fr_Re_readChange_2_21 ec) (frb_fin em (fun q e => fr_Mo_readsChange_60 e) rfl) hR)
  · rw [a, b, lc_5, lm_4]
    exact ln_co (t_mark h k hi d3) (fun qc qm ec em hR => dr_3 d (fr_Re_readMark_2_21 ec) (frb_fin em (fun q e => fr_Mo_readsMark_60 e) rfl) hR)
  · rw [a, b, lc_6, lm_11]
    exact ln_co (t_sett (p := 5) (r := 4) (w := 11) (Or.inl ⟨rfl, rfl, rfl, rfl, rfl, rfl⟩) h k hi dD) (fun qc qm ec em hR => dr_4 d (fr_Re_readSetting_2_21 ec) (frb_set em) hR)
  · rw [a, b, lc_7, lm_7]
    exact ln_co (t_sett (p := 0) (r := 0) (w := 7) (Or.inr (Or.inl ⟨rfl, rfl, rfl, rfl, rfl, rfl⟩)) h k hi dD) (fun qc qm ec em hR => dr_4 d (fr_Re_readSetting_2_21 ec) (frb_set em) hR)
  · rw [a, b, lc_8, lm_14]
    exact ln_co (t_sett (p := 1) (r := 1) (w := 14) (Or.inr (Or.inr (Or.inl ⟨rfl, rfl, rfl, rfl, rfl, rfl⟩))) h k hi dD) (fun qc qm ec em hR => dr_4 d (fr_Re_readSetting_2_21 ec) (frb_set em) hR)
  · rw [a, b, lc_9, lm_15]
    exact ln_co (t_sett (p := 2) (r := 2) (w := 15) (Or.inr (Or.inr (Or.inr ⟨rfl, rfl, rfl, rfl, rfl, rfl⟩))) h k hi dD) (fun qc qm ec em hR => dr_4 d (fr_Re_readSetting_2_21 ec) (frb_set em) hR)
  · rw [a, b, lc_10, lm_16]
    exact ln_co (t_eyel h k hi dD) (fun qc qm ec em hR => dr_4 d (fr_Re_readEye_2_21 ec) (frb_eye em) hR)
  · rw [a, b, lc_11, lm_2]
    exact ln_co (t_ring h k hi d5) (fun qc qm ec em hR => dr_5 (V := []) d (fr_Re_readRule_2_21 ec) (frb_fin em (fun q e => fr_Mo_readsRule_60 e) rfl) (r5_im (fun _ _ hb b h0 h1 h2 => hb b h0 h1) hR))
  · rw [a, b, lc_12, lm_17]
    exact ln_co (t_shows h k hi d5) (fun qc qm ec em hR => dr_5 (V := []) d (fr_Re_readRule_2_21 ec) (frb_fin em (fun q e => fr_Mo_readsRule_60 e) rfl) (r5_im (fun _ _ hb b h0 h1 h2 => hb b h0 h2) hR))
  · rw [a, b, lc_13, lm_18]
    exact ln_co (t_hand h k hi d5) (fun qc qm ec em hR => dr_5 (V := []) d (fr_Re_readRule_2_21 ec) (frb_fin em (fun q e => fr_Mo_readsRule_60 e) rfl) (r5_im (fun _ _ hb b h0 h1 h2 => by rw [hb]) hR))
  · rw [lc_o a, lm_o b]
    refine x_ens.bi (k_ref h 1) ?_
    rintro qc ⟨q0, q6, q7⟩
    refine x_ens.ok (Or.inl q0) (x_ens.so ?_)
    refine x_ens.bi (l_wrong k (k := 1) (by decide)) ?_
    rintro qm ⟨hb, -⟩
    refine (l_endb hb).im ?_
    intro q e
    rw [e]
    exact Or.inl ⟨q0, 1, i, q6, q7, hb⟩
end LN
