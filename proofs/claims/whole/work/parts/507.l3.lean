def sp_hok (C : Nat → Nat → Int32) (T : Nat → Int32) : Prop := T 4 = -1 ∨ (0 ≤ T 4 ∧ (T 4).toNatClampNeg < sp_nh C)
theorem i_2 {v : Int32} (h : 0 ≤ v) (g : v.toNatClampNeg < 1000) : (2 : Int32) + v = Int32.ofNat (2 + v.toNatClampNeg) := by
  have := (i_ex h).1
  conv => lhs; rw [this]
  exact (Int32.ofNat_add 2 _).symm
theorem e_Tr_aim {C : Nat → Nat → Int32} {σ : xS} {n t : Nat} {late sh ah : Int32} (G : x_G C) (K : y_K C σ) (ht : t + 1 ≤ 600) (hh : sp_hok C (σ.1 50)) (h1 : σ.1 51 (t + 1) = sp_se C (σ.1 50) n late sh (Int32.ofNat (t + 1))) (h0 : σ.1 51 t = sp_se C (σ.1 50) n late sh (Int32.ofNat t)) (h2 : σ.1 52 (t + 1) = if sp_ck C (σ.1 50) n late sh (Int32.ofNat (t + 1)) then 1 else 0) (h4 : σ.1 49 4 = ah) :
    x_ens (f_Tr_aim_49_7 (Int32.ofNat (t + 1)) σ) (fun q => q.1 = sp_aim C (σ.1 50) n late sh ah t (σ.1 53 t)) := by
  unfold f_Tr_aim_49_7
  have e1 : (Int32.ofNat (t + 1)).toNatClampNeg = t + 1 := i_cl (by omega)
  have e0 : (Int32.ofNat t).toNatClampNeg = t := i_cl (by omega)
  rw [if_neg (by rw [i_lt1 (by omega)]; omega), if_pos (show Int32.ofNat (t + 1) ≤ (600 : Int32) from (i_le (k := 600) (by omega) (by omega)).mpr (by omega)), i_m1', e1, e0]
  refine x_ens.gr (by rintro (h | h) <;> first | exact i_ge (by omega) h | omega | (rw [i_cl (by omega)] at h; omega)) ?_
  dsimp only
  refine x_ens.gr (by rintro (h | h) <;> first | exact i_ge (by omega) h | omega | (rw [i_cl (by omega)] at h; omega)) ?_
  refine x_ens.gr (by rintro (h | h) <;> first | exact i_ge (by omega) h | omega | (rw [i_cl (by omega)] at h; omega)) ?_
  rw [h1, h0, h4, e_RH_within]
  dsimp only [Option.bind_some]
  have ht : sp_wi (sp_se C (σ.1 50) n late sh (Int32.ofNat (t + 1)) + ah * (sp_se C (σ.1 50) n late sh (Int32.ofNat (t + 1)) - sp_se C (σ.1 50) n late sh (Int32.ofNat t))) 0 999 = sp_told C (σ.1 50) n late sh ah t := rfl
  rw [ht]
  unfold sp_aim
  by_cases hm : σ.1 50 4 = -1
  · rw [if_pos hm, if_pos hm]; exact x_ens.so rfl
  · rw [if_neg hm, if_neg hm]
    obtain ⟨k1, k2⟩ := hh.resolve_left hm
    have hnh := G.2.2.2.2.1.2
    obtain ⟨r1, r2⟩ := G.2.2.2.2.2.2.2.2.2.2.2.2.2.2 _ k2
    refine x_ens.gr (by rintro (h | h) <;> first | exact i_ge (by omega) h | omega | (rw [i_cl (by omega)] at h; omega)) ?_
    refine x_ens.gr (by rintro (h | h) <;> first | exact i_ge (by omega) h | omega | (rw [i_cl (by omega)] at h; omega)) ?_
    have key : ∀ (y : Int32), y = (if sp_ck C (σ.1 50) n late sh (Int32.ofNat (t + 1)) then 1 else 0) → x_ens (f_Tr_aim_49_7_J121 7 y (x_pI (x_pI (x_pI (x_pI σ 18 3 (sp_told C (σ.1 50) n late sh ah t)) 18 4 (sp_se C (σ.1 50) n late sh (Int32.ofNat t))) 18 5 ((x_pI (x_pI σ 18 3 (sp_told C (σ.1 50) n late sh ah t)) 18 4 (sp_se C (σ.1 50) n late sh (Int32.ofNat t))).1 53 t)) 18 6 (Int32.ofNat (t + 1)))) (fun q => q.1 = sp_wi (sp_w C (2 + (σ.1 50 4).toNatClampNeg) (fun j => if j = 3 then sp_told C (σ.1 50) n late sh ah t else if j = 4 then sp_se C (σ.1 50) n late sh (Int32.ofNat t) else if j = 5 then σ.1 53 t else if j = 6 then Int32.ofNat (t + 1) else if sp_ck C (σ.1 50) n late sh (Int32.ofNat (t + 1)) then 1 else 0)) 0 999) := by
      intro y hy
      unfold f_Tr_aim_49_7_J121
      rw [if_neg (by decide)]
      dsimp only
      have K2 : ∀ {τ : xS}, (∀ q, q ≠ 18 → τ.1 q = σ.1 q) → y_K C τ := fun h => ⟨(h 7 (by omega)).trans K.1, (h 8 (by omega)).trans K.2.1, (h 9 (by omega)).trans K.2.2.1, (h 10 (by omega)).trans K.2.2.2.1, (h 11 (by omega)).trans K.2.2.2.2.1, (h 14 (by omega)).trans K.2.2.2.2.2.1, (h 15 (by omega)).trans K.2.2.2.2.2.2.1, (h 16 (by omega)).trans K.2.2.2.2.2.2.2.1, (h 19 (by omega)).trans K.2.2.2.2.2.2.2.2.1, (h 20 (by omega)).trans K.2.2.2.2.2.2.2.2.2⟩
      rw [y_pI_ne (q := 50) (by omega), y_pI_ne (q := 50) (by omega), y_pI_ne (q := 50) (by omega), y_pI_ne (q := 50) (by omega), y_pI_ne (q := 50) (by omega), i_2 k1 (by omega), y_pI_ne (q := 53) (by omega), y_pI_ne (q := 53) (by omega)]
      have K3 := K2 (τ := x_pI (x_pI (x_pI (x_pI (x_pI σ 18 3 (sp_told C (σ.1 50) n late sh ah t)) 18 4 (sp_se C (σ.1 50) n late sh (Int32.ofNat t))) 18 5 (σ.1 53 t)) 18 6 (Int32.ofNat (t + 1))) 18 (7 : Int32).toNatClampNeg y) (fun q hq => by rw [y_pI_ne hq, y_pI_ne hq, y_pI_ne hq, y_pI_ne hq, y_pI_ne hq])
      refine x_ens.bi (e_Ru_worth (by omega) K3.2.2.2.2.2.1 K3.2.2.2.2.2.2.1 K3.2.2.2.2.2.2.2.1 r1 r2 (v := fun j => if j = 3 then sp_told C (σ.1 50) n late sh ah t else if j = 4 then sp_se C (σ.1 50) n late sh (Int32.ofNat t) else if j = 5 then σ.1 53 t else if j = 6 then Int32.ofNat (t + 1) else if sp_ck C (σ.1 50) n late sh (Int32.ofNat (t + 1)) then 1 else 0) ?_) ?_
      · intro j l1 l2
        have e7 : (7 : Int32).toNatClampNeg = 7 := by decide
        rw [e7]
        simp only [x_pI_at]
        have : j = 3 ∨ j = 4 ∨ j = 5 ∨ j = 6 ∨ j = 7 := by omega
        rcases this with rfl | rfl | rfl | rfl | rfl <;> simp
        rw [i_s]; exact hy
      · intro q hq
        rw [e_RH_within]
        refine x_ens.so ?_
        rw [hq]
    by_cases hc : sp_ck C (σ.1 50) n late sh (Int32.ofNat (t + 1))
    · rw [if_pos hc] at h2
      rw [if_neg (by rw [y_pI_ne (by omega), y_pI_ne (by omega), y_pI_ne (by omega), y_pI_ne (by omega), h2]; decide)]
      exact key 1 (if_pos hc).symm
    · rw [if_neg hc] at h2
      rw [if_pos (by rw [y_pI_ne (by omega), y_pI_ne (by omega), y_pI_ne (by omega), y_pI_ne (by omega), h2])]
      exact key 0 (if_neg hc).symm
theorem e_Tr_follow {C : Nat → Nat → Int32} {σ : xS} {n : Nat} {late sh ah : Int32} (G : x_G C) (K : y_K C σ) (hh : sp_hok C (σ.1 50)) (h5 : σ.1 49 5 = C 7 4) (hl : σ.1 49 2 = late) (h4 : σ.1 49 4 = ah)
    (hs : ∀ t, t ≤ sp_la C → σ.1 51 t = sp_se C (σ.1 50) n late sh (Int32.ofNat t) ∧ σ.1 52 t = if sp_ck C (σ.1 50) n late sh (Int32.ofNat t) then 1 else 0) :
    x_ens (f_Tr_follow_49_7 σ) (fun q => ∀ t, t ≤ sp_la C → q.2.1 53 t = sp_rg C (σ.1 50) n late sh ah t ∧ q.2.1 54 t = sp_of C (σ.1 50) n late sh ah t) := by
  unfold f_Tr_follow_49_7
  rw [e_Tr_rightIn G K]
  dsimp only [Option.bind_some]
  have hla := G.2.1.1
  have hlb := G.2.1.2
  refine x_ens.bi (P := fun b => ∀ t, t ≤ sp_la C → b.2.1 53 t = sp_rg C (σ.1 50) n late sh ah t ∧ b.2.1 54 t = sp_of C (σ.1 50) n late sh ah t) ?_ (fun b hb => x_ens.so hb)
  refine x_iv.go (fun i a => a.1 = Int32.ofNat (i + 1) ∧ x_fr [(17, 99999), (18, 99999), (53, 99999), (54, 99999)] σ a.2 ∧ ∀ t, t ≤ i → a.2.1 53 t = sp_rg C (σ.1 50) n late sh ah t ∧ a.2.1 54 t = sp_of C (σ.1 50) n late sh ah t) (sp_la C) (by omega) ⟨rfl, x_frI (p := 54) (k := 0) rfl (x_frI (p := 53) (k := 0) rfl x_fr.rf), ?_⟩ ?_
  · intro t ht
    have : t = 0 := by omega
    subst this
    dsimp only
    rw [y_pI_ne (by omega), x_pI_at, x_pI_at, hl]
    exact ⟨rfl, rfl⟩
  · rintro i ⟨v, τ⟩ hi ⟨rfl, hF, hI⟩
    dsimp only at hF hI
    have K1 : y_K C τ := K.fr hF rfl
    have c50 := hF.ce 50 rfl
    have c49 := hF.ce 49 rfl
    have c51 := hF.ce 51 rfl
    have c52 := hF.ce 52 rfl
    unfold f_Tr_follow_49_7_L21
    dsimp only
    rw [c49, h5, hla]
    by_cases hx : sp_la C < i + 1
    · rw [if_pos (by rw [i_lt (by omega) (by omega)]; omega)]
      exact x_iv.l (fun t ht => hI t (by omega))
    · rw [if_neg (by rw [i_lt (by omega) (by omega)]; omega), i_m1', i_cl (k := i + 1) (by omega), i_cl (k := i) (by omega)]
      have hs1 := hs (i + 1) (by omega)
      refine x_ens.bf (e_Tr_aim (n := n) (late := late) (sh := sh) (ah := ah) G K1 (by omega) (by rw [c50]; exact hh) (by rw [c51, c50]; exact hs1.1) (by rw [c51, c50]; exact (hs i (by omega)).1) (by rw [c52, c50]; exact hs1.2) (by rw [c49]; exact h4)) (fun q e => fr_Tr_aim_49_7 e) ?_
      intro q1 hq1 hf1
      refine x_ens.gr (by rintro (h | h) <;> first | exact i_ge (by omega) h | omega | (rw [i_cl (by omega)] at h; omega)) ?_
      refine x_ens.gr (by rintro (h | h) <;> first | exact i_ge (by omega) h | omega | (rw [i_cl (by omega)] at h; omega)) ?_
      have d50 : q1.2.1 50 = σ.1 50 := (hf1.ce 50 rfl).trans c50
      have d53 : q1.2.1 53 = τ.1 53 := hf1.ce 53 rfl
      have F2 : x_fr [(17, 99999), (18, 99999), (53, 99999), (54, 99999)] σ q1.2 := x_fr.trans hF (x_fr.su hf1 rfl)
      rw [e_RH_within, d50, d53]
      dsimp only [Option.bind_some]
      refine x_ens.gr (by rintro (h | h) <;> first | exact i_ge (by omega) h | omega | (rw [i_cl (by omega)] at h; omega)) ?_
      rw [(hI i (by omega)).1] at hq1 ⊢
      rw [hq1, c50]
      have K3 : y_K C (x_pI q1.2 53 (i + 1) (sp_rg C (σ.1 50) n late sh ah i + sp_wi (sp_aim C (σ.1 50) n late sh ah i (sp_rg C (σ.1 50) n late sh ah i) - sp_rg C (σ.1 50) n late sh ah i) (-(σ.1 50 2)) (σ.1 50 2))) := y_K.fr (W := [(17, 99999), (18, 99999), (53, 99999), (54, 99999)]) K (x_frI (p := 53) rfl F2) rfl
      rw [e_Tr_rightIn G K3, y_pI_ne (q := 50) (by omega), d50, y_pI_ne (q := 49) (by omega), hf1.ce 49 rfl, c49, hl]
      dsimp only [Option.bind_some]
      refine x_ens.gr (by rintro (h | h) <;> first | exact i_ge (by omega) h | omega | (rw [i_cl (by omega)] at h; omega)) ?_
      refine x_ens.gr (by rintro (h | h) <;> first | exact i_ge (by omega) h | omega | (rw [i_cl (by omega)] at h; omega)) ?_
      refine x_iv.r (by omega) ⟨i_s, x_frI (p := 54) rfl (x_frI (p := 53) rfl F2), ?_⟩
      intro t ht
      dsimp only
      rw [y_pI_ne (q := 53) (by omega), x_pI_at (p := 54), y_pI_ne (q := 54) (by omega), x_pI_at]
      dsimp only
      by_cases h : t = i + 1
      · subst h
        rw [if_pos rfl, if_pos rfl]
        exact ⟨rfl, rfl⟩
      · rw [if_neg h, if_neg h, d53, hf1.ce 54 rfl]
        exact hI t (by omega)
