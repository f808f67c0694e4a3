def sp_SH (C : Nat → Nat → Int32) (T : Nat → Int32) (n : Nat) (late sh ah : Int32) : Int32 := sp_fo (wst_cnt (sp_of C T n late sh ah) (T 0)) 0 0 (sp_la C + 1)
theorem e_Tr_walk {C : Nat → Nat → Int32} {σ : xS} {n : Nat} (G : x_G C) (K : y_K C σ) (hn : n ≤ 6) (hh : sp_hok C (σ.1 50)) (h1 : σ.1 49 1 = Int32.ofNat n) :
    x_ens (f_Tr_walk_49_7 σ) (fun q => (q.2.1 49 5 = C 7 4 ∧ ∀ t, t ≤ sp_la C → q.2.1 51 t = sp_se C (σ.1 50) n (σ.1 49 2) (σ.1 49 3) (Int32.ofNat t) ∧ q.2.1 53 t = sp_rg C (σ.1 50) n (σ.1 49 2) (σ.1 49 3) (σ.1 49 4) t ∧ q.2.1 54 t = sp_of C (σ.1 50) n (σ.1 49 2) (σ.1 49 3) (σ.1 49 4) t) ∧ x_fr [(17, 99999), (18, 99999), (49, 5), (51, 99999), (52, 99999), (53, 99999), (54, 99999)] σ q.2) := by
  unfold f_Tr_walk_49_7
  refine x_ens.bf (e_Tr_look G K hn h1) (fun q e => fr_Tr_look_49_7 e) ?_
  intro q1 h2 f1
  have c50 := f1.ce 50 rfl
  have K1 := K.fr f1 rfl
  refine x_ens.bf (e_Tr_follow (n := n) (late := σ.1 49 2) (sh := σ.1 49 3) (ah := σ.1 49 4) G K1 (by rw [c50]; exact hh) h2.1 (f1.ck 49 2 rfl) (f1.ck 49 4 rfl) (by rw [c50]; exact h2.2)) (fun q e => fr_Tr_follow_49_7 e) ?_
  intro q2 h3 f2
  refine x_ens.so ⟨⟨(f2.ck 49 5 rfl).trans h2.1, fun t ht => ⟨?_, ?_, ?_⟩⟩, x_fr.trans (x_fr.su f1 rfl) (x_fr.su f2 rfl)⟩
  · rw [f2.ce 51 rfl]; exact (h2.2 t ht).1
  · rw [(h3 t ht).1, c50]
  · rw [(h3 t ht).2, c50]
theorem x_G.l5 {C : Nat → Nat → Int32} (G : x_G C) {v : Int32} (h : v = C 7 4) : v = Int32.ofNat (sp_la C) := h.trans G.2.1.1
theorem sp_fo_cnt {g g' : Nat → Int32} {h : Int32} {n : Nat} (e : ∀ t, t < n → g t = g' t) : sp_fo (wst_cnt g h) 0 0 n = sp_fo (wst_cnt g' h) 0 0 n :=
  sp_fo_congr (fun j _ h2 x => by unfold wst_cnt; rw [e j (by omega)])
theorem sp_fo_mo {g g' : Nat → Int32} {n : Nat} (e : ∀ t, t < n → g t = g' t) : sp_fo (wst_mo g) 0 0 n = sp_fo (wst_mo g') 0 0 n :=
  sp_fo_congr (fun j _ h2 x => by unfold wst_mo; rw [e j (by omega)])
theorem sp_fo_ls {g g' : Nat → Int32} {h : Int32} {n : Nat} (e : ∀ t, t < n → g t = g' t) : sp_fo (wst_ls g h) 0 (0, 0) n = sp_fo (wst_ls g' h) 0 (0, 0) n :=
  sp_fo_congr (fun j _ h2 x => by unfold wst_ls; rw [e j (by omega)])
theorem e_RH_sharpAsTried {C : Nat → Nat → Int32} {σ : xS} {n : Nat} (G : x_G C) (K : y_K C σ) (hn : n ≤ 6) (hh : sp_hok C (σ.1 50)) (h1 : σ.1 49 1 = Int32.ofNat n) :
    x_ens (f_RH_sharpAsTried_0 σ) (fun q => q.1 = sp_SH C (σ.1 50) n (σ.1 49 2) (σ.1 49 3) (σ.1 49 4) ∧ x_fr [(17, 99999), (18, 99999), (49, 5), (51, 99999), (52, 99999), (53, 99999), (54, 99999)] σ q.2) := by
  unfold f_RH_sharpAsTried_0
  refine x_ens.bi (e_Tr_walk G K hn hh h1) ?_
  rintro q1 ⟨⟨h5, h2⟩, f1⟩
  rw [e_Tr_sharpBy (G.l5 h5) G.2.1.2]
  refine x_ens.so ⟨?_, f1⟩
  unfold sp_SH
  rw [f1.ce 50 rfl]
  exact sp_fo_cnt (fun t ht => (h2 t (by omega)).2.2)
theorem e_Mo_takesSharp {C : Nat → Nat → Int32} {σ : xS} {T : Nat → Int32} {n : Nat} {late sh ah : Int32} (G : x_G C) (M : x_M C σ) (S : x_S T n σ) (R : x_R C T n) (hl : σ.1 60 59 = late) (hs : σ.1 60 60 = sh) (ha : σ.1 60 64 = ah) (hl0 : 0 ≤ late) (hl1 : late ≤ 100) :
    x_ens (f_Mo_takesSharp_60 σ) (fun q => q.1 = sp_SH C T n late sh ah ∧ (∀ t, t ≤ sp_la C → q.2.1 86 t = sp_of C T n late sh ah t) ∧ x_fr [(82, 99999), (83, 99999), (84, 99999), (85, 99999), (86, 99999)] σ q.2) := by
  unfold f_Mo_takesSharp_60
  refine x_ens.bf (e_Mo_goesThrough G M S R hl hs ha hl0 hl1) (fun q e => fr_Mo_goesThrough_60 e) ?_
  intro q1 h1 f1
  rw [e_Mo_sharpMany G (M.fr f1 rfl rfl rfl rfl rfl rfl rfl)]
  refine x_ens.so ⟨?_, fun t ht => (h1 t ht).2.2, x_fr.su f1 rfl⟩
  unfold sp_SH
  rw [f1.ck 79 0 rfl, S.1.1]
  exact sp_fo_cnt (fun t ht => (h1 t (by omega)).2.2)
theorem e_RH_walkAsSet {C : Nat → Nat → Int32} {σ : xS} (B : x_B C σ) (F : y_F C σ) : x_ens (f_RH_walkAsSet_0 σ) (fun q => x_F1 C q.2 ∧ x_B C q.2 ∧ q.2.1 36 = σ.1 36) := by
  unfold f_RH_walkAsSet_0
  rcases F with h0 | h1
  · rw [if_pos h0]
    obtain ⟨τ, e, t1, t2, t3, t4, t5, t6, f1⟩ := e_RH_take σ
    rw [e]
    dsimp only [Option.bind_some]
    have G := B.1
    have K1 := B.2.1.fr f1 rfl
    have R := B.S.2
    have hm : ∀ i, i < sp_nk C → τ.1 50 (6 + i) = σ.1 36 (6 + i) := fun i hi => t1 _ (by have := R.2.2.2.2.2.2.1; omega)
    refine x_ens.bi (e_Tr_walk (n := sp_nk C) G K1 R.2.2.2.2.2.2.1 (by unfold sp_hok; rw [t1 4 (by omega)]; exact R.2.2.2.2.2.1) (t2.trans (by rw [B.2.1.1]; exact G.2.2.2.1.1))) ?_
    rintro q2 ⟨⟨h5, h6⟩, f2⟩
    have f3 : x_fr [(0, 9), (17, 99999), (18, 99999), (49, 99999), (50, 99999), (51, 99999), (52, 99999), (53, 99999), (54, 99999)] σ (x_pI q2.2 0 9 1) := x_frI (p := 0) (k := 9) rfl (x_fr.trans (x_fr.su f1 rfl) (x_fr.su f2 rfl))
    refine x_ens.so ⟨⟨by rw [x_pI_at]; rfl, ?_, ?_, ?_, ?_⟩, B.fr f3 rfl, f3.ce 36 rfl⟩
    · intro k hk
      rw [f3.ce 36 rfl, y_pI_ne (by omega), f2.ce 50 rfl]; exact t1 k hk
    · rw [y_pI_ne (by omega)]; exact h5
    · rw [y_pI_ne (by omega), f2.ck 49 2 rfl]; exact t3
    · intro t ht
      rw [f3.ce 36 rfl, y_pI_ne (by omega), y_pI_ne (by omega), y_pI_ne (by omega), (h6 t ht).1, (h6 t ht).2.1, (h6 t ht).2.2, t3, t4, t5]
      refine ⟨sp_se_c (t1 1 (by omega)) (t1 3 (by omega)) (t1 5 (by omega)) hm _, sp_rg_c (t1 1 (by omega)) (t1 2 (by omega)) (t1 3 (by omega)) (t1 4 (by omega)) (t1 5 (by omega)) hm _, sp_of_c (t1 1 (by omega)) (t1 2 (by omega)) (t1 3 (by omega)) (t1 4 (by omega)) (t1 5 (by omega)) hm _⟩
  · rw [if_neg (by rw [h1.1]; decide)]
    exact x_ens.so ⟨h1, B, rfl⟩
def sp_shn (C : Nat → Nat → Int32) (T : Nat → Int32) (late : Int32) (g : Nat → Int32) (t : Nat) : Int32 :=
  if T 0 < sp_abs (g t) then (if sp_has C 1 then (if sp_w C 1 (fun j => if j = 0 then sp_pl C T late (Int32.ofNat t) (sp_fa C (Int32.ofNat t) 0) else if j = 1 then sp_abs (g t) else T 0) ≤ 0 then 0 else 1) else 1) else 0
theorem i_600 {i : Nat} (hi : i ≤ 600) : ¬ (600 : Int32) < Int32.ofNat i := fun h => by have := (i_lt (j := 600) (by omega) (by omega)).mp h; omega
theorem e_Tr_isShown {C : Nat → Nat → Int32} {σ : xS} {i : Nat} (G : x_G C) (K : y_K C σ) (hi : i ≤ 600) : x_ens (f_Tr_isShown_49_7 (Int32.ofNat i) σ) (fun q => q.1 = sp_shn C (σ.1 50) (σ.1 49 2) (σ.1 54) i) := by
  unfold f_Tr_isShown_49_7 sp_shn
  rw [if_neg (i_ge (by omega)), if_neg (i_600 hi), e_Tr_isSharp hi]
  dsimp only [Option.bind_some]
  by_cases h : σ.1 50 0 < sp_abs (σ.1 54 i)
  · rw [if_pos h, if_pos h, if_pos rfl, show (1 : Int32) = Int32.ofNat 1 from rfl, e_Ru_has (C := C) (by omega) K.2.2.2.2.2.2.1 K.2.2.2.2.2.2.2.1]
    dsimp only [Option.bind_some]
    by_cases hh : sp_has C 1
    · rw [if_pos hh, if_neg (by decide), if_pos hh, i_cl (by omega)]
      refine x_ens.gr (by rintro (h | h) <;> first | exact i_ge (by omega) h | omega | (rw [i_cl (by omega)] at h; omega)) ?_
      have ha : (if 0 ≤ σ.1 54 i then σ.1 54 i else 0 - σ.1 54 i) = sp_abs (σ.1 54 i) := rfl
      rw [ha]
      have F4 : x_fr [(18, 99999)] σ (x_pI (x_pI σ 18 1 (sp_abs (σ.1 54 i))) 18 2 ((x_pI σ 18 1 (sp_abs (σ.1 54 i))).1 50 0)) := x_frI (p := 18) (k := 2) rfl (x_frI (p := 18) (k := 1) rfl x_fr.rf)
      have K4 := K.fr F4 rfl
      rw [e_Sc_face G K4]
      dsimp only [Option.bind_some]
      rw [e_Tr_placeIn K4, F4.ce 50 rfl, F4.ce 49 rfl]
      dsimp only [Option.bind_some]
      have F7 := x_frI (v := sp_pl C (σ.1 50) (σ.1 49 2) (Int32.ofNat i) (sp_fa C (Int32.ofNat i) 0)) (p := 18) (k := 0) rfl F4
      have K7 := K.fr F7 rfl
      have g := G.2.2.2.2.2.2.2.2.2.2.2.2.2.1 hh
      refine x_ens.bi (e_Ru_worth (r := 1) (by omega) K7.2.2.2.2.2.1 K7.2.2.2.2.2.2.1 K7.2.2.2.2.2.2.2.1 hh g (v := fun j => if j = 0 then sp_pl C (σ.1 50) (σ.1 49 2) (Int32.ofNat i) (sp_fa C (Int32.ofNat i) 0) else if j = 1 then sp_abs (σ.1 54 i) else σ.1 50 0) ?_) ?_
      · intro j l1 l2
        simp only [x_pI_at]
        rw [y_pI_ne (by omega)]
        have : j = 0 ∨ j = 1 ∨ j = 2 := by omega
        rcases this with rfl | rfl | rfl <;> simp
      · intro q hq
        rw [hq]
        split
        · exact x_ens.so rfl
        · exact x_ens.so rfl
    · rw [if_neg hh, if_pos rfl, if_neg hh]; exact x_ens.so rfl
  · rw [if_neg h, if_neg h, if_neg (by decide)]; exact x_ens.so rfl
theorem e_Mo_isShown {C : Nat → Nat → Int32} {σ : xS} {T : Nat → Int32} {n i : Nat} {late : Int32} (G : x_G C) (M : x_M C σ) (S : x_S T n σ) (R : x_R C T n) (hl : σ.1 60 59 = late) (hl0 : 0 ≤ late) (hl1 : late ≤ 100) (hi : i ≤ sp_la C) : x_ens (f_Mo_isShown_60 (Int32.ofNat i) σ) (fun q => q.1 = sp_shn C T late (σ.1 86) i) := by
  have hb := G.2.1.2
  unfold f_Mo_isShown_60 sp_shn
  rw [e_Mo_isSharp (by omega), S.1.1]
  dsimp only [Option.bind_some]
  have m := M.2.2.2.2.1
  by_cases h : T 0 < sp_abs (σ.1 86 i)
  · rw [if_pos h, if_pos h, if_pos rfl]
    by_cases hh : sp_has C 1
    · rw [if_pos hh] at m ⊢
      obtain ⟨m1, m2, m3⟩ := m
      rw [if_neg (i_m11 m1), i_cl (by omega), e_off0]
      refine x_ens.gr (by rintro (h | h) <;> first | exact i_ge (by omega) h | omega | (rw [i_cl (by omega)] at h; omega)) ?_
      dsimp only [Option.bind_some]
      have F4 : x_fr [(82, 99999)] σ (x_pI (x_pI σ 82 6 (sp_abs (σ.1 86 i))) 82 7 ((x_pI σ 82 6 (sp_abs (σ.1 86 i))).1 79 0)) := x_frI (p := 82) (k := 7) rfl (x_frI (p := 82) (k := 6) rfl x_fr.rf)
      have M4 := M.fr F4 rfl rfl rfl rfl rfl rfl rfl
      have S4 := S.fr F4 rfl rfl
      unfold f_Mo_whoseIn_60
      rw [e_Mo_who G M4]
      dsimp only [Option.bind_some]
      rw [e_Mo_inchesOf G M4 S4.1.2.2.2.2.1 R.2.2.2.2.1 ((F4.ck 60 59 rfl).trans hl) hl0 hl1 (i_0k (by omega)) ((i_le (by omega) (by omega)).mpr hi)]
      dsimp only [Option.bind_some]
      have F7 := x_frI (v := sp_pl C T late (Int32.ofNat i) (sp_fa C (Int32.ofNat i) 0)) (p := 82) (k := 5) rfl F4
      have g := G.2.2.2.2.2.2.2.2.2.2.2.2.2.1 hh
      rw [F7.ck 60 7 rfl, (i_ex m1).1]
      refine x_ens.bi (e_Mo_reckons (cs := sp_seg C 1) (lo := 0) (hi := 2) m2 (by rw [F7.ce 66 rfl]; exact m3) g.2.1 g.2.2 (v := fun j => if j = 0 then sp_pl C T late (Int32.ofNat i) (sp_fa C (Int32.ofNat i) 0) else if j = 1 then sp_abs (σ.1 86 i) else T 0) ?_) ?_
      · intro j l1 l2
        simp only [x_pI_at]
        rw [y_pI_ne (by omega)]
        have : j = 0 ∨ j = 1 ∨ j = 2 := by omega
        rcases this with rfl | rfl | rfl <;> simp [sp_pm]
        exact S.1.1
      · intro q hq
        rw [hq]
        unfold sp_w
        split
        · exact x_ens.so rfl
        · exact x_ens.so rfl
    · rw [if_neg hh] at m ⊢
      rw [if_pos m]; exact x_ens.so rfl
  · rw [if_neg h, if_neg h, if_neg (by decide)]; exact x_ens.so rfl
