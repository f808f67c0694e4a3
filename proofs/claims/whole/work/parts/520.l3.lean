theorem i_hn {v c : Int32} (hc : 0 ≤ c) (h : v = -1 ∨ (0 ≤ v ∧ v < c)) : ¬ v < -1 ∧ v < c := by grind
theorem i_hn2 {v c : Int32} (h : ¬ (v = -1 ∨ (0 ≤ v ∧ v < c))) : ¬ v = -1 ∧ (v < 0 ∨ c ≤ v) ∧ (¬ v < -1 → ¬ v < c) := by grind
theorem o_hand (v : Int32) : x_OS (f_RH_hand_0 v) (f_Mo_hand_60 v) := by
  rintro σ ⟨C, B, F⟩
  have hc : 0 ≤ C 7 9 := by rw [B.1.2.2.2.2.1.1]; exact i_0k (by have := B.1.2.2.2.2.1.2; omega)
  have e79 : σ.1 7 9 = C 7 9 := by rw [B.2.1.1]
  by_cases h : v = -1 ∨ (0 ≤ v ∧ v < C 7 9)
  · obtain ⟨σ1, e1, k⟩ := x_act (p := 4) (v := v) B (Or.inr (Or.inr (Or.inr (Or.inr (Or.inl ⟨rfl, h.imp id (fun x => ⟨x.1, i_nn x.1 x.2⟩)⟩))))) (by omega) (-1)
    obtain ⟨σ2, e2, B2, F2, -⟩ := k σ1 x_fr.rf
    have f1 := fr_RH_set_0 e1
    refine ⟨1, σ1, σ2, ?_, ?_, C, B2, F2⟩
    · have j : f_RH_hand_0_J20 v σ = some (1, σ1) := by
        unfold f_RH_hand_0_J20
        rw [show f_RH_set_0 4 v 1 (-1) σ = _ from e1]; rfl
      unfold f_RH_hand_0
      rw [e79, j]
      rcases h with h | h
      · rw [if_pos h]
      · rw [if_neg (i_m11 h.1), if_neg (i_nl.mpr h.1), if_neg (i_nle.mpr h.2)]
    · unfold f_Mo_hand_60
      dsimp only
      have e5 : (x_pI σ1 60 0 0).1 60 5 = C 7 9 := by
        show σ1.1 60 5 = _
        rw [f1.ck 60 5 rfl]; exact B.2.2.1.1.2.2.2
      obtain ⟨h1, h2⟩ := i_hn hc h
      rw [if_neg h1, e5, if_pos h2, show f_Mo_becomes_60 5 v (x_pI σ1 60 0 0) = _ from e2]; rfl
  · obtain ⟨B2, F2⟩ := x_ref (k := 1) B F (by omega) x_fr.rf
    obtain ⟨h1, h2, h3⟩ := i_hn2 h
    refine ⟨0, x_pI σ 59 1 (σ.1 59 1 + 1), _, ?_, ?_, C, B2, F2⟩
    · unfold f_RH_hand_0 f_RH_hand_0_J24
      rw [e_RH_set0, e79, if_neg h1]
      dsimp only [Option.bind_some]
      by_cases h4 : v < 0
      · rw [if_pos h4]
      · rw [if_neg h4, if_pos (h2.resolve_left h4)]
    · unfold f_Mo_hand_60
      dsimp only
      have e5 : (x_pI (x_pI σ 59 1 (σ.1 59 1 + 1)) 60 0 0).1 60 5 = C 7 9 := B.2.2.1.1.2.2.2
      rw [e5, show f_Mo_refuses_60 1 0 _ = _ from e_Mo_refuses (k := 1) (by omega)]
      dsimp only [Option.bind_some]
      rw [if_pos (show (0 : Int32) ≤ 0 by decide)]
      by_cases h4 : v < -1
      · rw [if_pos h4]
      · rw [if_neg h4, if_neg (h3 h4)]
theorem i_subn {j k : Nat} (h : j ≤ k) : Int32.ofNat k - Int32.ofNat j = Int32.ofNat (k - j) := by
  have : Int32.ofNat k = Int32.ofNat (k - j) + Int32.ofNat j := by rw [← Int32.ofNat_add]; congr 1; omega
  rw [this]; grind
theorem i_nr0 {a v : Int32} (ha : 12 ≤ a ∧ a ≤ 480) (hv : 12 ≤ v ∧ v ≤ 480) : sp_abs (a - v) ≤ 0 ↔ a = v := by
  rw [i_ab (r := 0) (i_1k ha) (i_1k hv)]
  obtain ⟨i, hi, ei⟩ : ∃ i : Nat, i ≤ 480 ∧ a = Int32.ofNat i := ⟨_, i_nat (n := 480) (by omega) ha.2, (i_ex (i_1k ha).1).1⟩
  obtain ⟨j, hj, ej⟩ : ∃ i : Nat, i ≤ 480 ∧ v = Int32.ofNat i := ⟨_, i_nat (n := 480) (by omega) hv.2, (i_ex (i_1k hv).1).1⟩
  subst ei ej
  rw [i_ej (by omega) (by omega)]
  by_cases h : i ≤ j
  · rw [if_pos ((i_le (by omega) (by omega)).mpr h), i_subn h, ← i_z, i_le (by omega) (by omega)]; omega
  · rw [if_neg (fun x => h ((i_le (by omega) (by omega)).mp x)), i_subn (by omega), ← i_z, i_le (by omega) (by omega)]; omega
theorem sp_nr_0 {C : Nat → Nat → Int32} {T : Nat → Int32} {n : Nat} {v : Int32} (R : x_R C T n) (hv : 12 ≤ v ∧ v ≤ 480) : sp_nr T n v 0 ↔ ∃ i, i < n ∧ T (6 + i) = v := by
  constructor
  · rintro ⟨i, h1, h2⟩; exact ⟨i, h1, (i_nr0 (R.2.2.2.2.2.2.2 i h1) hv).mp h2⟩
  · rintro ⟨i, h1, h2⟩; exact ⟨i, h1, (i_nr0 (R.2.2.2.2.2.2.2 i h1) hv).mpr h2⟩
theorem m_chalk_L {σ : xS} {T : Nat → Int32} {n : Nat} {u v : Int32} (S : x_S T n σ) (hn : n ≤ 6) : x_ens (x_it (f_Mo_chalk_60_L37 u v) 10000 (0, 0, σ)) (fun b => b.1 = (if ∃ i, i < n ∧ T (6 + i) = v then 1 else 0) ∧ b.2.2 = σ) := by
  refine x_iv.go (fun i a => a.1 = (if ∃ j, j < i ∧ T (6 + j) = v then 1 else 0) ∧ a.2 = (Int32.ofNat i, σ)) n (by omega) ⟨(if_neg (by rintro ⟨j, h, -⟩; omega)).symm, rfl⟩ ?_
  rintro i ⟨c, w, τ⟩ hi ⟨h1, h2⟩
  dsimp only at h1 h2
  cases h2
  unfold f_Mo_chalk_60_L37
  dsimp only
  rw [S.2.2]
  by_cases hx : n ≤ i
  · rw [if_pos ((i_le (by omega) (by omega)).mpr hx)]
    have : i = n := by omega
    subst this
    exact x_iv.l ⟨h1, rfl⟩
  · rw [if_neg (fun x => hx ((i_le (by omega) (by omega)).mp x)), i_6, i_cl (by omega), i_s]
    by_cases hc : ∃ j, j < i ∧ T (6 + j) = v
    · rw [if_pos hc] at h1
      subst h1
      rw [if_neg (by decide)]
      obtain ⟨j, j1, j2⟩ := hc
      exact x_iv.r (by omega) ⟨(if_pos ⟨j, by omega, j2⟩).symm, rfl⟩
    · rw [if_neg hc] at h1
      subst h1
      rw [if_pos rfl]
      refine x_ens.gr (by rintro (h | h) <;> first | exact i_ge (by omega) h | omega | (rw [i_cl (by omega)] at h; omega)) ?_
      rw [S.2.1 i (by omega)]
      by_cases hv : T (6 + i) = v
      · rw [if_pos hv]
        exact x_iv.r (by omega) ⟨(if_pos ⟨i, by omega, hv⟩).symm, rfl⟩
      · rw [if_neg hv]
        refine x_iv.r (by omega) ⟨(if_neg ?_).symm, rfl⟩
        rintro ⟨j, j1, j2⟩
        by_cases e : j = i
        · subst e; exact hv j2
        · exact hc ⟨j, by omega, j2⟩
theorem x_pL_fr {σ : xS} {v : Int64} : x_fr [(96, 99999)] σ (x_pL σ 96 0 v) := x_frL (p := 96) (k := 0) rfl x_fr.rf
theorem x_pL_at {σ : xS} {v : Int64} : (x_pL σ 96 0 v).2 96 0 = v := by
  show (if 96 = 96 ∧ 0 = 0 then v else σ.2 96 0) = v
  rw [if_pos ⟨rfl, rfl⟩]
theorem x_B.S' {C : Nat → Nat → Int32} {σ τ : xS} {W : List (Nat × Nat)} (B : x_B C σ) (f : x_fr W σ τ) (h79 : (W.all fun w => w.1 != 79) = true) (h4 : x_in W 60 4 = false) : x_S (σ.1 36) (sp_nk C) τ := B.S.1.fr f h79 h4
theorem o_chalk (u v : Int32) : x_OP (w_chalk u v) (f_Mo_chalk_60 u v) := by
  rintro σ ⟨C, B, F⟩
  have G := B.1
  have R := B.S.2
  have hn := G.2.2.2.1.2
  have hm : ∀ τ, x_fr [(0, 9), (35, 3), (36, 99999), (37, 99999), (38, 99999), (59, 99999), (96, 99999)] σ τ → (x_pI τ 60 0 0).1 60 4 = C 7 8 := fun τ f => by
    show τ.1 60 4 = _
    rw [f.ck 60 4 rfl]; exact B.2.2.2.2.1
  have hJ : ∀ τ, x_fr [(0, 9), (35, 3), (36, 99999), (37, 99999), (38, 99999), (59, 99999), (96, 99999)] σ τ → x_ens (x_it (f_Mo_chalk_60_L37 u v) 10000 (0, 0, x_pI τ 60 0 0)) (fun b => b.1 = (if ∃ i, i < sp_nk C ∧ σ.1 36 (6 + i) = v then 1 else 0) ∧ b.2.2 = x_pI τ 60 0 0) := fun τ f =>
    m_chalk_L (B.S' (W := [(0, 9), (35, 3), (36, 99999), (37, 99999), (38, 99999), (59, 99999), (60, 0), (96, 99999)]) (x_frI (p := 60) (k := 0) rfl (x_fr.su f rfl)) rfl rfl) hn
  by_cases hu : 0 ≤ u ∧ u < C 7 8
  · obtain ⟨k1, k2⟩ := G.mk hu
    have e6 : (6 : Int32) + u = Int32.ofNat (6 + u.toNatClampNeg) := by
      conv => lhs; rw [k1]
      exact i_6
    have mo : ∀ τ, x_fr [(0, 9), (35, 3), (36, 99999), (37, 99999), (38, 99999), (59, 99999), (96, 99999)] σ τ → f_Mo_chalk_60 u v τ = f_Mo_chalk_60_J23 u v 1 (x_pI τ 60 0 0) := fun τ f => by
      unfold f_Mo_chalk_60
      dsimp only
      rw [hm τ f, if_neg (i_nl.mpr hu.1), if_neg (i_nle.mpr hu.2)]
    have cl : ∀ k, f_RH_chalk_0 u v σ = k → w_chalk u v σ = k.bind fun q => match q.1 with | .inl v => some ((0 : Int32), x_pL q.2 96 0 v.toInt64) | .inr k => if k = 2 then some ((1 : Int32), q.2) else none := fun k e => by unfold w_chalk; rw [e]; rfl
    by_cases hok : (12 ≤ v ∧ v ≤ 480) ∧ ¬ ∃ i, i < sp_nk C ∧ σ.1 36 (6 + i) = v
    · obtain ⟨hv, hne⟩ := hok
      obtain ⟨σ1, e1, k⟩ := x_act (p := 6 + u.toNatClampNeg) (v := v) B (Or.inr (Or.inr (Or.inr (Or.inr (Or.inr (Or.inr ⟨_, k2, rfl, hv⟩)))))) (by omega) (-1)
      have f1 := fr_RH_set_0 e1
      obtain ⟨σ2, e2, B2, F2, z2, l2⟩ := k (x_pL σ1 96 0 (σ.1 36 (6 + u.toNatClampNeg)).toInt64) x_pL_fr
      refine ⟨0, x_pL σ1 96 0 (σ.1 36 (6 + u.toNatClampNeg)).toInt64, σ.1 36 (6 + u.toNatClampNeg), σ2, ?_, ?_, z2, fun _ => by rw [l2, x_pL_at], C, B2, F2⟩
      · have : f_RH_chalk_0 u v σ = some (.inl (σ.1 36 (6 + u.toNatClampNeg)), σ1) := by
          unfold f_RH_chalk_0
          rw [e_RH_isMark G B.2.1, if_pos hu]
          dsimp only [Option.bind_some]
          rw [if_neg (by decide), e_RH_isInches, if_pos hv]
          dsimp only [Option.bind_some]
          rw [if_neg (by decide), B.2.1.1, G.2.2.2.1.1, e_RH_isNearMark_36 _ hn, if_neg (fun x => hne ((sp_nr_0 R hv).mp x))]
          dsimp only [Option.bind_some]
          rw [if_pos rfl, e6, e1]; rfl
        rw [cl _ this]; rfl
      · rw [mo _ (x_fr.trans (x_fr.su f1 rfl) (x_fr.su x_pL_fr rfl))]
        unfold f_Mo_chalk_60_J23
        rw [e_Mo_right x_60 (by decide), if_neg (by decide)]
        dsimp only [Option.bind_some]
        rw [if_neg (by decide)]
        obtain ⟨b, eb, b1, b2⟩ := hJ _ (x_fr.trans (x_fr.su f1 rfl) (x_fr.su x_pL_fr rfl))
        rw [eb]
        dsimp only [Option.bind_some]
        rw [b1, if_neg hne, if_pos rfl, b2, e_Mo_within, if_pos hv]
        dsimp only [Option.bind_some]
        rw [if_neg (by decide), e6]
        have e2' := e2
        rw [sp_q_6] at e2'
        exact x_bs e2'
    · have ff : x_fr [(0, 9), (35, 3), (36, 99999), (37, 99999), (38, 99999), (59, 99999), (96, 99999)] σ (x_pL (x_pI σ 59 1 (σ.1 59 1 + 1)) 96 0 (-1 : Int32).toInt64) := x_fr.trans (x_frI (p := 59) (k := 1) rfl x_fr.rf) (x_fr.su x_pL_fr rfl)
      obtain ⟨B2, F2⟩ := x_ref (k := 1) (τ := x_pL (x_pI σ 59 1 (σ.1 59 1 + 1)) 96 0 (-1 : Int32).toInt64) B F (by omega) x_pL_fr
      refine ⟨0, x_pL (x_pI σ 59 1 (σ.1 59 1 + 1)) 96 0 (-1 : Int32).toInt64, -1, _, ?_, ?_, ?_, fun _ => ?_, C, B2, F2⟩
      · have : f_RH_chalk_0 u v σ = some (.inl (-1), x_pI σ 59 1 (σ.1 59 1 + 1)) := by
          unfold f_RH_chalk_0 f_RH_chalk_0_J51
          rw [e_RH_isMark G B.2.1, if_pos hu]
          dsimp only [Option.bind_some]
          rw [if_neg (by decide), e_RH_isInches]
          dsimp only [Option.bind_some]
          by_cases hv : 12 ≤ v ∧ v ≤ 480
          · rw [if_pos hv, if_neg (by decide), B.2.1.1, G.2.2.2.1.1, e_RH_isNearMark_36 _ hn, if_pos ((sp_nr_0 R hv).mpr (by
              by_cases hx : ∃ i, i < sp_nk C ∧ σ.1 36 (6 + i) = v
              · exact hx
              · exact absurd ⟨hv, hx⟩ hok))]
            dsimp only [Option.bind_some]
            rw [if_neg (by decide), e_RH_set0]; rfl
          · rw [if_neg hv, if_pos rfl, e_RH_set0]; rfl
        rw [cl _ this]; rfl
      · rw [mo _ ff]
        unfold f_Mo_chalk_60_J23
        rw [e_Mo_right x_60 (by decide), if_neg (by decide)]
        dsimp only [Option.bind_some]
        rw [if_neg (by decide)]
        obtain ⟨b, eb, b1, b2⟩ := hJ _ ff
        rw [eb]
        dsimp only [Option.bind_some]
        rw [b1, b2, e_Mo_within]
        by_cases hx : ∃ i, i < sp_nk C ∧ σ.1 36 (6 + i) = v
        · rw [if_pos hx, if_neg (by decide)]
          exact x_bs (e_Mo_refuses (k := 1) (by omega))
        · rw [if_neg hx, if_pos rfl]
          dsimp only [Option.bind_some]
          rw [if_neg (show ¬ (12 ≤ v ∧ v ≤ 480) from fun hv => hok ⟨hv, hx⟩), if_pos rfl]
          exact x_bs (e_Mo_refuses (k := 1) (by omega))
      · rw [y_pI_ne (by omega)]; exact x_60
      · show (x_pL (x_pI σ 59 1 (σ.1 59 1 + 1)) 96 0 (-1 : Int32).toInt64).2 96 0 = _
        rw [x_pL_at]
  · refine ⟨1, σ, 0, x_pI σ 60 0 1, ?_, ?_, x_60, fun h => absurd h (by decide), C, B.t0, F.fr (W := [(60, 0)]) (x_frI (p := 60) (k := 0) rfl x_fr.rf) rfl⟩
    · unfold w_chalk f_RH_chalk_0
      rw [e_RH_isMark G B.2.1, if_neg hu]
      rfl
    · have j : f_Mo_chalk_60_J22 u v (x_pI σ 60 0 0) = some (0, x_pI σ 60 0 1) := by
        unfold f_Mo_chalk_60_J22 f_Mo_chalk_60_J23
        rw [e_Mo_right x_60 (by decide), if_pos rfl]
        dsimp only [Option.bind_some]
        rw [if_pos rfl, x_pI_pI]
      unfold f_Mo_chalk_60
      dsimp only
      rw [hm σ x_fr.rf, j]
      by_cases h : u < 0
      · rw [if_pos h]
      · rw [if_neg h, if_pos (i_nl.mp (fun x => hu ⟨i_nl.mp h, x⟩))]
