section FI
variable {σ : xS} {C : Nat → Nat → Int32}
theorem e_ruled {v : Int32} (h14 : σ.1 14 = C 14) (h15 : σ.1 15 = C 15) (h16 : σ.1 16 = C 16) (hR : sp_has C 0 → sp_RG C 0 0 0) (h1 : 1 ≤ v) : x_ens (f_Sc_ruledTurn_7 v σ) (fun q => q.1 = sp_tu C v ∧ x_fr [(17, 99999), (18, 99999)] σ q.2) := by
  have key : x_ens (f_Sc_ruledTurn_7 v σ) (fun q => q.1 = sp_tu C v) := by
    have hh : f_Ru_has_13 (0 : Int32) σ = some (if sp_has C 0 then 1 else 0, σ) := e_Ru_has (r := 0) (by omega) h15 h16
    unfold f_Sc_ruledTurn_7
    rw [hh]
    dsimp only [Option.bind_some]
    by_cases hc : sp_has C 0
    · rw [if_pos hc, if_neg (show ¬ (1 : Int32) = 0 by decide)]
      have hw : x_ens (f_Ru_worth_13 (0 : Int32) (x_pI σ 18 0 v)) (fun q => q.1 = sp_w C 0 (fun _ => v)) := e_Ru_worth (r := 0) (lo := 0) (hi := 0) (by omega) (by rw [y_pI_ne (by omega)]; exact h14) (by rw [y_pI_ne (by omega)]; exact h15) (by rw [y_pI_ne (by omega)]; exact h16) hc (hR hc) (fun j _ hj => by rw [show j = 0 by omega]; exact x_pI_kk)
      refine x_ens.bi hw ?_
      intro q3 e3
      rw [e_RH_within]
      dsimp only [Option.bind_some]
      refine x_ens.so ?_
      unfold sp_tu
      rw [if_pos hc, e3]
    · rw [if_neg hc, if_pos rfl, if_pos h1, if_neg (show ¬ v = 0 by rintro rfl; revert h1; decide)]
      refine x_ens.so ?_
      unfold sp_tu
      rw [if_neg hc]
  obtain ⟨q, e, h⟩ := key
  exact ⟨q, e, h, fr_Sc_ruledTurn_7 e⟩
theorem tu_r {v : Int32} (h1 : 12 ≤ v) (h2 : v ≤ 480) : 0 ≤ sp_tu C v ∧ sp_tu C v ≤ 999 := by
  unfold sp_tu
  by_cases hc : sp_has C 0
  · rw [if_pos hc]
    unfold sp_wi
    generalize sp_w C 0 (fun _ => v) = w
    grind
  · rw [if_neg hc]
    obtain ⟨e, b⟩ := i_ex (v := v) (by grind)
    generalize v.toNatClampNeg = k at e b
    subst e
    have b1 := (i_le (j := 12) (by omega) b).mp h1
    have b2 := (i_le (k := 480) b (by omega)).mp h2
    have e : (4320 : Int32) / Int32.ofNat k = Int32.ofNat (4320 / k) := i_div (k := 4320) (by omega) b
    rw [e]
    have b3 : 4320 / k ≤ 4320 / 12 := Nat.div_le_div_left b1 (by omega)
    exact ⟨i_nl.mp (i_ge (by omega)), (i_le (k := 999) (by omega) (by omega)).mpr (by omega)⟩
theorem c_turns (h14 : σ.1 14 = C 14) (h15 : σ.1 15 = C 15) (h16 : σ.1 16 = C 16) (hR : sp_has C 0 → sp_RG C 0 0 0) : x_ens (x_it f_Sc_finish_7_L123 10000 ((12 : Int32), σ)) (fun b => (∀ w, 12 ≤ w → w ≤ 480 → b.2.1 20 w = sp_tu C (Int32.ofNat w)) ∧ x_fr [(17, 99999), (18, 99999), (20, 99999)] σ b.2) := by
  refine x_iv.go (fun i a => a.1 = Int32.ofNat (12 + i) ∧ (∀ w, 12 ≤ w → w < 12 + i → a.2.1 20 w = sp_tu C (Int32.ofNat w)) ∧ x_fr [(17, 99999), (18, 99999), (20, 99999)] σ a.2) 469 (by omega) ⟨rfl, fun w h1 h2 => by omega, x_fr.rf⟩ ?_
  rintro i ⟨a1, a2⟩ hi ⟨e, z, f⟩
  dsimp only at e z f
  subst e
  unfold f_Sc_finish_7_L123
  dsimp only
  by_cases h : i = 469
  · rw [if_pos (show (480 : Int32) < Int32.ofNat (12 + i) from (i_lt (j := 480) (by omega) (by omega)).mpr (by omega))]
    exact x_iv.l ⟨fun w h1 h2 => z w h1 (by omega), f⟩
  · rw [if_neg (show ¬ (480 : Int32) < Int32.ofNat (12 + i) from fun x => by have := (i_lt (j := 480) (by omega) (by omega)).mp x; omega)]
    refine x_ens.bi (e_ruled (C := C) (v := Int32.ofNat (12 + i)) (by rw [f.ce 14 rfl]; exact h14) (by rw [f.ce 15 rfl]; exact h15) (by rw [f.ce 16 rfl]; exact h16) hR ((i_le (j := 1) (by omega) (by omega)).mpr (by omega))) ?_
    rintro q ⟨q1, fq⟩
    rw [if_neg (i_ix (by omega) (by omega)), i_cl (by omega), i_s]
    refine x_iv.r (by omega) ⟨rfl, fun w h1 h2 => ?_, x_frI (p := 20) (k := 12 + i) (by simp [x_in]) (x_fr.trans f (fq.su rfl))⟩
    dsimp only
    by_cases hw : w = 12 + i
    · rw [hw, x_pI_kk]; exact q1
    · rw [x_pI_kn hw, fq.ce 20 rfl]
      exact z w h1 (by omega)
variable {l : Nat → Nat} {k : Nat}
theorem c_finJ {y : Int32} (hl : ∀ j, j < k → σ.1 9 j = Int32.ofNat (l j) ∧ 1 ≤ l j ∧ l j ≤ 99) (hk : k ≤ 12) (hT : sp_ss l k ≤ 600) (h71 : σ.1 7 1 = Int32.ofNat k) (h14 : σ.1 14 = C 14) (h15 : σ.1 15 = C 15) (h16 : σ.1 16 = C 16) (hR : sp_has C 0 → sp_RG C 0 0 0) : x_ens (f_Sc_finish_7_J17 4 y σ) (fun q => q.2.1 12 = sp_up (σ.1 12) 4 y ∧ (∀ t, t ≤ sp_ss l k → q.2.1 19 t = x_wa σ k t) ∧ ∀ w, 12 ≤ w → w ≤ 480 → q.2.1 20 w = sp_tu C (Int32.ofNat w)) := by
  have e4 : (4 : Int32).toNatClampNeg = 4 := by decide
  unfold f_Sc_finish_7_J17
  rw [if_neg (show ¬ ((4 : Int32) < 0 ∨ 12 ≤ (4 : Int32).toNatClampNeg) by decide), e4]
  dsimp only
  obtain ⟨s, hs, fs, s19, s12⟩ : ∃ s, x_pI (x_pI σ 12 4 y) 19 0 ((x_pI σ 12 4 y).1 7 0) = s ∧ x_fr [(12, 99999), (19, 99999)] σ s ∧ s.1 19 0 = s.1 7 0 ∧ s.1 12 = sp_up (σ.1 12) 4 y := ⟨_, rfl, x_frI (p := 19) (k := 0) rfl (x_frI (p := 12) (k := 4) rfl x_fr.rf), by rw [x_pI_kk, y_pI_ne (p := 19) (q := 7) (by omega)], by rw [y_pI_ne (by omega)]; exact x_pI_up⟩
  rw [hs]
  refine x_ens.bi (c_walk (σ := s) (l := l) (k := k) (by rw [fs.ce 9 rfl]; exact hl) hk hT ((fs.ck 7 1 rfl).trans h71) s19) ?_
  rintro b ⟨fb, hb⟩
  unfold f_Sc_finish_7_J120
  refine x_ens.bi (c_turns (C := C) (σ := b.2.2.2) (by rw [fb.ce 14 rfl, fs.ce 14 rfl]; exact h14) (by rw [fb.ce 15 rfl, fs.ce 15 rfl]; exact h15) (by rw [fb.ce 16 rfl, fs.ce 16 rfl]; exact h16) hR) ?_
  rintro c ⟨hc, fc⟩
  refine x_ens.so ⟨?_, fun t ht => ?_, hc⟩
  · rw [fc.ce 12 rfl, fb.ce 12 rfl]; exact s12
  · rw [fc.ce 19 rfl, hb t ht]
    show sp_her (s.1 8) (s.1 9) 0 (s.1 7 0) (Int32.ofNat t) k = sp_her (σ.1 8) (σ.1 9) 0 (σ.1 7 0) (Int32.ofNat t) k
    rw [fs.ce 8 rfl, fs.ce 9 rfl, fs.ck 7 0 rfl]
theorem c_finish (hl : ∀ j, j < k → σ.1 9 j = Int32.ofNat (l j) ∧ 1 ≤ l j ∧ l j ≤ 99) (hk : k ≤ 12) (hT : sp_ss l k ≤ 600) (h71 : σ.1 7 1 = Int32.ofNat k) (h14 : σ.1 14 = C 14) (h15 : σ.1 15 = C 15) (h16 : σ.1 16 = C 16) (hR : sp_has C 0 → sp_RG C 0 0 0) : x_ens (f_Sc_finish_7 σ) (fun q => (q.2.1 12 = sp_up (σ.1 12) 4 (if σ.1 7 9 ≤ 0 then -1 else 0) ∧ (∀ t, t ≤ sp_ss l k → q.2.1 19 t = x_wa σ k t) ∧ ∀ w, 12 ≤ w → w ≤ 480 → q.2.1 20 w = sp_tu C (Int32.ofNat w)) ∧ x_fr [(12, 99999), (17, 99999), (18, 99999), (19, 99999), (20, 99999)] σ q.2) := by
  have key : x_ens (f_Sc_finish_7 σ) (fun q => q.2.1 12 = sp_up (σ.1 12) 4 (if σ.1 7 9 ≤ 0 then -1 else 0) ∧ (∀ t, t ≤ sp_ss l k → q.2.1 19 t = x_wa σ k t) ∧ ∀ w, 12 ≤ w → w ≤ 480 → q.2.1 20 w = sp_tu C (Int32.ofNat w)) := by
    unfold f_Sc_finish_7
    by_cases h9 : σ.1 7 9 ≤ 0
    · simp only [if_pos h9]
      exact c_finJ hl hk hT h71 h14 h15 h16 hR
    · simp only [if_neg h9]
      exact c_finJ hl hk hT h71 h14 h15 h16 hR
  obtain ⟨q, e, h⟩ := key
  exact ⟨q, e, h, fr_Sc_finish_7 e⟩
end FI
theorem seg_congr {C C' : Nat → Nat → Int32} {r : Nat} (h14 : C 14 = C' 14) (h15 : C 15 = C' 15) (h16 : C 16 = C' 16) : sp_seg C r = sp_seg C' r := by
  unfold sp_seg
  rw [h14, h15, h16]
theorem has_congr {C C' : Nat → Nat → Int32} {r : Nat} (h15 : C 15 = C' 15) (h16 : C 16 = C' 16) : sp_has C r ↔ sp_has C' r := by
  unfold sp_has
  rw [h15, h16]
theorem tu_congr {C C' : Nat → Nat → Int32} {v : Int32} (h14 : C 14 = C' 14) (h15 : C 15 = C' 15) (h16 : C 16 = C' 16) : sp_tu C v = sp_tu C' v := by
  unfold sp_tu sp_w
  rw [seg_congr h14 h15 h16]
  by_cases h : sp_has C 0
  · rw [if_pos h, if_pos ((has_congr h15 h16).mp h)]
  · rw [if_neg h, if_neg (fun x => h ((has_congr h15 h16).mpr x))]
theorem rg_congr {C C' : Nat → Nat → Int32} {r lo hi : Nat} (h14 : C 14 = C' 14) (h15 : C 15 = C' 15) (h16 : C 16 = C' 16) (h : sp_RG C' r lo hi) : sp_RG C r lo hi := by
  unfold sp_RG at h ⊢
  rw [seg_congr h14 h15 h16, h15, h16]
  exact h
