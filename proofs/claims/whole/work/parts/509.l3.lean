theorem sp_saw_r {C : Nat → Nat → Int32} (G : x_G C) {T : Nat → Int32} {late sh t : Int32} (h : t - T 1 ≤ Int32.ofNat (sp_la C)) (h4 : 0 ≤ late) (h5 : late ≤ 100) : 12 ≤ sp_saw C T late sh t ∧ sp_saw C T late sh t ≤ 480 := sp_pl_r G h h4 h5
theorem i_sub {t g l : Int32} (h0 : 0 ≤ t) (hg : 0 ≤ g) (h : t ≤ l) : t - g ≤ l := by grind
theorem i_0k {k : Nat} (h : k < 2147483648) : 0 ≤ Int32.ofNat k := (i_le (j := 0) (by omega) h).mpr (by omega)
theorem i_m11 {v : Int32} (h : 0 ≤ v) : ¬ v = -1 := by grind
theorem e_Mo_shouldBe {C : Nat → Nat → Int32} {σ : xS} {T : Nat → Int32} {n t : Nat} {late sh ah : Int32} (G : x_G C) (M : x_M C σ) (S : x_S T n σ) (R : x_R C T n) (hl : σ.1 60 59 = late) (hs : σ.1 60 60 = sh) (ha : σ.1 60 64 = ah) (hl0 : 0 ≤ late) (hl1 : late ≤ 100) (ht : t + 1 ≤ sp_la C)
    (h1 : σ.1 84 (t + 1) = sp_se C T n late sh (Int32.ofNat (t + 1))) (h0 : σ.1 84 t = sp_se C T n late sh (Int32.ofNat t)) :
    x_ens (f_Mo_shouldBe_60 (Int32.ofNat (t + 1)) σ) (fun q => q.1 = sp_aim C T n late sh ah t (σ.1 85 t)) := by
  have hla := G.2.1.2
  unfold f_Mo_shouldBe_60
  have e1 : (Int32.ofNat (t + 1)).toNatClampNeg = t + 1 := i_cl (by omega)
  have e0 : (Int32.ofNat t).toNatClampNeg = t := i_cl (by omega)
  rw [i_m1', e1, e0]
  refine x_ens.gr (by rintro (h | h) <;> first | exact i_ge (by omega) h | omega | (rw [i_cl (by omega)] at h; omega)) ?_
  refine x_ens.gr (by rintro (h | h) <;> first | exact i_ge (by omega) h | omega | (rw [i_cl (by omega)] at h; omega)) ?_
  refine x_ens.gr (by rintro (h | h) <;> first | exact i_ge (by omega) h | omega | (rw [i_cl (by omega)] at h; omega)) ?_
  rw [h1, h0, ha, e_Mo_bounded]
  dsimp only [Option.bind_some]
  have htd : sp_wi (sp_se C T n late sh (Int32.ofNat (t + 1)) + ah * (sp_se C T n late sh (Int32.ofNat (t + 1)) - sp_se C T n late sh (Int32.ofNat t))) 0 999 = sp_told C T n late sh ah t := rfl
  rw [htd]
  unfold sp_aim
  rw [S.1.2.2.2.2.2]
  by_cases hm : T 4 = -1
  · rw [if_pos hm, if_pos hm]; exact x_ens.so rfl
  · rw [if_neg hm, if_neg hm]
    obtain ⟨k1, k2⟩ := R.2.2.2.2.2.1.resolve_left hm
    have hnh := G.2.2.2.2.1.2
    obtain ⟨r1, r2⟩ := G.2.2.2.2.2.2.2.2.2.2.2.2.2.2 _ k2
    refine x_ens.gr (by rintro (h | h) <;> first | exact i_ge (by omega) h | omega | (rw [i_cl (by omega)] at h; omega)) ?_
    refine x_ens.gr (by rintro (h | h) <;> first | exact i_ge (by omega) h | omega | (rw [i_cl (by omega)] at h; omega)) ?_
    rw [y_pI_ne (q := 84) (by omega), h0, y_pI_ne (q := 85) (by omega), y_pI_ne (q := 85) (by omega)]
    have F9 : x_fr [(82, 99999)] σ (x_pI (x_pI (x_pI (x_pI σ 82 0 (sp_told C T n late sh ah t)) 82 1 (sp_se C T n late sh (Int32.ofNat t))) 82 2 (σ.1 85 t)) 82 3 (Int32.ofNat (t + 1))) := x_frI (p := 82) (k := 3) rfl (x_frI (p := 82) (k := 2) rfl (x_frI (p := 82) (k := 1) rfl (x_frI (p := 82) (k := 0) rfl x_fr.rf)))
    have M9 := M.fr F9 rfl rfl rfl rfl rfl rfl rfl
    have S9 := S.fr F9 rfl rfl
    rw [e_Mo_sawAt G M9 S9 R ((F9.ck 60 59 rfl).trans hl) ((F9.ck 60 60 rfl).trans hs) hl0 hl1 (i_0k (by omega)) ((i_le (by omega) (by omega)).mpr ht)]
    dsimp only [Option.bind_some]
    rw [e_Mo_byMark S9 R (sp_saw_r G (i_sub (i_0k (by omega)) R.2.1.1 ((i_le (by omega) (by omega)).mpr ht)) hl0 hl1)]
    dsimp only [Option.bind_some]
    have key : ∀ (y : Int32), y = (if sp_ck C T n late sh (Int32.ofNat (t + 1)) then 1 else 0) → x_ens (f_Mo_shouldBe_60_J111 4 y (x_pI (x_pI (x_pI (x_pI σ 82 0 (sp_told C T n late sh ah t)) 82 1 (sp_se C T n late sh (Int32.ofNat t))) 82 2 (σ.1 85 t)) 82 3 (Int32.ofNat (t + 1)))) (fun q => q.1 = sp_wi (sp_w C (2 + (T 4).toNatClampNeg) (fun j => if j = 3 then sp_told C T n late sh ah t else if j = 4 then sp_se C T n late sh (Int32.ofNat t) else if j = 5 then σ.1 85 t else if j = 6 then Int32.ofNat (t + 1) else if sp_ck C T n late sh (Int32.ofNat (t + 1)) then 1 else 0)) 0 999) := by
      intro y hy
      unfold f_Mo_shouldBe_60_J111
      rw [if_neg (by decide)]
      dsimp only
      have F10 : x_fr [(82, 99999)] σ (x_pI (x_pI (x_pI (x_pI (x_pI σ 82 0 (sp_told C T n late sh ah t)) 82 1 (sp_se C T n late sh (Int32.ofNat t))) 82 2 (σ.1 85 t)) 82 3 (Int32.ofNat (t + 1))) 82 (4 : Int32).toNatClampNeg y) := x_frI (p := 82) rfl F9
      have c5 : (x_pI (x_pI (x_pI (x_pI (x_pI σ 82 0 (sp_told C T n late sh ah t)) 82 1 (sp_se C T n late sh (Int32.ofNat t))) 82 2 (σ.1 85 t)) 82 3 (Int32.ofNat (t + 1))) 82 (4 : Int32).toNatClampNeg y).1 79 5 = T 4 := (F10.ck 79 5 rfl).trans S.1.2.2.2.2.2
      rw [c5, if_neg (i_iv k1 (by omega)), F10.ce 65 rfl]
      obtain ⟨m1, m2, m3⟩ := M.2.2.2.2.2 _ k2
      rw [(i_ex m1).1]
      refine x_ens.bi (e_Mo_reckons (cs := sp_seg C (2 + (T 4).toNatClampNeg)) (lo := 3) (hi := 7) (v := fun j => if j = 3 then sp_told C T n late sh ah t else if j = 4 then sp_se C T n late sh (Int32.ofNat t) else if j = 5 then σ.1 85 t else if j = 6 then Int32.ofNat (t + 1) else if sp_ck C T n late sh (Int32.ofNat (t + 1)) then 1 else 0) m2 (by rw [F10.ce 66 rfl]; exact m3) r2.2.1 r2.2.2 ?_) ?_
      · intro j l1 l2
        have e4 : (4 : Int32).toNatClampNeg = 4 := by decide
        rw [e4]
        simp only [x_pI_at]
        have : j = 3 ∨ j = 4 ∨ j = 5 ∨ j = 6 ∨ j = 7 := by omega
        rcases this with rfl | rfl | rfl | rfl | rfl <;> simp [sp_pm]
        rw [i_s]; exact hy
      · intro q hq
        rw [e_Mo_bounded]
        refine x_ens.so ?_
        rw [hq]; rfl
    by_cases hc : sp_nr T n (sp_saw C T late sh (Int32.ofNat (t + 1))) 6
    · rw [if_pos hc, if_neg (by decide)]
      have k1 := key 1 (if_pos hc).symm
      rw [if_pos hc] at k1
      exact k1
    · rw [if_neg hc, if_pos rfl]
      have k1 := key 0 (if_neg hc).symm
      rw [if_neg hc] at k1
      exact k1
theorem i_zs {v : Int32} : (0 : Int32) - v = -v := by grind
theorem i_ss {v : Int32} : v - v = 0 := by grind
theorem e_Mo_goesThrough {C : Nat → Nat → Int32} {σ : xS} {T : Nat → Int32} {n : Nat} {late sh ah : Int32} (G : x_G C) (M : x_M C σ) (S : x_S T n σ) (R : x_R C T n) (hl : σ.1 60 59 = late) (hs : σ.1 60 60 = sh) (ha : σ.1 60 64 = ah) (hl0 : 0 ≤ late) (hl1 : late ≤ 100) :
    x_ens (f_Mo_goesThrough_60 σ) (fun q => ∀ t, t ≤ sp_la C → q.2.1 84 t = sp_se C T n late sh (Int32.ofNat t) ∧ q.2.1 85 t = sp_rg C T n late sh ah t ∧ q.2.1 86 t = sp_of C T n late sh ah t) := by
  have hla := G.2.1.2
  unfold f_Mo_goesThrough_60
  have hlast : f_Mo_last_60 σ = some (Int32.ofNat (sp_la C), σ) := by
    rw [e_Mo_last (n := sp_nm C) G.1.2 (by rw [M.1.2.1]; exact G.1.1), sp_sum_congr (fun i hi => (M.2.1 i hi).2), G.2.2.2.2.2.2.2.1, G.2.1.1]
  rw [hlast]
  dsimp only [Option.bind_some]
  refine x_ens.bi (P := fun b => ∀ t, t ≤ sp_la C → b.2.1 84 t = sp_se C T n late sh (Int32.ofNat t) ∧ b.2.1 85 t = sp_rg C T n late sh ah t ∧ b.2.1 86 t = sp_of C T n late sh ah t) ?_ (fun b hb => x_ens.so hb)
  refine x_iv.go (fun i a => a.1 = Int32.ofNat i ∧ x_fr [(82, 99999), (83, 99999), (84, 99999), (85, 99999), (86, 99999)] σ a.2 ∧ ∀ t, t < i → a.2.1 84 t = sp_se C T n late sh (Int32.ofNat t) ∧ a.2.1 85 t = sp_rg C T n late sh ah t ∧ a.2.1 86 t = sp_of C T n late sh ah t) (sp_la C + 1) (by omega) ⟨rfl, x_fr.rf, fun t ht => by omega⟩ ?_
  rintro i ⟨v, τ⟩ hi ⟨rfl, hF, hI⟩
  dsimp only at hF hI
  unfold f_Mo_goesThrough_60_L7
  dsimp only
  by_cases hx : sp_la C < i
  · rw [if_pos (by rw [i_lt (by omega) (by omega)]; omega)]
    exact x_iv.l (fun t ht => hI t (by omega))
  have ix1 : Int32.ofNat i ≤ Int32.ofNat (sp_la C) := (i_le (by omega) (by omega)).mpr (by omega)
  have ix0 : 0 ≤ Int32.ofNat i := i_0k (by omega)
  have ei : (Int32.ofNat i).toNatClampNeg = i := i_cl (by omega)
  have lift : ∀ {υ : xS}, x_fr [(82, 99999), (83, 99999), (84, 99999), (85, 99999), (86, 99999)] σ υ → x_M C υ ∧ x_S T n υ ∧ υ.1 60 59 = late ∧ υ.1 60 60 = sh ∧ υ.1 60 64 = ah := fun F => ⟨M.fr F rfl rfl rfl rfl rfl rfl rfl, S.fr F rfl rfl, (F.ck 60 59 rfl).trans hl, (F.ck 60 60 rfl).trans hs, (F.ck 60 64 rfl).trans ha⟩
  obtain ⟨M1, S1, a1, a2, a3⟩ := lift hF
  have sr := sp_saw_r (C := C) (T := T) (late := late) (sh := sh) G (i_sub ix0 R.2.1.1 ix1) hl0 hl1
  rw [if_neg (by rw [i_lt (by omega) (by omega)]; omega), e_Mo_sawAt G M1 S1 R a1 a2 hl0 hl1 ix0 ix1]
  dsimp only [Option.bind_some]
  rw [e_Mo_judged S1 R sr]
  dsimp only [Option.bind_some]
  have jr : 12 ≤ (if sp_nr T n (sp_saw C T late sh (Int32.ofNat i)) 6 then sp_saw C T late sh (Int32.ofNat i) else sp_ju T (sp_saw C T late sh (Int32.ofNat i))) ∧ (if sp_nr T n (sp_saw C T late sh (Int32.ofNat i)) 6 then sp_saw C T late sh (Int32.ofNat i) else sp_ju T (sp_saw C T late sh (Int32.ofNat i))) ≤ 480 := by
    split
    · exact sr
    · exact i_wr
  refine x_ens.bf (e_Mo_turnOf G M1 jr.1 jr.2) (fun q e => fr_Mo_turnOf_60 e) ?_
  intro q5 h5 f5
  have hse : q5.1 = sp_se C T n late sh (Int32.ofNat i) := h5
  rw [hse]
  refine x_ens.gr (by rintro (h | h) <;> first | exact i_ge (by omega) h | omega | (rw [i_cl (by omega)] at h; omega)) ?_
  rw [ei]
  have F6 : x_fr [(82, 99999), (83, 99999), (84, 99999), (85, 99999), (86, 99999)] σ (x_pI q5.2 84 i (sp_se C T n late sh (Int32.ofNat i))) := x_frI (p := 84) rfl (x_fr.trans hF (x_fr.su f5 rfl))
  obtain ⟨M6, S6, b1, b2, b3⟩ := lift F6
  unfold f_Mo_whoseIn_60
  rw [e_Mo_who G M6]
  dsimp only [Option.bind_some]
  rw [e_Mo_inchesOf G M6 S6.1.2.2.2.2.1 R.2.2.2.2.1 b1 hl0 hl1 ix0 ix1]
  dsimp only [Option.bind_some]
  have pr := sp_pl_r (C := C) (T := T) (late := late) (who := sp_fa C (Int32.ofNat i) 0) G ix1 hl0 hl1
  refine x_ens.bf (e_Mo_turnOf G M6 pr.1 pr.2) (fun q e => fr_Mo_turnOf_60 e) ?_
  intro q9 h9 f9
  have hri : q9.1 = sp_ri C T late (Int32.ofNat i) := h9
  rw [hri]
  have F9 := x_fr.trans F6 (x_fr.su f9 rfl)
  have g84 : ∀ t, t ≤ i → q9.2.1 84 t = sp_se C T n late sh (Int32.ofNat t) := by
    intro t ht
    rw [f9.ce 84 rfl, x_pI_at]
    dsimp only
    by_cases h : t = i
    · subst h; rw [if_pos rfl]
    · rw [if_neg h, f5.ce 84 rfl]; exact (hI t (by omega)).1
  have g85 : q9.2.1 85 = τ.1 85 := by rw [f9.ce 85 rfl, y_pI_ne (by omega), f5.ce 85 rfl]
  have g86 : q9.2.1 86 = τ.1 86 := by rw [f9.ce 86 rfl, y_pI_ne (by omega), f5.ce 86 rfl]
  have fin : ∀ (υ : xS), x_fr [(82, 99999), (83, 99999), (84, 99999), (85, 99999), (86, 99999)] σ υ → (∀ t, t ≤ i → υ.1 84 t = sp_se C T n late sh (Int32.ofNat t)) → (∀ t, t ≤ i → υ.1 85 t = sp_rg C T n late sh ah t) → υ.1 86 = τ.1 86 → sp_ri C T late (Int32.ofNat i) - sp_rg C T n late sh ah i = sp_of C T n late sh ah i →
      x_ens (f_Mo_goesThrough_60_J110 (Int32.ofNat (sp_la C)) (Int32.ofNat i) (sp_ri C T late (Int32.ofNat i)) υ) (x_iv (fun i a => a.1 = Int32.ofNat i ∧ x_fr [(82, 99999), (83, 99999), (84, 99999), (85, 99999), (86, 99999)] σ a.2 ∧ ∀ t, t < i → a.2.1 84 t = sp_se C T n late sh (Int32.ofNat t) ∧ a.2.1 85 t = sp_rg C T n late sh ah t ∧ a.2.1 86 t = sp_of C T n late sh ah t) (sp_la C + 1) (fun b => ∀ t, t ≤ sp_la C → b.2.1 84 t = sp_se C T n late sh (Int32.ofNat t) ∧ b.2.1 85 t = sp_rg C T n late sh ah t ∧ b.2.1 86 t = sp_of C T n late sh ah t) i) := by
    intro υ Fu u84 u85 u86 ho
    unfold f_Mo_goesThrough_60_J110
    refine x_ens.gr (by rintro (h | h) <;> first | exact i_ge (by omega) h | omega | (rw [i_cl (by omega)] at h; omega)) ?_
    refine x_ens.gr (by rintro (h | h) <;> first | exact i_ge (by omega) h | omega | (rw [i_cl (by omega)] at h; omega)) ?_
    rw [ei, u85 i (by omega), ho]
    refine x_iv.r (by omega) ⟨i_s, x_frI (p := 86) rfl Fu, ?_⟩
    intro t ht
    dsimp only
    rw [y_pI_ne (q := 84) (by omega), y_pI_ne (q := 85) (by omega), x_pI_at, u84 t (by omega), u85 t (by omega)]
    refine ⟨rfl, rfl, ?_⟩
    dsimp only
    by_cases h : t = i
    · subst h; rw [if_pos rfl]
    · rw [if_neg h, u86]; exact (hI t (by omega)).2.2
  by_cases hz : i = 0
  · subst hz
    rw [if_pos i_z]
    refine fin _ (x_frI (p := 85) (k := 0) rfl F9) ?_ ?_ ?_ ?_
    · intro t ht; rw [y_pI_ne (by omega)]; exact g84 t ht
    · intro t ht
      have : t = 0 := by omega
      subst this
      rw [x_pI_at]; rfl
    · rw [y_pI_ne (by omega)]; exact g86
    · exact i_ss
  · obtain ⟨j, rfl⟩ : ∃ j, i = j + 1 := ⟨i - 1, by omega⟩
    rw [if_neg (by rw [← i_z, i_ej (by omega) (by omega)]; omega)]
    obtain ⟨M9, S9, d1, d2, d3⟩ := lift F9
    refine x_ens.bf (e_Mo_shouldBe G M9 S9 R d1 d2 d3 hl0 hl1 (by omega) (g84 (j + 1) (by omega)) (g84 j (by omega))) (fun q e => fr_Mo_shouldBe_60 e) ?_
    intro q11 h11 f11
    rw [i_m1', i_cl (k := j) (by omega)]
    refine x_ens.gr (by rintro (h | h) <;> first | exact i_ge (by omega) h | omega | (rw [i_cl (by omega)] at h; omega)) ?_
    refine x_ens.gr (by rintro (h | h) <;> first | exact i_ge (by omega) h | omega | (rw [i_cl (by omega)] at h; omega)) ?_
    have F11 := x_fr.trans F9 (x_fr.su f11 rfl)
    have k85 : q11.2.1 85 = τ.1 85 := (f11.ce 85 rfl).trans g85
    rw [e_Mo_bounded, k85, (hI j (by omega)).2.1, h11, g85, (hI j (by omega)).2.1, (f11.ck 79 2 rfl).trans S9.1.2.2.1, i_zs]
    dsimp only [Option.bind_some]
    refine x_ens.gr (by rintro (h | h) <;> first | exact i_ge (by omega) h | omega | (rw [i_cl (by omega)] at h; omega)) ?_
    refine fin _ (x_frI (p := 85) rfl F11) ?_ ?_ ?_ rfl
    · intro t ht; rw [y_pI_ne (by omega), f11.ce 84 rfl]; exact g84 t ht
    · intro t ht
      rw [x_pI_at]
      dsimp only
      by_cases h : t = j + 1
      · subst h; rw [if_pos rfl]; rfl
      · rw [if_neg h, k85]; exact (hI t (by omega)).2.1
    · rw [y_pI_ne (by omega), f11.ce 86 rfl]; exact g86
