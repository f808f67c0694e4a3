def x_S (T : Nat → Int32) (n : Nat) (σ : xS) : Prop := (σ.1 79 0 = T 0 ∧ σ.1 79 1 = T 1 ∧ σ.1 79 2 = T 2 ∧ σ.1 79 3 = T 3 ∧ σ.1 79 4 = T 5 ∧ σ.1 79 5 = T 4) ∧ (∀ i, i < n → σ.1 79 (6 + i) = T (6 + i)) ∧ σ.1 60 4 = Int32.ofNat n
def x_R (C : Nat → Nat → Int32) (T : Nat → Int32) (n : Nat) : Prop := (1 ≤ T 0 ∧ T 0 ≤ 60) ∧ (0 ≤ T 1 ∧ T 1 ≤ 24) ∧ (1 ≤ T 2 ∧ T 2 ≤ 90) ∧ (-30 ≤ T 3 ∧ T 3 ≤ 30) ∧ (0 ≤ T 5 ∧ T 5 ≤ 200) ∧ sp_hok C T ∧ n ≤ 6 ∧ ∀ i, i < n → 12 ≤ T (6 + i) ∧ T (6 + i) ≤ 480
theorem x_S.fr {W : List (Nat × Nat)} {T : Nat → Int32} {n : Nat} {σ τ : xS} (S : x_S T n σ) (h : x_fr W σ τ) (h1 : (W.all fun w => w.1 != 79) = true) (h2 : x_in W 60 4 = false) : x_S T n τ := by
  unfold x_S
  rw [h.ce 79 h1, h.ck 60 4 h2]
  exact S
theorem i_n12 {v : Int32} (h : 12 ≤ v) : ¬ v < 12 := by grind
theorem i_nz {v : Int32} (h : 12 ≤ v) : ¬ v = 0 := by grind
theorem e_Mo_turnOf {C : Nat → Nat → Int32} {σ : xS} (G : x_G C) (M : x_M C σ) {v : Int32} (h1 : 12 ≤ v) (h2 : v ≤ 480) : x_ens (f_Mo_turnOf_60 v σ) (fun q => q.1 = sp_tn C v) := by
  have et : sp_tn C v = sp_tu C v := by
    unfold sp_tn
    rw [if_neg (i_n12 h1), if_pos h2]
    exact (G.2.2.2.2.2.2.2.2.2.2.2.1 v h1 h2).1
  rw [et]
  unfold f_Mo_turnOf_60 sp_tu
  have m := M.2.2.2.1
  by_cases hh : sp_has C 0
  · rw [if_pos hh] at m
    obtain ⟨m1, m2, m3⟩ := m
    rw [if_neg (by intro e; rw [e] at m1; exact absurd m1 (by decide)), if_pos hh]
    dsimp only
    rw [y_pI_ne (q := 60) (by omega), (i_ex m1).1]
    have g := G.2.2.2.2.2.2.2.2.2.2.2.2.1 hh
    refine x_ens.bi (e_Mo_reckons (cs := sp_seg C 0) (lo := 0) (hi := 0) (v := fun _ => v) m2 (by rw [y_pI_ne (q := 66) (by omega)]; exact m3) g.2.1 g.2.2 ?_) ?_
    · intro j l1 l2
      have : j = 0 := by omega
      subst this
      rw [x_pI_at]; rfl
    · intro q hq
      rw [e_Mo_bounded, hq]
      exact x_ens.so rfl
  · rw [if_neg hh] at m
    rw [if_pos m, if_neg (i_nz h1), if_neg hh]
    exact x_ens.so rfl
theorem x_G.her {C : Nat → Nat → Int32} {σ : xS} (G : x_G C) (M : x_M C σ) {t : Int32} (h0 : 0 ≤ t) (h1 : t ≤ Int32.ofNat (sp_la C)) : f_Mo_herIn_60 t σ = some (C 19 t.toNatClampNeg, σ) := by
  have hl := G.2.1.2
  rw [e_Mo_herIn (m := sp_nm C) G.1.2 (by rw [M.1.2.1]; exact G.1.1) (fun i hi => by rw [(M.2.1 i hi).2]; have := (G.2.2.2.2.2.2.1 i hi).2.1; intro e; rw [e] at this; exact absurd this (by decide))]
  have k := i_nat (by omega) h1
  rw [(G.2.2.2.2.2.2.2.2.2.2.1 _ k).1, ← (i_ex h0).1, M.1.1, sp_her_congr (fun j hj => M.2.1 j (by omega))]
theorem i_pos {t late : Int32} (h0 : 0 ≤ t) (h3 : late ≤ t) (h4 : 0 ≤ late) : (if 0 < t then t else 0) - late = t - late ∧ 0 ≤ t - late ∧ t - late ≤ t := by grind
theorem i_neg {t late : Int32} (h0 : 0 ≤ t) (h3 : ¬ late ≤ t) (h4 : late ≤ 100) : (if 0 < t then t else 0) - late < 0 := by grind
theorem i_bh {v b : Int32} (h1 : 12 ≤ v) (h2 : v ≤ 480) (h3 : 0 ≤ b) (h4 : b ≤ 200) : (if v + b ≤ 480 then v + b else 480) = sp_wi (v + b) 12 480 := by unfold sp_wi; grind
theorem sp_hi_r {C : Nat → Nat → Int32} (G : x_G C) {t : Int32} (h : t ≤ Int32.ofNat (sp_la C)) : 12 ≤ sp_hi C t ∧ sp_hi C t ≤ 480 := by
  have hl := G.2.1.2
  unfold sp_hi
  by_cases h1 : t < 0
  · rw [if_pos h1]; exact G.2.2.2.2.2.1
  · rw [if_neg h1]
    by_cases h2 : t ≤ 600
    · rw [if_pos h2]; exact (G.2.2.2.2.2.2.2.2.2.2.1 _ (i_nat (by omega) h)).2
    · rw [if_neg h2]; exact G.2.2.2.2.2.1
theorem i_wr {v : Int32} : 12 ≤ sp_wi v 12 480 ∧ sp_wi v 12 480 ≤ 480 := by unfold sp_wi; grind
theorem i_w9 {v : Int32} : 0 ≤ sp_wi v 0 999 ∧ sp_wi v 0 999 ≤ 999 := by unfold sp_wi; grind
theorem i_ml {t late l : Int32} (h0 : t ≤ l) (hl : 0 ≤ l) (hl2 : l ≤ 600) (h4 : 0 ≤ late) (h5 : late ≤ 100) : (if 0 < t then t else 0) - late ≤ l := by grind
theorem i_la {C : Nat → Nat → Int32} (G : x_G C) : 0 ≤ Int32.ofNat (sp_la C) ∧ Int32.ofNat (sp_la C) ≤ 600 := by
  have hl := G.2.1.2
  exact ⟨(i_le (j := 0) (by omega) (by omega)).mpr (by omega), (i_le (k := 600) (by omega) (by omega)).mpr hl⟩
theorem sp_pl_r {C : Nat → Nat → Int32} (G : x_G C) {T : Nat → Int32} {late t who : Int32} (h : t ≤ Int32.ofNat (sp_la C)) (h4 : 0 ≤ late) (h5 : late ≤ 100) : 12 ≤ sp_pl C T late t who ∧ sp_pl C T late t who ≤ 480 := by
  unfold sp_pl
  split
  · exact sp_hi_r G (i_ml h (i_la G).1 (i_la G).2 h4 h5)
  · exact i_wr
theorem i_tr {a b c : Int32} (h : a ≤ b) (g : b ≤ c) : a ≤ c := by grind
theorem e_Mo_inchesOf {C : Nat → Nat → Int32} {σ : xS} {T : Nat → Int32} {late t who : Int32} (G : x_G C) (M : x_M C σ) (hb : σ.1 79 4 = T 5) (h5 : 0 ≤ T 5 ∧ T 5 ≤ 200) (hl : σ.1 60 59 = late) (hl0 : 0 ≤ late) (hl1 : late ≤ 100) (h0 : 0 ≤ t) (h1 : t ≤ Int32.ofNat (sp_la C)) :
    f_Mo_inchesOf_60 t who σ = some (sp_pl C T late t who, σ) := by
  have hla := G.2.1.2
  have key : ∀ y, 0 ≤ y → y ≤ Int32.ofNat (sp_la C) → C 19 y.toNatClampNeg = sp_hi C ((if 0 < t then t else 0) - late) → f_Mo_inchesOf_60_J19 who y σ = some (sp_pl C T late t who, σ) := by
    intro y hy0 hy1 hy
    unfold f_Mo_inchesOf_60_J19 sp_pl
    rw [G.her M hy0 hy1]
    dsimp only [Option.bind_some]
    rw [hy, hb]
    by_cases hw : who = 0
    · rw [if_pos hw, if_pos hw]
    · rw [if_neg hw, if_neg hw]
      have r := sp_hi_r G (i_ml (late := late) h1 (i_la G).1 (i_la G).2 hl0 hl1)
      rw [← i_bh r.1 r.2 h5.1 h5.2]
      generalize sp_hi C ((if 0 < t then t else 0) - late) + T 5 = z
      split <;> rfl
  unfold f_Mo_inchesOf_60
  rw [hl]
  by_cases h : late ≤ t
  · rw [if_pos h]
    obtain ⟨k1, k2, k3⟩ := i_pos h0 h hl0
    refine key _ k2 (i_tr k3 h1) ?_
    rw [k1]
    unfold sp_hi
    rw [if_neg (i_nl.mpr k2), if_pos (i_tr k3 (i_tr h1 (i_la G).2))]
  · rw [if_neg h]
    refine key 0 (by decide) (i_la G).1 ?_
    unfold sp_hi
    rw [if_pos (i_neg h0 h hl1)]
    exact G.2.2.2.2.2.2.2.2.2.1
theorem e_Mo_who {C : Nat → Nat → Int32} {σ : xS} (G : x_G C) (M : x_M C σ) (t later : Int32) : f_Mo_whoseBy_60 t later σ = some (sp_fa C t later, σ) := by
  rw [e_Mo_whoseBy (sp_nc C) G.2.2.1.2 t later σ (by rw [M.1.2.2.1]; exact G.2.2.1.1), sp_face_congr (fun i hi => M.2.2.1 i hi)]; rfl
theorem i_lag {t g : Int32} (h0 : 0 ≤ t) (hg : 0 ≤ g) : (g ≤ t → (if 0 < t - g then t - g else 0) = (if 0 < t - g then t - g else 0) ∧ 0 ≤ t - g ∧ t - g ≤ t) ∧ (¬ g ≤ t → (if 0 < t - g then t - g else 0) = 0) := by grind
theorem e_Mo_sawAt {C : Nat → Nat → Int32} {σ : xS} {T : Nat → Int32} {n : Nat} {late sh t : Int32} (G : x_G C) (M : x_M C σ) (S : x_S T n σ) (R : x_R C T n) (hl : σ.1 60 59 = late) (hs : σ.1 60 60 = sh) (hl0 : 0 ≤ late) (hl1 : late ≤ 100) (h0 : 0 ≤ t) (h1 : t ≤ Int32.ofNat (sp_la C)) :
    f_Mo_sawAt_60 t σ = some (sp_saw C T late sh t, σ) := by
  unfold f_Mo_sawAt_60 sp_saw
  rw [S.1.2.1, hs, e_Mo_who G M]
  dsimp only [Option.bind_some]
  have k := i_lag h0 R.2.1.1
  by_cases h : T 1 ≤ t
  · rw [if_pos h, e_Mo_inchesOf G M S.1.2.2.2.2.1 R.2.2.2.2.1 hl hl0 hl1 (k.1 h).2.1 (i_tr (k.1 h).2.2 h1)]
    rfl
  · rw [if_neg h, e_Mo_inchesOf G M S.1.2.2.2.2.1 R.2.2.2.2.1 hl hl0 hl1 (by decide) (i_la G).1]
    dsimp only [Option.bind_some]
    unfold sp_pl
    rw [k.2 h]
    rfl
theorem sp_nr_congr {T T' : Nat → Int32} {n : Nat} {v r : Int32} (h : ∀ i, i < n → T (6 + i) = T' (6 + i)) : sp_nr T n v r ↔ sp_nr T' n v r := by
  constructor
  · rintro ⟨i, h1, h2⟩; exact ⟨i, h1, by rw [← h i h1]; exact h2⟩
  · rintro ⟨i, h1, h2⟩; exact ⟨i, h1, by rw [h i h1]; exact h2⟩
theorem i_1k {v : Int32} (h : 12 ≤ v ∧ v ≤ 480) : 0 ≤ v ∧ v ≤ 1000 := by grind
theorem e_Mo_byMark {C : Nat → Nat → Int32} {σ : xS} {T : Nat → Int32} {n : Nat} {v : Int32} (S : x_S T n σ) (R : x_R C T n) (hv : 12 ≤ v ∧ v ≤ 480) : f_Mo_isByMark_60 v σ = some (if sp_nr T n v 6 then 1 else 0, σ) := by
  rw [e_Mo_isByMark n R.2.2.2.2.2.2.1 v σ S.2.2 (i_1k hv) (fun i hi => by rw [S.2.1 i hi]; exact i_1k (R.2.2.2.2.2.2.2 i hi))]
  simp only [sp_nr_congr (S.2.1)]
theorem e_Mo_judged {C : Nat → Nat → Int32} {σ : xS} {T : Nat → Int32} {n : Nat} {v : Int32} (S : x_S T n σ) (R : x_R C T n) (hv : 12 ≤ v ∧ v ≤ 480) : f_Mo_judged_60 v σ = some (if sp_nr T n v 6 then v else sp_ju T v, σ) := by
  unfold f_Mo_judged_60 sp_ju
  rw [e_Mo_byMark S R hv]
  dsimp only [Option.bind_some]
  rw [e_Mo_bounded, S.1.2.2.2.1]
  by_cases h : sp_nr T n v 6
  · rw [if_pos h, if_pos h, if_neg (by decide)]
  · rw [if_neg h, if_neg h, if_pos rfl]; rfl
