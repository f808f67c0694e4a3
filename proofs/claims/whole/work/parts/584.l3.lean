theorem e_Mo_cp_69_61 {σ : xS} : x_ens (f_Mo_copies_60_69_61 σ) (fun q => (∀ k, k < 12 → q.2.1 61 k = σ.1 69 k) ∧ x_fr [(61, 99999)] σ q.2) := by
  unfold f_Mo_copies_60_69_61
  refine x_ens.bi (P := fun b => (∀ k, k < 12 → b.2.1 61 k = σ.1 69 k) ∧ x_fr [(61, 99999)] σ b.2) ?_ (fun b hb => x_ens.so hb)
  refine x_iv.go (fun i a => a.1 = Int32.ofNat i ∧ (∀ k, k < i → a.2.1 61 k = σ.1 69 k) ∧ x_fr [(61, 99999)] σ a.2) 12 (by omega) ⟨rfl, fun k hk => by omega, x_fr.rf⟩ ?_
  rintro i ⟨v, τ⟩ hi ⟨h1, h2, h3⟩
  dsimp only at h1 h2 h3
  subst h1
  unfold f_Mo_copies_60_69_61_L2
  dsimp only
  by_cases hx : i = 12
  · subst hx
    rw [if_pos (by decide)]
    exact x_iv.l ⟨h2, h3⟩
  · rw [if_neg (fun h => by have := (i_le (by omega) (by omega)).mp h; omega), i_cl (by omega)]
    refine x_ens.gr (by rintro (h | h) <;> first | exact i_ge (by omega) h | omega | (rw [i_cl (by omega)] at h; omega)) ?_
    refine x_ens.gr (by rintro (h | h) <;> first | exact i_ge (by omega) h | omega | (rw [i_cl (by omega)] at h; omega)) ?_
    refine x_iv.r (by omega) ⟨i_s, fun k hk => ?_, x_frI (p := 61) rfl h3⟩
    dsimp only
    rw [x_pI_at]
    dsimp only
    by_cases h : k = i
    · subst h; rw [if_pos rfl, h3.ce 69 rfl]
    · rw [if_neg h]; exact h2 k (by omega)
theorem e_Mo_cp_70_62 {σ : xS} : x_ens (f_Mo_copies_60_70_62 σ) (fun q => (∀ k, k < 12 → q.2.1 62 k = σ.1 70 k) ∧ x_fr [(62, 99999)] σ q.2) := by
  unfold f_Mo_copies_60_70_62
  refine x_ens.bi (P := fun b => (∀ k, k < 12 → b.2.1 62 k = σ.1 70 k) ∧ x_fr [(62, 99999)] σ b.2) ?_ (fun b hb => x_ens.so hb)
  refine x_iv.go (fun i a => a.1 = Int32.ofNat i ∧ (∀ k, k < i → a.2.1 62 k = σ.1 70 k) ∧ x_fr [(62, 99999)] σ a.2) 12 (by omega) ⟨rfl, fun k hk => by omega, x_fr.rf⟩ ?_
  rintro i ⟨v, τ⟩ hi ⟨h1, h2, h3⟩
  dsimp only at h1 h2 h3
  subst h1
  unfold f_Mo_copies_60_70_62_L2
  dsimp only
  by_cases hx : i = 12
  · subst hx
    rw [if_pos (by decide)]
    exact x_iv.l ⟨h2, h3⟩
  · rw [if_neg (fun h => by have := (i_le (by omega) (by omega)).mp h; omega), i_cl (by omega)]
    refine x_ens.gr (by rintro (h | h) <;> first | exact i_ge (by omega) h | omega | (rw [i_cl (by omega)] at h; omega)) ?_
    refine x_ens.gr (by rintro (h | h) <;> first | exact i_ge (by omega) h | omega | (rw [i_cl (by omega)] at h; omega)) ?_
    refine x_iv.r (by omega) ⟨i_s, fun k hk => ?_, x_frI (p := 62) rfl h3⟩
    dsimp only
    rw [x_pI_at]
    dsimp only
    by_cases h : k = i
    · subst h; rw [if_pos rfl, h3.ce 70 rfl]
    · rw [if_neg h]; exact h2 k (by omega)
theorem e_Mo_cp_71_63 {σ : xS} : x_ens (f_Mo_copies_60_71_63 σ) (fun q => (∀ k, k < 6 → q.2.1 63 k = σ.1 71 k) ∧ x_fr [(63, 99999)] σ q.2) := by
  unfold f_Mo_copies_60_71_63
  refine x_ens.bi (P := fun b => (∀ k, k < 6 → b.2.1 63 k = σ.1 71 k) ∧ x_fr [(63, 99999)] σ b.2) ?_ (fun b hb => x_ens.so hb)
  refine x_iv.go (fun i a => a.1 = Int32.ofNat i ∧ (∀ k, k < i → a.2.1 63 k = σ.1 71 k) ∧ x_fr [(63, 99999)] σ a.2) 6 (by omega) ⟨rfl, fun k hk => by omega, x_fr.rf⟩ ?_
  rintro i ⟨v, τ⟩ hi ⟨h1, h2, h3⟩
  dsimp only at h1 h2 h3
  subst h1
  unfold f_Mo_copies_60_71_63_L2
  dsimp only
  by_cases hx : i = 6
  · subst hx
    rw [if_pos (by decide)]
    exact x_iv.l ⟨h2, h3⟩
  · rw [if_neg (fun h => by have := (i_le (by omega) (by omega)).mp h; omega), i_cl (by omega)]
    refine x_ens.gr (by rintro (h | h) <;> first | exact i_ge (by omega) h | omega | (rw [i_cl (by omega)] at h; omega)) ?_
    refine x_ens.gr (by rintro (h | h) <;> first | exact i_ge (by omega) h | omega | (rw [i_cl (by omega)] at h; omega)) ?_
    refine x_iv.r (by omega) ⟨i_s, fun k hk => ?_, x_frI (p := 63) rfl h3⟩
    dsimp only
    rw [x_pI_at]
    dsimp only
    by_cases h : k = i
    · subst h; rw [if_pos rfl, h3.ce 71 rfl]
    · rw [if_neg h]; exact h2 k (by omega)
theorem e_Mo_cp_72_64 {σ : xS} : x_ens (f_Mo_copies_60_72_64 σ) (fun q => (∀ k, k < 6 → q.2.1 64 k = σ.1 72 k) ∧ x_fr [(64, 99999)] σ q.2) := by
  unfold f_Mo_copies_60_72_64
  refine x_ens.bi (P := fun b => (∀ k, k < 6 → b.2.1 64 k = σ.1 72 k) ∧ x_fr [(64, 99999)] σ b.2) ?_ (fun b hb => x_ens.so hb)
  refine x_iv.go (fun i a => a.1 = Int32.ofNat i ∧ (∀ k, k < i → a.2.1 64 k = σ.1 72 k) ∧ x_fr [(64, 99999)] σ a.2) 6 (by omega) ⟨rfl, fun k hk => by omega, x_fr.rf⟩ ?_
  rintro i ⟨v, τ⟩ hi ⟨h1, h2, h3⟩
  dsimp only at h1 h2 h3
  subst h1
  unfold f_Mo_copies_60_72_64_L2
  dsimp only
  by_cases hx : i = 6
  · subst hx
    rw [if_pos (by decide)]
    exact x_iv.l ⟨h2, h3⟩
  · rw [if_neg (fun h => by have := (i_le (by omega) (by omega)).mp h; omega), i_cl (by omega)]
    refine x_ens.gr (by rintro (h | h) <;> first | exact i_ge (by omega) h | omega | (rw [i_cl (by omega)] at h; omega)) ?_
    refine x_ens.gr (by rintro (h | h) <;> first | exact i_ge (by omega) h | omega | (rw [i_cl (by omega)] at h; omega)) ?_
    refine x_iv.r (by omega) ⟨i_s, fun k hk => ?_, x_frI (p := 64) rfl h3⟩
    dsimp only
    rw [x_pI_at]
    dsimp only
    by_cases h : k = i
    · subst h; rw [if_pos rfl, h3.ce 72 rfl]
    · rw [if_neg h]; exact h2 k (by omega)
theorem e_Mo_cp_75_65 {σ : xS} : x_ens (f_Mo_copies_60_75_65 σ) (fun q => (∀ k, k < 4 → q.2.1 65 k = σ.1 75 k) ∧ x_fr [(65, 99999)] σ q.2) := by
  unfold f_Mo_copies_60_75_65
  refine x_ens.bi (P := fun b => (∀ k, k < 4 → b.2.1 65 k = σ.1 75 k) ∧ x_fr [(65, 99999)] σ b.2) ?_ (fun b hb => x_ens.so hb)
  refine x_iv.go (fun i a => a.1 = Int32.ofNat i ∧ (∀ k, k < i → a.2.1 65 k = σ.1 75 k) ∧ x_fr [(65, 99999)] σ a.2) 4 (by omega) ⟨rfl, fun k hk => by omega, x_fr.rf⟩ ?_
  rintro i ⟨v, τ⟩ hi ⟨h1, h2, h3⟩
  dsimp only at h1 h2 h3
  subst h1
  unfold f_Mo_copies_60_75_65_L2
  dsimp only
  by_cases hx : i = 4
  · subst hx
    rw [if_pos (by decide)]
    exact x_iv.l ⟨h2, h3⟩
  · rw [if_neg (fun h => by have := (i_le (by omega) (by omega)).mp h; omega), i_cl (by omega)]
    refine x_ens.gr (by rintro (h | h) <;> first | exact i_ge (by omega) h | omega | (rw [i_cl (by omega)] at h; omega)) ?_
    refine x_ens.gr (by rintro (h | h) <;> first | exact i_ge (by omega) h | omega | (rw [i_cl (by omega)] at h; omega)) ?_
    refine x_iv.r (by omega) ⟨i_s, fun k hk => ?_, x_frI (p := 65) rfl h3⟩
    dsimp only
    rw [x_pI_at]
    dsimp only
    by_cases h : k = i
    · subst h; rw [if_pos rfl, h3.ce 75 rfl]
    · rw [if_neg h]; exact h2 k (by omega)
theorem e_Mo_cp_76_66 {σ : xS} : x_ens (f_Mo_copies_60_76_66 σ) (fun q => (∀ k, k < 4200 → q.2.1 66 k = σ.1 76 k) ∧ x_fr [(66, 99999)] σ q.2) := by
  unfold f_Mo_copies_60_76_66
  refine x_ens.bi (P := fun b => (∀ k, k < 4200 → b.2.1 66 k = σ.1 76 k) ∧ x_fr [(66, 99999)] σ b.2) ?_ (fun b hb => x_ens.so hb)
  refine x_iv.go (fun i a => a.1 = Int32.ofNat i ∧ (∀ k, k < i → a.2.1 66 k = σ.1 76 k) ∧ x_fr [(66, 99999)] σ a.2) 4200 (by omega) ⟨rfl, fun k hk => by omega, x_fr.rf⟩ ?_
  rintro i ⟨v, τ⟩ hi ⟨h1, h2, h3⟩
  dsimp only at h1 h2 h3
  subst h1
  unfold f_Mo_copies_60_76_66_L2
  dsimp only
  by_cases hx : i = 4200
  · subst hx
    rw [if_pos (by decide)]
    exact x_iv.l ⟨h2, h3⟩
  · rw [if_neg (fun h => by have := (i_le (by omega) (by omega)).mp h; omega), i_cl (by omega)]
    refine x_ens.gr (by rintro (h | h) <;> first | exact i_ge (by omega) h | omega | (rw [i_cl (by omega)] at h; omega)) ?_
    refine x_ens.gr (by rintro (h | h) <;> first | exact i_ge (by omega) h | omega | (rw [i_cl (by omega)] at h; omega)) ?_
    refine x_iv.r (by omega) ⟨i_s, fun k hk => ?_, x_frI (p := 66) rfl h3⟩
    dsimp only
    rw [x_pI_at]
    dsimp only
    by_cases h : k = i
    · subst h; rw [if_pos rfl, h3.ce 76 rfl]
    · rw [if_neg h]; exact h2 k (by omega)
theorem m_l288 {σ : xS} : x_ens (x_it f_Mo_scene_60_L288 10000 ((0 : Int32), σ)) (fun b => (∀ j, j < 5 → b.2.1 79 j = σ.1 74 j) ∧ x_fr [(79, 99999)] σ b.2) := by
  refine x_iv.go (fun i a => a.1 = Int32.ofNat i ∧ (∀ k, k < i → a.2.1 79 k = σ.1 74 k) ∧ x_fr [(79, 99999)] σ a.2) 5 (by omega) ⟨rfl, fun k hk => by omega, x_fr.rf⟩ ?_
  rintro i ⟨v, τ⟩ hi ⟨h1, h2, h3⟩
  dsimp only at h1 h2 h3
  subst h1
  unfold f_Mo_scene_60_L288
  dsimp only
  by_cases hx : i = 5
  · subst hx
    rw [if_pos (by decide)]
    exact x_iv.l ⟨h2, h3⟩
  · rw [if_neg (show ¬ (5 : Int32) ≤ Int32.ofNat i from fun h => by have := (i_le (j := 5) (by omega) (by omega)).mp h; omega), if_neg (i_ix (by omega) (by omega)), if_neg (i_ix (by omega) (by omega)), i_cl (by omega)]
    refine x_iv.r (by omega) ⟨i_s, fun k hk => ?_, x_frI (p := 79) (k := i) (by simp [x_in]) h3⟩
    dsimp only
    by_cases h : k = i
    · rw [h, x_pI_kk, h3.ce 74 rfl]
    · rw [x_pI_kn h]; exact h2 k (by omega)
theorem m_l331 {σ : xS} : x_ens (x_it f_Mo_scene_60_L331 10000 ((0 : Int32), σ)) (fun b => (∀ j, j < 6 → b.2.1 79 (6 + j) = σ.1 73 j) ∧ (∀ j, j < 6 → b.2.1 79 j = σ.1 79 j) ∧ x_fr [(79, 99999)] σ b.2) := by
  refine x_iv.go (fun i a => a.1 = Int32.ofNat i ∧ (∀ k, k < i → a.2.1 79 (6 + k) = σ.1 73 k) ∧ (∀ k, k < 6 → a.2.1 79 k = σ.1 79 k) ∧ x_fr [(79, 99999)] σ a.2) 6 (by omega) ⟨rfl, fun k hk => by omega, fun k hk => rfl, x_fr.rf⟩ ?_
  rintro i ⟨v, τ⟩ hi ⟨h1, h2, h4, h3⟩
  dsimp only at h1 h2 h3 h4
  subst h1
  unfold f_Mo_scene_60_L331
  dsimp only
  by_cases hx : i = 6
  · subst hx
    rw [if_pos (by decide)]
    exact x_iv.l ⟨h2, h4, h3⟩
  · have e6 : (6 : Int32) + Int32.ofNat i = Int32.ofNat (6 + i) := (Int32.ofNat_add 6 i).symm
    rw [if_neg (show ¬ (6 : Int32) ≤ Int32.ofNat i from fun h => by have := (i_le (j := 6) (by omega) (by omega)).mp h; omega), if_neg (i_ix (by omega) (by omega)), e6, if_neg (i_ix (by omega) (by omega)), i_cl (by omega), i_cl (by omega)]
    refine x_iv.r (by omega) ⟨i_s, fun k hk => ?_, fun k hk => ?_, x_frI (p := 79) (k := 6 + i) (by simp [x_in]) h3⟩
    · dsimp only
      by_cases h : k = i
      · rw [h, x_pI_kk, h3.ce 73 rfl]
      · rw [x_pI_kn (by omega)]; exact h2 k (by omega)
    · dsimp only
      rw [x_pI_kn (by omega)]; exact h4 k hk
def x_mk (υ M : xS) : Prop := (M.1 60 1 = υ.1 60 27 ∧ M.1 60 2 = υ.1 60 28 ∧ M.1 60 3 = υ.1 60 29 ∧ M.1 60 4 = υ.1 60 30 ∧ M.1 60 5 = υ.1 60 31 ∧ M.1 60 6 = υ.1 60 32 ∧ M.1 60 7 = υ.1 60 33) ∧
  ((∀ k, k < 12 → M.1 61 k = υ.1 69 k) ∧ (∀ k, k < 12 → M.1 62 k = υ.1 70 k) ∧ (∀ k, k < 6 → M.1 63 k = υ.1 71 k) ∧ (∀ k, k < 6 → M.1 64 k = υ.1 72 k) ∧ (∀ k, k < 4 → M.1 65 k = υ.1 75 k) ∧ ∀ k, k < 4200 → M.1 66 k = υ.1 76 k) ∧
  ((∀ k, k < 5 → M.1 79 k = υ.1 74 k) ∧ M.1 79 5 = (if υ.1 60 31 ≤ 0 then -1 else 0) ∧ ∀ k, k < 6 → M.1 79 (6 + k) = υ.1 73 k) ∧
  M.1 60 56 = 0 ∧ M.1 60 74 = 0 ∧ M.1 60 76 = 0 ∧ M.1 60 68 = -1 ∧ M.1 60 78 = 0
theorem m_J328 {y : Int32} {σ : xS} : x_ens (f_Mo_scene_60_J328 5 y σ) (fun q => q.1 = 0 ∧ (∀ j, j < 5 → q.2.1 79 j = σ.1 79 j) ∧ q.2.1 79 5 = y ∧ (∀ j, j < 6 → q.2.1 79 (6 + j) = σ.1 73 j) ∧ (q.2.1 60 56 = 0 ∧ q.2.1 60 74 = 0 ∧ q.2.1 60 76 = 0 ∧ q.2.1 60 68 = -1 ∧ q.2.1 60 78 = 0) ∧ x_fr [(60, 56), (60, 68), (60, 74), (60, 76), (60, 78), (79, 99999)] σ q.2) := by
  have e5 : (5 : Int32).toNatClampNeg = 5 := by decide
  unfold f_Mo_scene_60_J328
  rw [if_neg (show ¬ ((5 : Int32) < 0 ∨ 12 ≤ (5 : Int32).toNatClampNeg) by decide), e5]
  dsimp only
  refine x_ens.bi m_l331 ?_
  rintro b ⟨b1, b2, f⟩
  obtain ⟨s, hs, s1, fs⟩ : ∃ s, x_pI (x_pI (x_pI (x_pI (x_pI b.2 60 56 0) 60 74 0) 60 76 0) 60 68 (-1)) 60 78 0 = s ∧ (s.1 60 56 = 0 ∧ s.1 60 74 = 0 ∧ s.1 60 76 = 0 ∧ s.1 60 68 = -1 ∧ s.1 60 78 = 0) ∧ x_fr [(60, 56), (60, 68), (60, 74), (60, 76), (60, 78)] b.2 s := ⟨_, rfl, by simp [x_pI], x_frI (p := 60) (k := 78) rfl (x_frI (p := 60) (k := 68) rfl (x_frI (p := 60) (k := 76) rfl (x_frI (p := 60) (k := 74) rfl (x_frI (p := 60) (k := 56) rfl x_fr.rf))))⟩
  rw [hs]
  have fx : x_fr [(79, 99999)] σ (x_pI σ 79 5 y) := x_frI (p := 79) (k := 5) rfl x_fr.rf
  refine x_ens.so ⟨rfl, fun j hj => ?_, ?_, fun j hj => ?_, s1, ?_⟩
  · rw [fs.ce 79 rfl, b2 j (by omega), x_pI_kn (by omega)]
  · rw [fs.ce 79 rfl, b2 5 (by omega)]; exact x_pI_kk
  · rw [fs.ce 79 rfl, b1 j hj, fx.ce 73 rfl]
  · exact x_fr.trans (fx.su rfl) (x_fr.trans (f.su rfl) (fs.su rfl))
def f_J136b (σ21 : xS) : Option (Int32 × xS) :=
  (f_Mo_copies_60_69_61 σ21).bind fun q22 =>
  (f_Mo_copies_60_70_62 q22.2).bind fun q23 =>
  (f_Mo_copies_60_71_63 q23.2).bind fun q24 =>
  (f_Mo_copies_60_72_64 q24.2).bind fun q25 =>
  (f_Mo_copies_60_75_65 q25.2).bind fun q26 =>
  (f_Mo_copies_60_76_66 q26.2).bind fun q27 =>
  (x_it (f_Mo_scene_60_L288) 10000 ((0 : Int32), q27.2)).bind fun b28 =>
  if b28.2.1 60 5 ≤ 0 then f_Mo_scene_60_J328 (5 : Int32) (-1 : Int32) b28.2 else f_Mo_scene_60_J328 (5 : Int32) (0 : Int32) b28.2
def f_ja7 (υ : xS) : Option (Int32 × xS) := f_J136b (x_pI υ 60 7 (υ.1 60 33))
def f_ja6 (υ : xS) : Option (Int32 × xS) := f_ja7 (x_pI υ 60 6 (υ.1 60 32))
def f_ja5 (υ : xS) : Option (Int32 × xS) := f_ja6 (x_pI υ 60 5 (υ.1 60 31))
def f_ja4 (υ : xS) : Option (Int32 × xS) := f_ja5 (x_pI υ 60 4 (υ.1 60 30))
def f_ja3 (υ : xS) : Option (Int32 × xS) := f_ja4 (x_pI υ 60 3 (υ.1 60 29))
def f_ja2 (υ : xS) : Option (Int32 × xS) := f_ja3 (x_pI υ 60 2 (υ.1 60 28))
def f_ja1 (υ : xS) : Option (Int32 × xS) := f_ja2 (x_pI υ 60 1 (υ.1 60 27))
theorem J136_eq {υ : xS} (eg : f_Mo_isGood_60 υ = some (1, υ)) : f_Mo_scene_60_J136 υ = f_ja1 ((1 : Int32), υ).2 := by
  unfold f_Mo_scene_60_J136
  rw [eg, Option.bind_some, if_neg (show ¬ ((1 : Int32), υ).1 = 0 from (by decide : ¬ (1 : Int32) = 0))]
  rfl
theorem m_good {υ : xS} (hg : υ.1 60 16 = 0) : x_ens (f_Mo_scene_60_J136 υ) (fun q => q.1 = 0 ∧ x_mk υ q.2 ∧ x_fr [(60, 1), (60, 2), (60, 3), (60, 4), (60, 5), (60, 6), (60, 7), (60, 56), (60, 68), (60, 74), (60, 76), (60, 78), (61, 99999), (62, 99999), (63, 99999), (64, 99999), (65, 99999), (66, 99999), (79, 99999)] υ q.2) := by
  have eg : f_Mo_isGood_60 υ = some (1, υ) := by unfold f_Mo_isGood_60; rw [if_pos hg]
  rw [J136_eq eg]
  show x_ens (f_ja1 υ) _
  unfold f_ja1
  have f1 : x_fr [(60, 1)] υ (x_pI υ 60 1 (υ.1 60 27)) := x_frI (p := 60) (k := 1) rfl x_fr.rf
  have v1 : (x_pI υ 60 1 (υ.1 60 27)).1 60 1 = υ.1 60 27 := x_pI_kk
  generalize x_pI υ 60 1 (υ.1 60 27) = s1 at f1 v1 ⊢
  unfold f_ja2
  have f2 : x_fr [(60, 2)] s1 (x_pI s1 60 2 (s1.1 60 28)) := x_frI (p := 60) (k := 2) rfl x_fr.rf
  have v2 : (x_pI s1 60 2 (s1.1 60 28)).1 60 2 = s1.1 60 28 := x_pI_kk
  generalize x_pI s1 60 2 (s1.1 60 28) = s2 at f2 v2 ⊢
  unfold f_ja3
  have f3 : x_fr [(60, 3)] s2 (x_pI s2 60 3 (s2.1 60 29)) := x_frI (p := 60) (k := 3) rfl x_fr.rf
  have v3 : (x_pI s2 60 3 (s2.1 60 29)).1 60 3 = s2.1 60 29 := x_pI_kk
  generalize x_pI s2 60 3 (s2.1 60 29) = s3 at f3 v3 ⊢
  unfold f_ja4
  have f4 : x_fr [(60, 4)] s3 (x_pI s3 60 4 (s3.1 60 30)) := x_frI (p := 60) (k := 4) rfl x_fr.rf
  have v4 : (x_pI s3 60 4 (s3.1 60 30)).1 60 4 = s3.1 60 30 := x_pI_kk
  generalize x_pI s3 60 4 (s3.1 60 30) = s4 at f4 v4 ⊢
  unfold f_ja5
  have f5 : x_fr [(60, 5)] s4 (x_pI s4 60 5 (s4.1 60 31)) := x_frI (p := 60) (k := 5) rfl x_fr.rf
  have v5 : (x_pI s4 60 5 (s4.1 60 31)).1 60 5 = s4.1 60 31 := x_pI_kk
  generalize x_pI s4 60 5 (s4.1 60 31) = s5 at f5 v5 ⊢
  unfold f_ja6
  have f6 : x_fr [(60, 6)] s5 (x_pI s5 60 6 (s5.1 60 32)) := x_frI (p := 60) (k := 6) rfl x_fr.rf
  have v6 : (x_pI s5 60 6 (s5.1 60 32)).1 60 6 = s5.1 60 32 := x_pI_kk
  generalize x_pI s5 60 6 (s5.1 60 32) = s6 at f6 v6 ⊢
  unfold f_ja7
  have f7 : x_fr [(60, 7)] s6 (x_pI s6 60 7 (s6.1 60 33)) := x_frI (p := 60) (k := 7) rfl x_fr.rf
  have v7 : (x_pI s6 60 7 (s6.1 60 33)).1 60 7 = s6.1 60 33 := x_pI_kk
  generalize x_pI s6 60 7 (s6.1 60 33) = s7 at f7 v7 ⊢
  have fs : x_fr [(60, 1), (60, 2), (60, 3), (60, 4), (60, 5), (60, 6), (60, 7)] υ s7 := x_fr.trans (x_fr.trans (x_fr.trans (x_fr.trans (x_fr.trans (x_fr.trans (f1.su rfl) (f2.su rfl)) (f3.su rfl)) (f4.su rfl)) (f5.su rfl)) (f6.su rfl)) (f7.su rfl)
  have w1 : s7.1 60 1 = υ.1 60 27 := by rw [f7.ck 60 1 rfl, f6.ck 60 1 rfl, f5.ck 60 1 rfl, f4.ck 60 1 rfl, f3.ck 60 1 rfl, f2.ck 60 1 rfl, v1]
  have w2 : s7.1 60 2 = υ.1 60 28 := by rw [f7.ck 60 2 rfl, f6.ck 60 2 rfl, f5.ck 60 2 rfl, f4.ck 60 2 rfl, f3.ck 60 2 rfl, v2, f1.ck 60 28 rfl]
  have w3 : s7.1 60 3 = υ.1 60 29 := by rw [f7.ck 60 3 rfl, f6.ck 60 3 rfl, f5.ck 60 3 rfl, f4.ck 60 3 rfl, v3, f2.ck 60 29 rfl, f1.ck 60 29 rfl]
  have w4 : s7.1 60 4 = υ.1 60 30 := by rw [f7.ck 60 4 rfl, f6.ck 60 4 rfl, f5.ck 60 4 rfl, v4, f3.ck 60 30 rfl, f2.ck 60 30 rfl, f1.ck 60 30 rfl]
  have w5 : s7.1 60 5 = υ.1 60 31 := by rw [f7.ck 60 5 rfl, f6.ck 60 5 rfl, v5, f4.ck 60 31 rfl, f3.ck 60 31 rfl, f2.ck 60 31 rfl, f1.ck 60 31 rfl]
  have w6 : s7.1 60 6 = υ.1 60 32 := by rw [f7.ck 60 6 rfl, v6, f5.ck 60 32 rfl, f4.ck 60 32 rfl, f3.ck 60 32 rfl, f2.ck 60 32 rfl, f1.ck 60 32 rfl]
  have w7 : s7.1 60 7 = υ.1 60 33 := by rw [v7, f6.ck 60 33 rfl, f5.ck 60 33 rfl, f4.ck 60 33 rfl, f3.ck 60 33 rfl, f2.ck 60 33 rfl, f1.ck 60 33 rfl]
  unfold f_J136b
  refine x_ens.bi e_Mo_cp_69_61 ?_
  rintro c61 ⟨k61, g61⟩
  refine x_ens.bi e_Mo_cp_70_62 ?_
  rintro c62 ⟨k62, g62⟩
  refine x_ens.bi e_Mo_cp_71_63 ?_
  rintro c63 ⟨k63, g63⟩
  refine x_ens.bi e_Mo_cp_72_64 ?_
  rintro c64 ⟨k64, g64⟩
  refine x_ens.bi e_Mo_cp_75_65 ?_
  rintro c65 ⟨k65, g65⟩
  refine x_ens.bi e_Mo_cp_76_66 ?_
  rintro c66 ⟨k66, g66⟩
  refine x_ens.bi m_l288 ?_
  rintro b ⟨kb, gb⟩
  have fa : x_fr [(61, 99999), (62, 99999), (63, 99999), (64, 99999), (65, 99999), (66, 99999), (79, 99999)] s7 b.2 := x_fr.trans (x_fr.trans (x_fr.trans (x_fr.trans (x_fr.trans (x_fr.trans (g61.su rfl) (g62.su rfl)) (g63.su rfl)) (g64.su rfl)) (g65.su rfl)) (g66.su rfl)) (gb.su rfl)
  have e5 : b.2.1 60 5 = υ.1 60 31 := (fa.ck 60 5 rfl).trans w5
  rw [e5]
  have key : ∀ y : Int32, x_ens (f_Mo_scene_60_J328 5 y b.2) (fun q => q.1 = 0 ∧ (y = (if υ.1 60 31 ≤ 0 then -1 else 0) → x_mk υ q.2) ∧ x_fr [(60, 1), (60, 2), (60, 3), (60, 4), (60, 5), (60, 6), (60, 7), (60, 56), (60, 68), (60, 74), (60, 76), (60, 78), (61, 99999), (62, 99999), (63, 99999), (64, 99999), (65, 99999), (66, 99999), (79, 99999)] υ q.2) := by
    intro y
    refine m_J328.im ?_
    rintro q ⟨q1, q2, q3, q4, q5, fq⟩
    have fA := x_fr.trans (W := [(60, 56), (60, 68), (60, 74), (60, 76), (60, 78), (61, 99999), (62, 99999), (63, 99999), (64, 99999), (65, 99999), (66, 99999), (79, 99999)]) (fa.su rfl) (fq.su rfl)
    refine ⟨q1, fun hy => ⟨⟨(fA.ck 60 1 rfl).trans w1, (fA.ck 60 2 rfl).trans w2, (fA.ck 60 3 rfl).trans w3, (fA.ck 60 4 rfl).trans w4, (fA.ck 60 5 rfl).trans w5, (fA.ck 60 6 rfl).trans w6, (fA.ck 60 7 rfl).trans w7⟩, ⟨fun k hk => ?_, fun k hk => ?_, fun k hk => ?_, fun k hk => ?_, fun k hk => ?_, fun k hk => ?_⟩, ⟨fun k hk => ?_, by rw [q3, hy], fun k hk => ?_⟩, q5⟩, x_fr.trans (fs.su rfl) (fA.su rfl)⟩
    · rw [fq.ce 61 rfl, gb.ce 61 rfl, g66.ce 61 rfl, g65.ce 61 rfl, g64.ce 61 rfl, g63.ce 61 rfl, g62.ce 61 rfl, k61 k hk, fs.ce 69 rfl]
    · rw [fq.ce 62 rfl, gb.ce 62 rfl, g66.ce 62 rfl, g65.ce 62 rfl, g64.ce 62 rfl, g63.ce 62 rfl, k62 k hk, g61.ce 70 rfl, fs.ce 70 rfl]
    · rw [fq.ce 63 rfl, gb.ce 63 rfl, g66.ce 63 rfl, g65.ce 63 rfl, g64.ce 63 rfl, k63 k hk, g62.ce 71 rfl, g61.ce 71 rfl, fs.ce 71 rfl]
    · rw [fq.ce 64 rfl, gb.ce 64 rfl, g66.ce 64 rfl, g65.ce 64 rfl, k64 k hk, g63.ce 72 rfl, g62.ce 72 rfl, g61.ce 72 rfl, fs.ce 72 rfl]
    · rw [fq.ce 65 rfl, gb.ce 65 rfl, g66.ce 65 rfl, k65 k hk, g64.ce 75 rfl, g63.ce 75 rfl, g62.ce 75 rfl, g61.ce 75 rfl, fs.ce 75 rfl]
    · rw [fq.ce 66 rfl, gb.ce 66 rfl, k66 k hk, g65.ce 76 rfl, g64.ce 76 rfl, g63.ce 76 rfl, g62.ce 76 rfl, g61.ce 76 rfl, fs.ce 76 rfl]
    · rw [q2 k hk, kb k hk, g66.ce 74 rfl, g65.ce 74 rfl, g64.ce 74 rfl, g63.ce 74 rfl, g62.ce 74 rfl, g61.ce 74 rfl, fs.ce 74 rfl]
    · rw [q4 k hk, fa.ce 73 rfl, fs.ce 73 rfl]
  by_cases h9 : υ.1 60 31 ≤ 0
  · rw [if_pos h9]
    exact (key _).im (fun q hq => ⟨hq.1, hq.2.1 (by rw [if_pos h9]), hq.2.2⟩)
  · rw [if_neg h9]
    exact (key _).im (fun q hq => ⟨hq.1, hq.2.1 (by rw [if_neg h9]), hq.2.2⟩)
theorem m_bad {υ : xS} (hg : ¬ υ.1 60 16 = 0) : f_Mo_scene_60_J136 υ = some (υ.1 60 16, x_pI υ 68 0 (υ.1 68 0 + 1)) := by
  have eg : f_Mo_isGood_60 υ = some (0, υ) := by unfold f_Mo_isGood_60; rw [if_neg hg]
  unfold f_Mo_scene_60_J136
  rw [eg]
  dsimp only [Option.bind_some]
  rw [if_pos rfl, y_pI_ne (q := 60) (show 60 ≠ 68 by omega)]
