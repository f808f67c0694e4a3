theorem m_fill {m : Nat} (hm : m ≤ 3) {σ : xS} {a j : Nat} (hj : j < m) (ha : a ≤ 14) (h0 : σ.1 89 j = Int32.ofNat a) : x_ens (x_it (f_Mo_nextNumbers_60_L51 (Int32.ofNat m)) 10000 (Int32.ofNat (j + 1), σ)) (fun b => (∀ i, i < j → b.2.1 89 i = σ.1 89 i) ∧ ∀ i, j ≤ i → i < m → b.2.1 89 i = Int32.ofNat (a + (i - j))) := by
  refine x_iv.go (fun i s => s.1 = Int32.ofNat (j + 1 + i) ∧ (∀ k, k < j → s.2.1 89 k = σ.1 89 k) ∧ ∀ k, j ≤ k → k < j + 1 + i → s.2.1 89 k = Int32.ofNat (a + (k - j))) (m - j - 1) (by omega) ⟨rfl, fun _ _ => rfl, fun k h1 h2 => by
    have : k = j := by omega
    subst this
    show σ.1 89 k = _
    rw [h0, Nat.sub_self, Nat.add_zero]⟩ ?_
  rintro i ⟨u, τ⟩ hi ⟨h1, h3, h4⟩
  dsimp only at h1 h3 h4
  subst h1
  unfold f_Mo_nextNumbers_60_L51
  dsimp only
  by_cases hx2 : i = m - j - 1
  · rw [if_pos (by rw [i_le (by omega) (by omega)]; omega)]
    exact x_iv.l ⟨h3, fun k k1 k2 => h4 k k1 (by omega)⟩
  · rw [if_neg (by rw [i_le (by omega) (by omega)]; omega), show j + 1 + i = j + i + 1 by omega, i_m1', i_cl (by omega), i_cl (by omega)]
    refine x_ens.gr (by rintro (h | h) <;> first | exact i_ge (by omega) h | omega | (rw [i_cl (by omega)] at h; omega)) ?_
    refine x_ens.gr (by rintro (h | h) <;> first | exact i_ge (by omega) h | omega | (rw [i_cl (by omega)] at h; omega)) ?_
    rw [h4 (j + i) (by omega) (by omega), i_s]
    refine x_iv.r (by omega) ⟨by rw [i_s, show j + i + 1 + 1 = j + 1 + (i + 1) by omega], fun k hk => ?_, fun k k1 k2 => ?_⟩
    · dsimp only; rw [x_pI_up, sp_up_ne (by omega)]; exact h3 k hk
    · dsimp only; rw [x_pI_up]
      by_cases e : k = j + i + 1
      · subst e; rw [sp_up_eq, i_s, show a + (j + i - j) + 1 = a + (j + i + 1 - j) by omega]
      · rw [sp_up_ne e]; exact h4 k k1 (by omega)
theorem m_next_L {n m : Nat} (hn : n ≤ 13) (hm : m ≤ 3) (hmn : m ≤ n) {σ : xS} {x : Nat × Nat × Nat} (h55 : σ.1 60 69 = Int32.ofNat n) (hr : x_rw (σ.1 89) m x) (hv : x_vn n m x) : ∀ (k fu : Nat), k ≤ m → k < fu →
    x_ens (x_it (f_Mo_nextNumbers_60_L4 (Int32.ofNat m)) fu (Int32.ofNat k - 1, σ)) (fun b => b.2 = σ ∧ match sp_fx n m (sp_x x) k with
      | none => b.1 < 0
      | some j => b.1 = Int32.ofNat j)
  | k, 0, _, h => by omega
  | 0, fu + 1, _, _ => by
    refine x_nx fun P kL kR => ?_
    unfold f_Mo_nextNumbers_60_L4
    dsimp only
    rw [if_pos (by decide)]
    exact kL _ ⟨rfl, by show Int32.ofNat 0 - 1 < 0; decide⟩
  | k + 1, fu + 1, hk, h => by
    refine x_nx fun P kL kR => ?_
    have hb := hv k (by omega)
    unfold f_Mo_nextNumbers_60_L4
    dsimp only
    rw [i_m1', if_neg (i_ge (by omega)), i_cl (by omega), h55, i_subn hmn, ← Int32.ofNat_add, hr k (by omega)]
    refine x_ens.gr (by rintro (h | h) <;> first | exact i_ge (by omega) h | omega | (rw [i_cl (by omega)] at h; omega)) ?_
    by_cases hc : n - m + k ≤ sp_x x k
    · rw [if_pos ((i_ej (by omega) (by omega)).mpr (by omega))]
      refine kR _ ?_
      have := m_next_L hn hm hmn h55 hr hv k fu (by omega) (by omega)
      rw [show Int32.ofNat k + -1 = Int32.ofNat k - 1 by grind]
      rw [sp_fx, if_pos hc]
      exact this
    · rw [if_neg (fun y => hc (by have := (i_ej (by omega) (by omega)).mp y; omega))]
      refine kL _ ?_
      rw [sp_fx, if_neg hc]
      exact ⟨rfl, rfl⟩
theorem m_nextN {n m : Nat} (hn : n ≤ 13) (hm : m ≤ 3) (hmn : m ≤ n) {σ : xS} {x : Nat × Nat × Nat} (h55 : σ.1 60 69 = Int32.ofNat n) (hr : x_rw (σ.1 89) m x) (hv : x_vn n m x) : x_ens (f_Mo_nextNumbers_60 (Int32.ofNat m) σ) (fun q => match sp_nxt n m x with
      | none => q.1 = 0
      | some y => q.1 = 1 ∧ x_rw (q.2.1 89) m y) := by
  unfold f_Mo_nextNumbers_60 sp_nxt
  dsimp only
  refine x_ens.bi (m_next_L hn hm hmn h55 hr hv m 10000 (by omega) (by omega)) ?_
  rintro b ⟨hb1, hb⟩
  rw [hb1]
  unfold f_Mo_nextNumbers_60_J31
  cases hf : sp_fx n m (sp_x x) m with
  | none =>
    rw [hf] at hb
    dsimp only at hb
    rw [if_neg (i_nle.mpr hb)]
    exact x_ens.so rfl
  | some j =>
    rw [hf] at hb
    dsimp only at hb
    have k := sp_fx_lt hf
    have hvj := hv j k.1
    rw [hb, if_pos (i_0k (by omega)), i_cl (by omega), hr j k.1, i_s, i_s]
    refine x_ens.gr (by rintro (h | h) <;> first | exact i_ge (by omega) h | omega | (rw [i_cl (by omega)] at h; omega)) ?_
    refine x_ens.gr (by rintro (h | h) <;> first | exact i_ge (by omega) h | omega | (rw [i_cl (by omega)] at h; omega)) ?_
    refine x_ens.bi (m_fill hm (j := j) (a := sp_x x j + 1) (σ := x_pI σ 89 j (Int32.ofNat (sp_x x j + 1))) k.1 (by omega) x_pI_kk) ?_
    rintro b2 ⟨c1, c2⟩
    refine x_ens.so ⟨rfl, fun i hi => ?_⟩
    rw [sp_x_t (f := sp_nx (sp_x x) j) (by omega)]
    dsimp only
    unfold sp_nx
    by_cases hik : i < j
    · rw [if_pos hik, c1 i hik, x_pI_up, sp_up_ne (by omega)]; exact hr i hi
    · rw [if_neg hik]; exact c2 i (by omega) hi
theorem sp_x_0 {i : Nat} (hi : i < 3) : sp_x (0, 1, 2) i = i := by
  have : i = 0 ∨ i = 1 ∨ i = 2 := by omega
  rcases this with rfl | rfl | rfl <;> rfl
theorem x_vn0 {n m : Nat} (hm : m ≤ 3) : x_vn n m (0, 1, 2) := fun i hi => by rw [sp_x_0 (by omega)]; omega
theorem c_first {m : Nat} (hm : m ≤ 3) {σ : xS} : x_ens (x_it (f_Ch_pickFirst_55_L12 (Int32.ofNat m)) 10000 (0, σ)) (fun b => x_rw (b.2.1 57) m (0, 1, 2) ∧ x_fr [(57, 99999)] σ b.2) := by
  refine x_iv.go (fun i a => a.1 = Int32.ofNat i ∧ (∀ k, k < i → a.2.1 57 k = Int32.ofNat k) ∧ x_fr [(57, 99999)] σ a.2) m (by omega) ⟨rfl, fun k h => by omega, x_fr.rf⟩ ?_
  rintro i ⟨u, τ⟩ hi ⟨h1, h2, h3⟩
  dsimp only at h1 h2 h3
  subst h1
  unfold f_Ch_pickFirst_55_L12
  dsimp only
  by_cases hx : i = m
  · rw [if_pos (by rw [i_le (by omega) (by omega)]; omega)]
    exact x_iv.l ⟨fun k hk => by rw [sp_x_0 (by omega)]; exact h2 k (by omega), h3⟩
  · rw [if_neg (by rw [i_le (by omega) (by omega)]; omega), if_neg (show ¬ (3 : Int32) ≤ Int32.ofNat i from fun h => by have := (i_le (j := 3) (by omega) (by omega)).mp h; omega), i_cl (by omega)]
    refine x_ens.gr (by rintro (h | h) <;> first | exact i_ge (by omega) h | omega | (rw [i_cl (by omega)] at h; omega)) ?_
    refine x_iv.r (by omega) ⟨i_s, fun k hk => ?_, x_frI (p := 57) rfl h3⟩
    dsimp only
    rw [x_pI_up]
    by_cases e : k = i
    · subst e; rw [sp_up_eq]
    · rw [sp_up_ne e]; exact h2 k (by omega)
theorem m_first {m : Nat} (hm : m ≤ 3) {σ : xS} {w : Int32} : x_ens (x_it (f_Mo_marks_60_L94 (Int32.ofNat m) w) 10000 (0, σ)) (fun b => x_rw (b.2.1 89) m (0, 1, 2) ∧ x_fr [(89, 99999)] σ b.2) := by
  refine x_iv.go (fun i a => a.1 = Int32.ofNat i ∧ (∀ k, k < i → a.2.1 89 k = Int32.ofNat k) ∧ x_fr [(89, 99999)] σ a.2) m (by omega) ⟨rfl, fun k h => by omega, x_fr.rf⟩ ?_
  rintro i ⟨u, τ⟩ hi ⟨h1, h2, h3⟩
  dsimp only at h1 h2 h3
  subst h1
  unfold f_Mo_marks_60_L94
  dsimp only
  by_cases hx : i = m
  · rw [if_pos (by rw [i_le (by omega) (by omega)]; omega)]
    exact x_iv.l ⟨fun k hk => by rw [sp_x_0 (by omega)]; exact h2 k (by omega), h3⟩
  · rw [if_neg (by rw [i_le (by omega) (by omega)]; omega), i_cl (by omega)]
    refine x_ens.gr (by rintro (h | h) <;> first | exact i_ge (by omega) h | omega | (rw [i_cl (by omega)] at h; omega)) ?_
    refine x_iv.r (by omega) ⟨i_s, fun k hk => ?_, x_frI (p := 89) rfl h3⟩
    dsimp only
    rw [x_pI_up]
    by_cases e : k = i
    · subst e; rw [sp_up_eq]
    · rw [sp_up_ne e]; exact h2 k (by omega)
def sp_pi (l : List Int32) (x : Nat × Nat × Nat) (i : Nat) : Int32 := l.getD (sp_x x i) 0
theorem e_picked {σ : xS} {l : List Int32} {m : Nat} {x : Nat × Nat × Nat} (hm : m ≤ 3) (hl : l.length ≤ 13) (h : x_li (σ.1 55 1) (σ.1 56) l) (hr : x_rw (σ.1 57) m x) (hx : ∀ i, i < m → sp_x x i < l.length) {i : Nat} (hi : i < m) : f_Ch_pickedInches_55 (Int32.ofNat i) σ = some (sp_pi l x i, σ) := by
  have hb := hx i hi
  apply x_ens.eq
  unfold f_Ch_pickedInches_55 f_Ch_pickedInches_55_J19
  rw [if_neg (i_ge (by omega)), if_neg (show ¬ (3 : Int32) ≤ Int32.ofNat i from fun h => by have := (i_le (j := 3) (by omega) (by omega)).mp h; omega), i_cl (by omega), hr i hi]
  refine x_ens.gr (by rintro (h | h) <;> first | exact i_ge (by omega) h | omega | (rw [i_cl (by omega)] at h; omega)) ?_
  rw [if_neg (i_ge (by omega)), if_neg (by rw [i_le (by omega) (by omega)]; omega), i_cl (by omega), h.2 _ hb]
  refine x_ens.gr (by rintro (h | h) <;> first | exact i_ge (by omega) h | omega | (rw [i_cl (by omega)] at h; omega)) ?_
  exact x_ens.so rfl
theorem c_put {σ : xS} {l : List Int32} {m : Nat} {x : Nat × Nat × Nat} (hm : m ≤ 3) (hl : l.length ≤ 13) (h : x_li (σ.1 55 1) (σ.1 56) l) (hr : x_rw (σ.1 57) m x) (hx : ∀ i, i < m → sp_x x i < l.length) : x_ens (f_Ch_putPicked_55_49 (Int32.ofNat m) σ) (fun q => q.2.1 49 1 = Int32.ofNat m ∧ (∀ i, i < m → q.2.1 50 (6 + i) = sp_pi l x i) ∧ ∀ k, k < 6 ∨ 6 + m ≤ k → q.2.1 50 k = σ.1 50 k) := by
  unfold f_Ch_putPicked_55_49
  dsimp only
  refine x_ens.bi (P := fun b => b.2.1 49 1 = Int32.ofNat m ∧ (∀ i, i < m → b.2.1 50 (6 + i) = sp_pi l x i) ∧ ∀ k, k < 6 ∨ 6 + m ≤ k → b.2.1 50 k = σ.1 50 k) ?_ (fun b hb => x_ens.so hb)
  refine x_iv.go (fun i a => a.1 = Int32.ofNat i ∧ x_fr [(50, 99999)] (x_pI σ 49 1 (Int32.ofNat m)) a.2 ∧ (∀ k, k < i → a.2.1 50 (6 + k) = sp_pi l x k) ∧ ∀ k, k < 6 ∨ 6 + m ≤ k → a.2.1 50 k = σ.1 50 k) m (by omega) ⟨rfl, x_fr.rf, fun k h => by omega, fun k _ => by dsimp only; rw [y_pI_ne (by omega)]⟩ ?_
  rintro i ⟨u, τ⟩ hi ⟨h1, f2, h3, h4⟩
  dsimp only at h1 f2 h3 h4
  subst h1
  unfold f_Ch_putPicked_55_49_L7
  dsimp only
  by_cases hx2 : i = m
  · rw [if_pos (by rw [i_le (by omega) (by omega)]; omega)]
    exact x_iv.l ⟨by rw [f2.ck 49 1 rfl]; exact x_pI_kk, fun k hk => h3 k (by omega), h4⟩
  · rw [if_neg (by rw [i_le (by omega) (by omega)]; omega), if_neg (show ¬ (6 : Int32) ≤ Int32.ofNat i from fun h => by have := (i_le (j := 6) (by omega) (by omega)).mp h; omega), e_picked (l := l) (x := x) hm hl (by rw [f2.ce 55 rfl, f2.ce 56 rfl, y_pI_ne (by omega), y_pI_ne (by omega)]; exact h) (by rw [f2.ce 57 rfl, y_pI_ne (by omega)]; exact hr) hx (show i < m by omega)]
    dsimp only [Option.bind_some]
    rw [i_6, i_cl (by omega)]
    refine x_ens.gr (by rintro (h | h) <;> first | exact i_ge (by omega) h | omega | (rw [i_cl (by omega)] at h; omega)) ?_
    refine x_iv.r (by omega) ⟨i_s, x_frI (p := 50) rfl f2, fun k hk => ?_, fun k hk => ?_⟩
    · dsimp only
      rw [x_pI_up]
      by_cases e : k = i
      · subst e; rw [sp_up_eq]
      · rw [sp_up_ne (by omega)]; exact h3 k (by omega)
    · dsimp only
      rw [x_pI_up, sp_up_ne (by omega)]; exact h4 k hk
theorem c_keep {σ : xS} {l : List Int32} {m : Nat} {x : Nat × Nat × Nat} (hm : m ≤ 3) (hl : l.length ≤ 13) (h : x_li (σ.1 55 1) (σ.1 56) l) (hr : x_rw (σ.1 57) m x) (hx : ∀ i, i < m → sp_x x i < l.length) : x_ens (f_Ch_keepPicked_55 (Int32.ofNat m) σ) (fun q => q.2.1 55 4 = Int32.ofNat m ∧ ∀ i, i < m → q.2.1 58 i = sp_pi l x i) := by
  unfold f_Ch_keepPicked_55
  dsimp only
  refine x_ens.bi (P := fun b => b.2.1 55 4 = Int32.ofNat m ∧ ∀ i, i < m → b.2.1 58 i = sp_pi l x i) ?_ (fun b hb => x_ens.so hb)
  refine x_iv.go (fun i a => a.1 = Int32.ofNat i ∧ x_fr [(58, 99999)] (x_pI σ 55 4 (Int32.ofNat m)) a.2 ∧ (∀ k, k < i → a.2.1 58 k = sp_pi l x k)) m (by omega) ⟨rfl, x_fr.rf, fun k h => by omega⟩ ?_
  rintro i ⟨u, τ⟩ hi ⟨h1, f2, h3⟩
  dsimp only at h1 f2 h3
  subst h1
  unfold f_Ch_keepPicked_55_L7
  dsimp only
  by_cases hx2 : i = m
  · rw [if_pos (by rw [i_le (by omega) (by omega)]; omega)]
    exact x_iv.l ⟨by rw [f2.ck 55 4 rfl]; exact x_pI_kk, fun k hk => h3 k (by omega)⟩
  · rw [if_neg (by rw [i_le (by omega) (by omega)]; omega), if_neg (show ¬ (3 : Int32) ≤ Int32.ofNat i from fun h => by have := (i_le (j := 3) (by omega) (by omega)).mp h; omega), e_picked (l := l) (x := x) hm hl (by rw [f2.ck 55 1 rfl, f2.ce 56 rfl, x_pI_kn (by omega), y_pI_ne (by omega)]; exact h) (by rw [f2.ce 57 rfl, y_pI_ne (by omega)]; exact hr) hx (show i < m by omega)]
    dsimp only [Option.bind_some]
    rw [i_cl (by omega)]
    refine x_ens.gr (by rintro (h | h) <;> first | exact i_ge (by omega) h | omega | (rw [i_cl (by omega)] at h; omega)) ?_
    refine x_iv.r (by omega) ⟨i_s, x_frI (p := 58) rfl f2, fun k hk => ?_⟩
    dsimp only
    rw [x_pI_up]
    by_cases e : k = i
    · subst e; rw [sp_up_eq]
    · rw [sp_up_ne e]; exact h3 k (by omega)
theorem m_put {σ : xS} {l : List Int32} {m : Nat} {x : Nat × Nat × Nat} {w z : Int32} (hm : m ≤ 3) (hl : l.length ≤ 13) (h : x_li (σ.1 60 69) (σ.1 88) l) (hr : x_rw (σ.1 89) m x) (hx : ∀ i, i < m → sp_x x i < l.length) : x_ens (x_it (f_Mo_marks_60_L125 (Int32.ofNat m) w z) 10000 (0, σ)) (fun b => x_fr [(79, 99999)] σ b.2 ∧ (∀ i, i < m → b.2.1 79 (6 + i) = sp_pi l x i) ∧ ∀ k, k < 6 ∨ 6 + m ≤ k → b.2.1 79 k = σ.1 79 k) := by
  refine x_iv.go (fun i a => a.1 = Int32.ofNat i ∧ x_fr [(79, 99999)] σ a.2 ∧ (∀ k, k < i → a.2.1 79 (6 + k) = sp_pi l x k) ∧ ∀ k, k < 6 ∨ 6 + m ≤ k → a.2.1 79 k = σ.1 79 k) m (by omega) ⟨rfl, x_fr.rf, fun k h => by omega, fun k _ => rfl⟩ ?_
  rintro i ⟨u, τ⟩ hi ⟨h1, f2, h3, h4⟩
  dsimp only at h1 f2 h3 h4
  subst h1
  unfold f_Mo_marks_60_L125
  dsimp only
  by_cases hx2 : i = m
  · rw [if_pos (by rw [i_le (by omega) (by omega)]; omega)]
    exact x_iv.l ⟨f2, fun k hk => h3 k (by omega), h4⟩
  · have hb := hx i (by omega)
    rw [if_neg (by rw [i_le (by omega) (by omega)]; omega), i_cl (by omega), f2.ce 89 rfl, f2.ce 88 rfl, hr i (by omega), i_cl (k := sp_x x i) (by omega), h.2 _ hb, i_6, i_cl (by omega)]
    refine x_ens.gr (by rintro (h | h) <;> first | exact i_ge (by omega) h | omega | (rw [i_cl (by omega)] at h; omega)) ?_
    refine x_ens.gr (by rintro (h | h) <;> first | exact i_ge (by omega) h | omega | (rw [i_cl (by omega)] at h; omega)) ?_
    refine x_ens.gr (by rintro (h | h) <;> first | exact i_ge (by omega) h | omega | (rw [i_cl (by omega)] at h; omega)) ?_
    refine x_iv.r (by omega) ⟨i_s, x_frI (p := 79) rfl f2, fun k hk => ?_, fun k hk => ?_⟩
    · dsimp only
      rw [x_pI_up]
      by_cases e : k = i
      · subst e; rw [sp_up_eq]; rfl
      · rw [sp_up_ne (by omega)]; exact h3 k (by omega)
    · dsimp only
      rw [x_pI_up, sp_up_ne (by omega)]; exact h4 k hk
theorem m_keep {σ : xS} {l : List Int32} {m : Nat} {x : Nat × Nat × Nat} {w z : Int32} (hm : m ≤ 3) (hl : l.length ≤ 13) (h : x_li (σ.1 60 69) (σ.1 88) l) (hr : x_rw (σ.1 89) m x) (hx : ∀ i, i < m → sp_x x i < l.length) : x_ens (x_it (f_Mo_marks_60_L177 (Int32.ofNat m) w z) 10000 (0, σ)) (fun b => x_fr [(87, 99999)] σ b.2 ∧ ∀ i, i < m → b.2.1 87 i = sp_pi l x i) := by
  refine x_iv.go (fun i a => a.1 = Int32.ofNat i ∧ x_fr [(87, 99999)] σ a.2 ∧ (∀ k, k < i → a.2.1 87 k = sp_pi l x k)) m (by omega) ⟨rfl, x_fr.rf, fun k h => by omega⟩ ?_
  rintro i ⟨u, τ⟩ hi ⟨h1, f2, h3⟩
  dsimp only at h1 f2 h3
  subst h1
  unfold f_Mo_marks_60_L177
  dsimp only
  by_cases hx2 : i = m
  · rw [if_pos (by rw [i_le (by omega) (by omega)]; omega)]
    exact x_iv.l ⟨f2, fun k hk => h3 k (by omega)⟩
  · have hb := hx i (by omega)
    rw [if_neg (by rw [i_le (by omega) (by omega)]; omega), i_cl (by omega), f2.ce 89 rfl, f2.ce 88 rfl, hr i (by omega), i_cl (k := sp_x x i) (by omega), h.2 _ hb]
    refine x_ens.gr (by rintro (h | h) <;> first | exact i_ge (by omega) h | omega | (rw [i_cl (by omega)] at h; omega)) ?_
    refine x_ens.gr (by rintro (h | h) <;> first | exact i_ge (by omega) h | omega | (rw [i_cl (by omega)] at h; omega)) ?_
    refine x_ens.gr (by rintro (h | h) <;> first | exact i_ge (by omega) h | omega | (rw [i_cl (by omega)] at h; omega)) ?_
    refine x_iv.r (by omega) ⟨i_s, x_frI (p := 87) rfl f2, fun k hk => ?_⟩
    dsimp only
    rw [x_pI_up]
    by_cases e : k = i
    · subst e; rw [sp_up_eq]; rfl
    · rw [sp_up_ne e]; exact h3 k (by omega)
