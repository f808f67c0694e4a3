theorem o_see (t v : Int32) : x_OP (w_see t v) (f_Mo_see_60 t v) := by
  rintro σ ⟨C, B, F⟩
  have U := B.2.2.2.1
  have G := B.1
  obtain ⟨n, hn, e35, e60, hsn⟩ := U.sn
  have cl : ∀ k, f_RH_see_0 t v σ = k → w_see t v σ = k.bind fun q => match q.1 with | .inl v => some ((0 : Int32), x_pL q.2 96 0 v.toInt64) | .inr k => if k = 2 then some ((1 : Int32), q.2) else none := fun k e => by unfold w_see; rw [e]; rfl
  by_cases ht : 0 ≤ t ∧ t ≤ C 7 4
  · by_cases hn2 : n < 8
    · let w : Int32 := if v = 0 then 0 else 1
      let σ1 := x_pI (x_pI (x_pI σ 39 n t) 40 n w) 35 6 (Int32.ofNat (n + 1))
      let σ3 := x_pL σ1 96 0 (Int32.ofNat (n + 1)).toInt64
      let σ2 := x_pI (x_pI (x_pI (x_pI σ3 60 0 0) 90 (2 * n) t) 90 (2 * n + 1) w) 60 74 (Int32.ofNat (n + 1))
      have f3 : x_fr [(35, 6), (39, 99999), (40, 99999), (96, 99999)] σ σ3 := x_frL (p := 96) (k := 0) rfl (x_frI (p := 35) (k := 6) rfl (x_frI (p := 40) rfl (x_frI (p := 39) rfl x_fr.rf)))
      have f : x_fr [(35, 6), (39, 99999), (40, 99999), (60, 0), (60, 74), (90, 99999), (96, 99999)] σ σ2 := x_frI (p := 60) (k := 74) rfl (x_frI (p := 90) rfl (x_frI (p := 90) rfl (x_frI (p := 60) (k := 0) rfl (x_fr.su f3 rfl))))
      have t6 : σ2.1 35 6 = Int32.ofNat (n + 1) := rfl
      have t39 : ∀ j, σ2.1 39 j = if j = n then t else σ.1 39 j := fun j => by
        show (x_pI σ 39 n t).1 39 j = _
        rw [x_pI_at]
      have t40 : ∀ j, σ2.1 40 j = if j = n then w else σ.1 40 j := fun j => by
        show (x_pI (x_pI σ 39 n t) 40 n w).1 40 j = _
        rw [x_pI_at, y_pI_ne (by omega)]
      have t90 : ∀ j, σ2.1 90 j = if j = 2 * n + 1 then w else if j = 2 * n then t else σ.1 90 j := fun j => by
        show (x_pI (x_pI (x_pI σ3 60 0 0) 90 (2 * n) t) 90 (2 * n + 1) w).1 90 j = _
        rw [x_pI_at, x_pI_at]; rfl
      have t74 : σ2.1 60 74 = Int32.ofNat (n + 1) := by show (x_pI _ 60 74 _).1 60 74 = _; rw [x_pI_at]; rfl
      refine ⟨0, σ3, Int32.ofNat (n + 1), σ2, ?_, ?_, rfl, fun _ => x_pL_at (σ := σ1) (v := (Int32.ofNat (n + 1)).toInt64), C, B.re (x_fr.su f rfl) (U.re (f.ce 36 rfl) (f.ce 79 rfl) (f.ck 35 3 rfl) (f.ce 37 rfl) (f.ce 38 rfl) (f.ce 81 rfl) (f.ck 60 56 rfl) ⟨by rw [t74, t6], ?_, ?_, ?_⟩ ?_) ?_, F.of f rfl rfl⟩
      · have : f_RH_see_0 t v σ = some (.inl (Int32.ofNat (n + 1)), σ1) := by
          unfold f_RH_see_0
          rw [e_RH_isTenth B.2.1, if_pos ht]
          dsimp only [Option.bind_some]
          rw [if_neg (by decide)]
          have : f_Se_note_35 t v σ = some (1, σ1) := by
            apply x_ens.eq
            unfold f_Se_note_35
            have g1 : ∀ {τ : xS} {k : Nat} {w : Int32}, (x_pI τ 39 k w).1 35 = τ.1 35 := y_pI_ne (by omega)
            have g2 : ∀ {τ : xS} {k : Nat} {w : Int32}, (x_pI τ 40 k w).1 35 = τ.1 35 := y_pI_ne (by omega)
            have em : (Int32.ofNat n).toNatClampNeg = n := i_cl (by omega)
            simp only [g1, g2, e35, em, i_s]
            rw [if_pos (show Int32.ofNat n < (8 : Int32) from (i_lt (k := 8) (by omega) (by omega)).mpr hn2)]
            refine x_ens.gr (by rintro (h | h) <;> first | exact i_ge (by omega) h | omega | (rw [i_cl (by omega)] at h; omega)) ?_
            by_cases hv : v = 0
            · have hw : w = 0 := if_pos hv
              rw [if_pos hv]
              refine x_ens.gr (by rintro (h | h) <;> first | exact i_ge (by omega) h | omega | (rw [i_cl (by omega)] at h; omega)) ?_
              exact x_ens.so (by show _ = (1, x_pI (x_pI (x_pI σ 39 n t) 40 n w) 35 6 _); rw [hw])
            · have hw : w = 1 := if_neg hv
              rw [if_neg hv]
              refine x_ens.gr (by rintro (h | h) <;> first | exact i_ge (by omega) h | omega | (rw [i_cl (by omega)] at h; omega)) ?_
              exact x_ens.so (by show _ = (1, x_pI (x_pI (x_pI σ 39 n t) 40 n w) 35 6 _); rw [hw])
          rw [this]
          dsimp only [Option.bind_some]
          rw [if_neg (by decide)]; rfl
        rw [cl _ this]; rfl
      · apply x_ens.eq
        unfold f_Mo_see_60
        dsimp only
        have B3 : x_M C (x_pI σ3 60 0 0) := B.2.2.1.fr (W := [(35, 6), (39, 99999), (40, 99999), (60, 0), (96, 99999)]) (x_frI (p := 60) (k := 0) rfl (x_fr.su f3 rfl)) rfl rfl rfl rfl rfl rfl rfl
        rw [e_Mo_isTenth G B3 x_60, if_pos ht]
        dsimp only [Option.bind_some]
        rw [if_neg (by decide)]
        have g0 : (x_pI σ3 60 0 0).1 60 74 = Int32.ofNat n := e60
        have g : ∀ {τ : xS} {k : Nat} {w : Int32}, (x_pI τ 90 k w).1 60 = τ.1 60 := y_pI_ne (by omega)
        have g4 : ∀ {τ : xS} {w : Int32}, (x_pI τ 60 74 w).1 60 74 = w := by intro τ w; rw [x_pI_at]; rfl
        have em : (Int32.ofNat (2 * n)).toNatClampNeg = 2 * n := i_cl (by omega)
        have em1 : (Int32.ofNat (2 * n + 1)).toNatClampNeg = 2 * n + 1 := i_cl (by omega)
        simp only [g, g0, g4, i_2m, em, em1, i_s]
        rw [if_neg (show ¬ Int32.ofNat n = (8 : Int32) from fun x => by have := (i_ej (k := 8) (by omega) (by omega)).mp x; omega)]
        refine x_ens.gr (by rintro (h | h) <;> first | exact i_ge (by omega) h | omega | (rw [i_cl (by omega)] at h; omega)) ?_
        by_cases hv : v = 0
        · have hw : w = 0 := if_pos hv
          rw [if_pos hv]
          refine x_ens.gr (by rintro (h | h) <;> first | exact i_ge (by omega) h | omega | (rw [i_cl (by omega)] at h; omega)) ?_
          exact x_ens.so (by show _ = (Int32.ofNat (n + 1), x_pI (x_pI (x_pI (x_pI σ3 60 0 0) 90 (2 * n) t) 90 (2 * n + 1) w) 60 74 _); rw [hw])
        · have hw : w = 1 := if_neg hv
          rw [if_neg hv]
          refine x_ens.gr (by rintro (h | h) <;> first | exact i_ge (by omega) h | omega | (rw [i_cl (by omega)] at h; omega)) ?_
          exact x_ens.so (by show _ = (Int32.ofNat (n + 1), x_pI (x_pI (x_pI (x_pI σ3 60 0 0) 90 (2 * n) t) 90 (2 * n + 1) w) 60 74 _); rw [hw])
      · rw [t6]; exact (i_nb (b := 8) (by omega) (by omega)).1
      · rw [t6]; exact (i_nb (b := 8) (by omega) (by omega)).2
      · intro i hi
        rw [t6, i_cl (by omega)] at hi
        rw [t39, t40, t90, t90, if_neg (show ¬ 2 * i = 2 * n + 1 by omega)]
        by_cases h : i = n
        · subst h
          rw [if_pos rfl, if_pos rfl, if_pos rfl, if_pos rfl]
          exact ⟨rfl, rfl, ht⟩
        · rw [if_neg h, if_neg h, if_neg (by omega), if_neg (by omega), if_neg (by omega)]
          exact hsn i (by omega)
      · rw [f.ck 60 76 rfl, f.ck 35 8 rfl, f.ce 91 rfl, f.ce 41 rfl]
        exact U.2.2.2.2.2
      · intro k hk
        rw [f.ce 59 rfl, f.ce 68 rfl]; exact B.2.2.2.2.2.2.2.2.1 k hk
    · have e8 : n = 8 := by omega
      subst e8
      obtain ⟨B2, F2⟩ := x_ref (k := 2) (τ := x_pL (x_pI σ 59 2 (σ.1 59 2 + 1)) 96 0 (-1 : Int32).toInt64) B F (by omega) x_pL_fr
      refine ⟨0, x_pL (x_pI σ 59 2 (σ.1 59 2 + 1)) 96 0 (-1 : Int32).toInt64, -1, _, ?_, ?_, ?_, fun _ => ?_, C, B2, F2⟩
      · have : f_RH_see_0 t v σ = some (.inl (-1), x_pI σ 59 2 (σ.1 59 2 + 1)) := by
          unfold f_RH_see_0
          rw [e_RH_isTenth B.2.1, if_pos ht]
          dsimp only [Option.bind_some]
          rw [if_neg (by decide)]
          have : f_Se_note_35 t v σ = some (0, σ) := by
            unfold f_Se_note_35
            rw [e35, if_neg (by decide)]
          rw [this]
          dsimp only [Option.bind_some]
          rw [if_pos rfl]
        rw [cl _ this]; rfl
      · unfold f_Mo_see_60
        dsimp only
        have B3 : x_M C (x_pI (x_pL (x_pI σ 59 2 (σ.1 59 2 + 1)) 96 0 (-1 : Int32).toInt64) 60 0 0) := B.2.2.1.fr (W := [(59, 99999), (60, 0), (96, 99999)]) (x_frI (p := 60) (k := 0) rfl (x_frL (p := 96) (k := 0) rfl (x_frI (p := 59) (k := 2) rfl x_fr.rf))) rfl rfl rfl rfl rfl rfl rfl
        rw [e_Mo_isTenth G B3 x_60, if_pos ht]
        dsimp only [Option.bind_some]
        have g0 : (x_pI (x_pL (x_pI σ 59 2 (σ.1 59 2 + 1)) 96 0 (-1 : Int32).toInt64) 60 0 0).1 60 74 = Int32.ofNat 8 := e60
        rw [if_neg (by decide), g0, if_pos (show Int32.ofNat 8 = 8 by decide)]
        exact x_bs (e_Mo_refuses (k := 2) (by omega))
      · rw [y_pI_ne (by omega)]; exact x_60
      · show (x_pL (x_pI σ 59 2 (σ.1 59 2 + 1)) 96 0 (-1 : Int32).toInt64).2 96 0 = _
        rw [x_pL_at]
  · refine ⟨1, σ, 0, x_pI σ 60 0 1, ?_, ?_, x_60, fun h => absurd h (by decide), C, B.t0, F.fr (W := [(60, 0)]) (x_frI (p := 60) (k := 0) rfl x_fr.rf) rfl⟩
    · unfold w_see f_RH_see_0
      rw [e_RH_isTenth B.2.1, if_neg ht]
      rfl
    · unfold f_Mo_see_60
      dsimp only
      rw [e_Mo_isTenth G (B.t0 (v := 0)).2.2.1 x_60, if_neg ht]
      dsimp only [Option.bind_some]
      rw [if_pos rfl, x_pI_pI]
theorem e_Mo_cp_79_92 {σ : xS} : x_ens (f_Mo_copies_60_79_92 σ) (fun q => (∀ k, k < 12 → q.2.1 92 k = σ.1 79 k) ∧ x_fr [(92, 99999)] σ q.2) := by
  unfold f_Mo_copies_60_79_92
  refine x_ens.bi (P := fun b => (∀ k, k < 12 → b.2.1 92 k = σ.1 79 k) ∧ x_fr [(92, 99999)] σ b.2) ?_ (fun b hb => x_ens.so hb)
  refine x_iv.go (fun i a => a.1 = Int32.ofNat i ∧ (∀ k, k < i → a.2.1 92 k = σ.1 79 k) ∧ x_fr [(92, 99999)] σ a.2) 12 (by omega) ⟨rfl, fun k hk => by omega, x_fr.rf⟩ ?_
  rintro i ⟨v, τ⟩ hi ⟨h1, h2, h3⟩
  dsimp only at h1 h2 h3
  subst h1
  unfold f_Mo_copies_60_79_92_L2
  dsimp only
  by_cases hx : i = 12
  · subst hx
    rw [if_pos (by decide)]
    exact x_iv.l ⟨h2, h3⟩
  · rw [if_neg (fun h => by have := (i_le (by omega) (by omega)).mp h; omega), i_cl (by omega)]
    refine x_ens.gr (by rintro (h | h) <;> first | exact i_ge (by omega) h | omega | (rw [i_cl (by omega)] at h; omega)) ?_
    refine x_ens.gr (by rintro (h | h) <;> first | exact i_ge (by omega) h | omega | (rw [i_cl (by omega)] at h; omega)) ?_
    refine x_iv.r (by omega) ⟨i_s, fun k hk => ?_, x_frI (p := 92) rfl h3⟩
    dsimp only
    rw [x_pI_at]
    dsimp only
    by_cases h : k = i
    · subst h; rw [if_pos rfl, h3.ce 79 rfl]
    · rw [if_neg h]; exact h2 k (by omega)
theorem e_Mo_cp_81_93 {σ : xS} : x_ens (f_Mo_copies_60_81_93 σ) (fun q => (∀ k, k < 80 → q.2.1 93 k = σ.1 81 k) ∧ x_fr [(93, 99999)] σ q.2) := by
  unfold f_Mo_copies_60_81_93
  refine x_ens.bi (P := fun b => (∀ k, k < 80 → b.2.1 93 k = σ.1 81 k) ∧ x_fr [(93, 99999)] σ b.2) ?_ (fun b hb => x_ens.so hb)
  refine x_iv.go (fun i a => a.1 = Int32.ofNat i ∧ (∀ k, k < i → a.2.1 93 k = σ.1 81 k) ∧ x_fr [(93, 99999)] σ a.2) 80 (by omega) ⟨rfl, fun k hk => by omega, x_fr.rf⟩ ?_
  rintro i ⟨v, τ⟩ hi ⟨h1, h2, h3⟩
  dsimp only at h1 h2 h3
  subst h1
  unfold f_Mo_copies_60_81_93_L2
  dsimp only
  by_cases hx : i = 80
  · subst hx
    rw [if_pos (by decide)]
    exact x_iv.l ⟨h2, h3⟩
  · rw [if_neg (fun h => by have := (i_le (by omega) (by omega)).mp h; omega), i_cl (by omega)]
    refine x_ens.gr (by rintro (h | h) <;> first | exact i_ge (by omega) h | omega | (rw [i_cl (by omega)] at h; omega)) ?_
    refine x_ens.gr (by rintro (h | h) <;> first | exact i_ge (by omega) h | omega | (rw [i_cl (by omega)] at h; omega)) ?_
    refine x_iv.r (by omega) ⟨i_s, fun k hk => ?_, x_frI (p := 93) rfl h3⟩
    dsimp only
    rw [x_pI_at]
    dsimp only
    by_cases h : k = i
    · subst h; rw [if_pos rfl, h3.ce 81 rfl]
    · rw [if_neg h]; exact h2 k (by omega)
theorem e_Mo_cp_90_94 {σ : xS} : x_ens (f_Mo_copies_60_90_94 σ) (fun q => (∀ k, k < 16 → q.2.1 94 k = σ.1 90 k) ∧ x_fr [(94, 99999)] σ q.2) := by
  unfold f_Mo_copies_60_90_94
  refine x_ens.bi (P := fun b => (∀ k, k < 16 → b.2.1 94 k = σ.1 90 k) ∧ x_fr [(94, 99999)] σ b.2) ?_ (fun b hb => x_ens.so hb)
  refine x_iv.go (fun i a => a.1 = Int32.ofNat i ∧ (∀ k, k < i → a.2.1 94 k = σ.1 90 k) ∧ x_fr [(94, 99999)] σ a.2) 16 (by omega) ⟨rfl, fun k hk => by omega, x_fr.rf⟩ ?_
  rintro i ⟨v, τ⟩ hi ⟨h1, h2, h3⟩
  dsimp only at h1 h2 h3
  subst h1
  unfold f_Mo_copies_60_90_94_L2
  dsimp only
  by_cases hx : i = 16
  · subst hx
    rw [if_pos (by decide)]
    exact x_iv.l ⟨h2, h3⟩
  · rw [if_neg (fun h => by have := (i_le (by omega) (by omega)).mp h; omega), i_cl (by omega)]
    refine x_ens.gr (by rintro (h | h) <;> first | exact i_ge (by omega) h | omega | (rw [i_cl (by omega)] at h; omega)) ?_
    refine x_ens.gr (by rintro (h | h) <;> first | exact i_ge (by omega) h | omega | (rw [i_cl (by omega)] at h; omega)) ?_
    refine x_iv.r (by omega) ⟨i_s, fun k hk => ?_, x_frI (p := 94) rfl h3⟩
    dsimp only
    rw [x_pI_at]
    dsimp only
    by_cases h : k = i
    · subst h; rw [if_pos rfl, h3.ce 90 rfl]
    · rw [if_neg h]; exact h2 k (by omega)
theorem e_Mo_cp_91_95 {σ : xS} : x_ens (f_Mo_copies_60_91_95 σ) (fun q => (∀ k, k < 16 → q.2.1 95 k = σ.1 91 k) ∧ x_fr [(95, 99999)] σ q.2) := by
  unfold f_Mo_copies_60_91_95
  refine x_ens.bi (P := fun b => (∀ k, k < 16 → b.2.1 95 k = σ.1 91 k) ∧ x_fr [(95, 99999)] σ b.2) ?_ (fun b hb => x_ens.so hb)
  refine x_iv.go (fun i a => a.1 = Int32.ofNat i ∧ (∀ k, k < i → a.2.1 95 k = σ.1 91 k) ∧ x_fr [(95, 99999)] σ a.2) 16 (by omega) ⟨rfl, fun k hk => by omega, x_fr.rf⟩ ?_
  rintro i ⟨v, τ⟩ hi ⟨h1, h2, h3⟩
  dsimp only at h1 h2 h3
  subst h1
  unfold f_Mo_copies_60_91_95_L2
  dsimp only
  by_cases hx : i = 16
  · subst hx
    rw [if_pos (by decide)]
    exact x_iv.l ⟨h2, h3⟩
  · rw [if_neg (fun h => by have := (i_le (by omega) (by omega)).mp h; omega), i_cl (by omega)]
    refine x_ens.gr (by rintro (h | h) <;> first | exact i_ge (by omega) h | omega | (rw [i_cl (by omega)] at h; omega)) ?_
    refine x_ens.gr (by rintro (h | h) <;> first | exact i_ge (by omega) h | omega | (rw [i_cl (by omega)] at h; omega)) ?_
    refine x_iv.r (by omega) ⟨i_s, fun k hk => ?_, x_frI (p := 95) rfl h3⟩
    dsimp only
    rw [x_pI_at]
    dsimp only
    by_cases h : k = i
    · subst h; rw [if_pos rfl, h3.ce 91 rfl]
    · rw [if_neg h]; exact h2 k (by omega)
theorem e_Mo_cp_92_79 {σ : xS} : x_ens (f_Mo_copies_60_92_79 σ) (fun q => (∀ k, k < 12 → q.2.1 79 k = σ.1 92 k) ∧ x_fr [(79, 99999)] σ q.2) := by
  unfold f_Mo_copies_60_92_79
  refine x_ens.bi (P := fun b => (∀ k, k < 12 → b.2.1 79 k = σ.1 92 k) ∧ x_fr [(79, 99999)] σ b.2) ?_ (fun b hb => x_ens.so hb)
  refine x_iv.go (fun i a => a.1 = Int32.ofNat i ∧ (∀ k, k < i → a.2.1 79 k = σ.1 92 k) ∧ x_fr [(79, 99999)] σ a.2) 12 (by omega) ⟨rfl, fun k hk => by omega, x_fr.rf⟩ ?_
  rintro i ⟨v, τ⟩ hi ⟨h1, h2, h3⟩
  dsimp only at h1 h2 h3
  subst h1
  unfold f_Mo_copies_60_92_79_L2
  dsimp only
  by_cases hx : i = 12
  · subst hx
    rw [if_pos (by decide)]
    exact x_iv.l ⟨h2, h3⟩
  · rw [if_neg (fun h => by have := (i_le (by omega) (by omega)).mp h; omega), i_cl (by omega)]
    refine x_ens.gr (by rintro (h | h) <;> first | exact i_ge (by omega) h | omega | (rw [i_cl (by omega)] at h; omega)) ?_
    refine x_ens.gr (by rintro (h | h) <;> first | exact i_ge (by omega) h | omega | (rw [i_cl (by omega)] at h; omega)) ?_
    refine x_iv.r (by omega) ⟨i_s, fun k hk => ?_, x_frI (p := 79) rfl h3⟩
    dsimp only
    rw [x_pI_at]
    dsimp only
    by_cases h : k = i
    · subst h; rw [if_pos rfl, h3.ce 92 rfl]
    · rw [if_neg h]; exact h2 k (by omega)
theorem e_Mo_cp_93_81 {σ : xS} : x_ens (f_Mo_copies_60_93_81 σ) (fun q => (∀ k, k < 80 → q.2.1 81 k = σ.1 93 k) ∧ x_fr [(81, 99999)] σ q.2) := by
  unfold f_Mo_copies_60_93_81
  refine x_ens.bi (P := fun b => (∀ k, k < 80 → b.2.1 81 k = σ.1 93 k) ∧ x_fr [(81, 99999)] σ b.2) ?_ (fun b hb => x_ens.so hb)
  refine x_iv.go (fun i a => a.1 = Int32.ofNat i ∧ (∀ k, k < i → a.2.1 81 k = σ.1 93 k) ∧ x_fr [(81, 99999)] σ a.2) 80 (by omega) ⟨rfl, fun k hk => by omega, x_fr.rf⟩ ?_
  rintro i ⟨v, τ⟩ hi ⟨h1, h2, h3⟩
  dsimp only at h1 h2 h3
  subst h1
  unfold f_Mo_copies_60_93_81_L2
  dsimp only
  by_cases hx : i = 80
  · subst hx
    rw [if_pos (by decide)]
    exact x_iv.l ⟨h2, h3⟩
  · rw [if_neg (fun h => by have := (i_le (by omega) (by omega)).mp h; omega), i_cl (by omega)]
    refine x_ens.gr (by rintro (h | h) <;> first | exact i_ge (by omega) h | omega | (rw [i_cl (by omega)] at h; omega)) ?_
    refine x_ens.gr (by rintro (h | h) <;> first | exact i_ge (by omega) h | omega | (rw [i_cl (by omega)] at h; omega)) ?_
    refine x_iv.r (by omega) ⟨i_s, fun k hk => ?_, x_frI (p := 81) rfl h3⟩
    dsimp only
    rw [x_pI_at]
    dsimp only
    by_cases h : k = i
    · subst h; rw [if_pos rfl, h3.ce 93 rfl]
    · rw [if_neg h]; exact h2 k (by omega)
theorem e_Mo_cp_94_90 {σ : xS} : x_ens (f_Mo_copies_60_94_90 σ) (fun q => (∀ k, k < 16 → q.2.1 90 k = σ.1 94 k) ∧ x_fr [(90, 99999)] σ q.2) := by
  unfold f_Mo_copies_60_94_90
  refine x_ens.bi (P := fun b => (∀ k, k < 16 → b.2.1 90 k = σ.1 94 k) ∧ x_fr [(90, 99999)] σ b.2) ?_ (fun b hb => x_ens.so hb)
  refine x_iv.go (fun i a => a.1 = Int32.ofNat i ∧ (∀ k, k < i → a.2.1 90 k = σ.1 94 k) ∧ x_fr [(90, 99999)] σ a.2) 16 (by omega) ⟨rfl, fun k hk => by omega, x_fr.rf⟩ ?_
  rintro i ⟨v, τ⟩ hi ⟨h1, h2, h3⟩
  dsimp only at h1 h2 h3
  subst h1
  unfold f_Mo_copies_60_94_90_L2
  dsimp only
  by_cases hx : i = 16
  · subst hx
    rw [if_pos (by decide)]
    exact x_iv.l ⟨h2, h3⟩
  · rw [if_neg (fun h => by have := (i_le (by omega) (by omega)).mp h; omega), i_cl (by omega)]
    refine x_ens.gr (by rintro (h | h) <;> first | exact i_ge (by omega) h | omega | (rw [i_cl (by omega)] at h; omega)) ?_
    refine x_ens.gr (by rintro (h | h) <;> first | exact i_ge (by omega) h | omega | (rw [i_cl (by omega)] at h; omega)) ?_
    refine x_iv.r (by omega) ⟨i_s, fun k hk => ?_, x_frI (p := 90) rfl h3⟩
    dsimp only
    rw [x_pI_at]
    dsimp only
    by_cases h : k = i
    · subst h; rw [if_pos rfl, h3.ce 94 rfl]
    · rw [if_neg h]; exact h2 k (by omega)
theorem e_Mo_cp_95_91 {σ : xS} : x_ens (f_Mo_copies_60_95_91 σ) (fun q => (∀ k, k < 16 → q.2.1 91 k = σ.1 95 k) ∧ x_fr [(91, 99999)] σ q.2) := by
  unfold f_Mo_copies_60_95_91
  refine x_ens.bi (P := fun b => (∀ k, k < 16 → b.2.1 91 k = σ.1 95 k) ∧ x_fr [(91, 99999)] σ b.2) ?_ (fun b hb => x_ens.so hb)
  refine x_iv.go (fun i a => a.1 = Int32.ofNat i ∧ (∀ k, k < i → a.2.1 91 k = σ.1 95 k) ∧ x_fr [(91, 99999)] σ a.2) 16 (by omega) ⟨rfl, fun k hk => by omega, x_fr.rf⟩ ?_
  rintro i ⟨v, τ⟩ hi ⟨h1, h2, h3⟩
  dsimp only at h1 h2 h3
  subst h1
  unfold f_Mo_copies_60_95_91_L2
  dsimp only
  by_cases hx : i = 16
  · subst hx
    rw [if_pos (by decide)]
    exact x_iv.l ⟨h2, h3⟩
  · rw [if_neg (fun h => by have := (i_le (by omega) (by omega)).mp h; omega), i_cl (by omega)]
    refine x_ens.gr (by rintro (h | h) <;> first | exact i_ge (by omega) h | omega | (rw [i_cl (by omega)] at h; omega)) ?_
    refine x_ens.gr (by rintro (h | h) <;> first | exact i_ge (by omega) h | omega | (rw [i_cl (by omega)] at h; omega)) ?_
    refine x_iv.r (by omega) ⟨i_s, fun k hk => ?_, x_frI (p := 91) rfl h3⟩
    dsimp only
    rw [x_pI_at]
    dsimp only
    by_cases h : k = i
    · subst h; rw [if_pos rfl, h3.ce 95 rfl]
    · rw [if_neg h]; exact h2 k (by omega)
theorem x_U.cp {C : Nat → Nat → Int32} {σ τ : xS} {b pn pa ps pb ka ks kb b' pn' pa' ps' pb' ka' ks' kb' : Nat} (hk : sp_nk C ≤ 6) (U : x_U C σ b pn pa ps pb ka ks kb) (h3 : τ.1 b' 3 = σ.1 b 3) (h6 : τ.1 b' 6 = σ.1 b 6) (h8 : τ.1 b' 8 = σ.1 b 8)
    (r1 : ∀ k, k < 12 → τ.1 (b' + 1) k = σ.1 (b + 1) k) (r2 : ∀ k, k < 40 → τ.1 (b' + 2) k = σ.1 (b + 2) k) (r3 : ∀ k, k < 40 → τ.1 (b' + 3) k = σ.1 (b + 3) k) (r4 : ∀ k, k < 8 → τ.1 (b' + 4) k = σ.1 (b + 4) k) (r5 : ∀ k, k < 8 → τ.1 (b' + 5) k = σ.1 (b + 5) k) (r6 : ∀ k, k < 16 → τ.1 (b' + 6) k = σ.1 (b + 6) k)
    (q1 : ∀ k, k < 12 → τ.1 pn' k = σ.1 pn k) (q2 : ∀ k, k < 80 → τ.1 pa' k = σ.1 pa k) (q3 : ∀ k, k < 16 → τ.1 ps' k = σ.1 ps k) (q4 : ∀ k, k < 16 → τ.1 pb' k = σ.1 pb k) (g1 : τ.1 60 ka' = σ.1 60 ka) (g2 : τ.1 60 ks' = σ.1 60 ks) (g3 : τ.1 60 kb' = σ.1 60 kb) : x_U C τ b' pn' pa' ps' pb' ka' ks' kb' := by
  obtain ⟨u1, u2, u3, ⟨u4, u5, u6, u7⟩, ⟨v4, v5, v6, v7⟩, ⟨w4, w5, w6, w7⟩⟩ := U
  unfold x_U
  rw [h3, h6, h8, g1, g2, g3]
  have n3 := i_nat (n := 40) (by omega) u6
  have n6 := i_nat (n := 8) (by omega) v6
  have n8 := i_nat (n := 16) (by omega) w6
  refine ⟨u1.c r1, ?_, ?_, ⟨u4, u5, u6, ?_⟩, ⟨v4, v5, v6, ?_⟩, ⟨w4, w5, w6, ?_⟩⟩
  · rw [q1 0 (by omega), q1 1 (by omega), q1 2 (by omega), q1 3 (by omega), q1 4 (by omega), q1 5 (by omega), r1 0 (by omega), r1 1 (by omega), r1 2 (by omega), r1 3 (by omega), r1 4 (by omega), r1 5 (by omega)]
    exact u2
  · intro i hi
    rw [q1 _ (by omega), r1 _ (by omega)]; exact u3 i hi
  · intro i hi
    rw [r2 i (by omega), r3 i (by omega), q2 _ (by omega), q2 _ (by omega)]; exact u7 i hi
  · intro i hi
    rw [r4 i (by omega), r5 i (by omega), q3 _ (by omega), q3 _ (by omega)]; exact v7 i hi
  · intro i hi
    rw [r6 i (by omega), q4 _ (by omega)]; exact w7 i hi
theorem x_cp_fr {σ : xS} {a b n : Nat} : x_fr [(b, 99999)] σ (x_cp σ a b n) := x_frC (fun k => by unfold x_in; simp) x_fr.rf
theorem o_restore : x_OS f_RH_restore_0 f_Mo_restore_60 := by
  rintro σ ⟨C, B, F⟩
  obtain ⟨i1, i2⟩ := B.2.2.2.2.2.2.2.2.2.1
  have hk6 := B.1.2.2.2.1.2
  by_cases h0 : σ.1 0 7 = 0
  · refine ⟨0, σ, x_pI σ 60 0 0, ?_, ?_, C, B.t0, F.fr (W := [(60, 0)]) (x_frI (p := 60) (k := 0) rfl x_fr.rf) rfl⟩
    · unfold f_RH_restore_0; rw [if_pos h0]
    · unfold f_Mo_restore_60
      dsimp only
      rw [show (x_pI σ 60 0 0).1 60 78 = σ.1 60 78 from rfl, ← i1, if_pos h0]
  · obtain ⟨-, U⟩ := i2.resolve_left h0
    have ec : ∃ σ1, f_RH_restore_0 σ = some (1, σ1) ∧ (∀ k, k < 12 → σ1.1 36 k = σ.1 43 k) ∧ (∀ k, k < 40 → σ1.1 37 k = σ.1 44 k) ∧ (∀ k, k < 40 → σ1.1 38 k = σ.1 45 k) ∧ (∀ k, k < 8 → σ1.1 39 k = σ.1 46 k) ∧ (∀ k, k < 8 → σ1.1 40 k = σ.1 47 k) ∧ (∀ k, k < 16 → σ1.1 41 k = σ.1 48 k) ∧ σ1.1 35 3 = σ.1 42 3 ∧ σ1.1 35 6 = σ.1 42 6 ∧ σ1.1 35 8 = σ.1 42 8 ∧ σ1.1 0 9 = 0 := by
      unfold f_RH_restore_0 f_Se_copyOf_35_42
      rw [if_neg h0]
      refine ⟨_, rfl, ?_, ?_, ?_, ?_, ?_, ?_, rfl, rfl, rfl, rfl⟩
      · intro k hk; exact x_cp_at hk
      · intro k hk; exact x_cp_at (σ := x_cp σ 43 36 12) hk
      · intro k hk; exact x_cp_at (σ := x_cp (x_cp σ 43 36 12) 44 37 40) hk
      · intro k hk; exact x_cp_at (σ := x_pI (x_cp (x_cp (x_cp σ 43 36 12) 44 37 40) 45 38 40) 35 3 (σ.1 42 3)) hk
      · intro k hk; exact x_cp_at (σ := x_cp (x_pI (x_cp (x_cp (x_cp σ 43 36 12) 44 37 40) 45 38 40) 35 3 (σ.1 42 3)) 46 39 8) hk
      · intro k hk; exact x_cp_at (σ := x_pI (x_cp (x_cp (x_pI (x_cp (x_cp (x_cp σ 43 36 12) 44 37 40) 45 38 40) 35 3 (σ.1 42 3)) 46 39 8) 47 40 8) 35 6 (σ.1 42 6)) hk
    obtain ⟨σ1, e1, c1, c2, c3, c4, c5, c6, c7, c8, c9, c10⟩ := ec
    have f1 := fr_RH_restore_0 e1
    have em : ∃ σ2, f_Mo_restore_60 σ1 = some (1, σ2) ∧ (∀ k, k < 12 → σ2.1 79 k = σ1.1 92 k) ∧ (∀ k, k < 80 → σ2.1 81 k = σ1.1 93 k) ∧ (∀ k, k < 16 → σ2.1 90 k = σ1.1 94 k) ∧ (∀ k, k < 16 → σ2.1 91 k = σ1.1 95 k) ∧ σ2.1 60 56 = σ1.1 60 79 ∧ σ2.1 60 74 = σ1.1 60 80 ∧ σ2.1 60 76 = σ1.1 60 81 := by
      unfold f_Mo_restore_60
      dsimp only
      rw [if_neg (show ¬ (x_pI σ1 60 0 0).1 60 78 = 0 from fun x => h0 (by rw [i1, ← f1.ck 60 78 rfl]; exact x))]
      let υ := x_pI (x_pI (x_pI (x_pI σ1 60 0 0) 60 56 (σ1.1 60 79)) 60 74 (σ1.1 60 80)) 60 76 (σ1.1 60 81)
      show ∃ σ2, ((f_Mo_copies_60_92_79 υ).bind fun q5 => (f_Mo_copies_60_93_81 q5.2).bind fun q6 => (f_Mo_copies_60_94_90 q6.2).bind fun q7 => (f_Mo_copies_60_95_91 q7.2).bind fun q8 => some ((1 : Int32), q8.2)) = _ ∧ _
      obtain ⟨q5, e5, a5, g5⟩ := e_Mo_cp_92_79 (σ := υ)
      rw [e5]
      obtain ⟨q6, e6, a6, g6⟩ := e_Mo_cp_93_81 (σ := q5.2)
      dsimp only [Option.bind_some]
      rw [e6]
      obtain ⟨q7, e7, a7, g7⟩ := e_Mo_cp_94_90 (σ := q6.2)
      dsimp only [Option.bind_some]
      rw [e7]
      obtain ⟨q8, e8, a8, g8⟩ := e_Mo_cp_95_91 (σ := q7.2)
      dsimp only [Option.bind_some]
      rw [e8]
      refine ⟨q8.2, rfl, fun k hk => ?_, fun k hk => ?_, fun k hk => ?_, fun k hk => ?_, ?_, ?_, ?_⟩
      · rw [g8.ce 79 rfl, g7.ce 79 rfl, g6.ce 79 rfl, a5 k hk]; rfl
      · rw [g8.ce 81 rfl, g7.ce 81 rfl, a6 k hk, g5.ce 93 rfl]; rfl
      · rw [g8.ce 90 rfl, a7 k hk, g6.ce 94 rfl, g5.ce 94 rfl]; rfl
      · rw [a8 k hk, g7.ce 95 rfl, g6.ce 95 rfl, g5.ce 95 rfl]; rfl
      · rw [g8.ce 60 rfl, g7.ce 60 rfl, g6.ce 60 rfl, g5.ce 60 rfl]; rfl
      · rw [g8.ce 60 rfl, g7.ce 60 rfl, g6.ce 60 rfl, g5.ce 60 rfl]; rfl
      · rw [g8.ce 60 rfl, g7.ce 60 rfl, g6.ce 60 rfl, g5.ce 60 rfl]; rfl
    obtain ⟨σ2, e2, m1, m2, m3, m4, m5, m6, m7⟩ := em
    have f2 := fr_Mo_restore_60 e2
    dsimp only at f1 f2
    refine ⟨1, σ1, σ2, e1, e2, C, B.re (x_fr.trans (x_fr.su f1 rfl) (x_fr.su f2 rfl)) (U.cp hk6 ?_ ?_ ?_ ?_ ?_ ?_ ?_ ?_ ?_ ?_ ?_ ?_ ?_ ?_ ?_ ?_) ?_, Or.inl ?_⟩
    · rw [f2.ce 35 rfl]; exact c7
    · rw [f2.ce 35 rfl]; exact c8
    · rw [f2.ce 35 rfl]; exact c9
    · intro k hk; show σ2.1 36 k = _; rw [f2.ce 36 rfl]; exact c1 k hk
    · intro k hk; show σ2.1 37 k = _; rw [f2.ce 37 rfl]; exact c2 k hk
    · intro k hk; show σ2.1 38 k = _; rw [f2.ce 38 rfl]; exact c3 k hk
    · intro k hk; show σ2.1 39 k = _; rw [f2.ce 39 rfl]; exact c4 k hk
    · intro k hk; show σ2.1 40 k = _; rw [f2.ce 40 rfl]; exact c5 k hk
    · intro k hk; show σ2.1 41 k = _; rw [f2.ce 41 rfl]; exact c6 k hk
    · intro k hk; rw [m1 k hk, f1.ce 92 rfl]
    · intro k hk; rw [m2 k hk, f1.ce 93 rfl]
    · intro k hk; rw [m3 k hk, f1.ce 94 rfl]
    · intro k hk; rw [m4 k hk, f1.ce 95 rfl]
    · rw [m5, f1.ck 60 79 rfl]
    · rw [m6, f1.ck 60 80 rfl]
    · rw [m7, f1.ck 60 81 rfl]
    · intro k hk
      rw [f2.ce 59 rfl, f1.ce 59 rfl, f2.ce 68 rfl, f1.ce 68 rfl]; exact B.2.2.2.2.2.2.2.2.1 k hk
    · rw [f2.ck 0 9 rfl]; exact c10
theorem o_image : x_OU f_RH_image_0 f_Mo_image_60 := by
  rintro σ ⟨C, B, F⟩
  have hk6 := B.1.2.2.2.1.2
  have ec : ∃ σ1, f_RH_image_0 σ = some ((), σ1) ∧ (∀ k, k < 12 → σ1.1 43 k = σ.1 36 k) ∧ (∀ k, k < 40 → σ1.1 44 k = σ.1 37 k) ∧ (∀ k, k < 40 → σ1.1 45 k = σ.1 38 k) ∧ (∀ k, k < 8 → σ1.1 46 k = σ.1 39 k) ∧ (∀ k, k < 8 → σ1.1 47 k = σ.1 40 k) ∧ (∀ k, k < 16 → σ1.1 48 k = σ.1 41 k) ∧ σ1.1 42 3 = σ.1 35 3 ∧ σ1.1 42 6 = σ.1 35 6 ∧ σ1.1 42 8 = σ.1 35 8 ∧ σ1.1 0 7 = 1 := by
    unfold f_RH_image_0 f_Se_copyOf_42_35
    refine ⟨_, rfl, ?_, ?_, ?_, ?_, ?_, ?_, rfl, rfl, rfl, rfl⟩
    · intro k hk; exact x_cp_at hk
    · intro k hk; exact x_cp_at (σ := x_cp σ 36 43 12) hk
    · intro k hk; exact x_cp_at (σ := x_cp (x_cp σ 36 43 12) 37 44 40) hk
    · intro k hk; exact x_cp_at (σ := x_pI (x_cp (x_cp (x_cp σ 36 43 12) 37 44 40) 38 45 40) 42 3 (σ.1 35 3)) hk
    · intro k hk; exact x_cp_at (σ := x_cp (x_pI (x_cp (x_cp (x_cp σ 36 43 12) 37 44 40) 38 45 40) 42 3 (σ.1 35 3)) 39 46 8) hk
    · intro k hk; exact x_cp_at (σ := x_pI (x_cp (x_cp (x_pI (x_cp (x_cp (x_cp σ 36 43 12) 37 44 40) 38 45 40) 42 3 (σ.1 35 3)) 39 46 8) 40 47 8) 42 6 (σ.1 35 6)) hk
  obtain ⟨σ1, e1, c1, c2, c3, c4, c5, c6, c7, c8, c9, c10⟩ := ec
  have f1 := fr_RH_image_0 e1
  have em : ∃ σ2, f_Mo_image_60 σ1 = some ((), σ2) ∧ (∀ k, k < 12 → σ2.1 92 k = σ1.1 79 k) ∧ (∀ k, k < 80 → σ2.1 93 k = σ1.1 81 k) ∧ (∀ k, k < 16 → σ2.1 94 k = σ1.1 90 k) ∧ (∀ k, k < 16 → σ2.1 95 k = σ1.1 91 k) ∧ σ2.1 60 79 = σ1.1 60 56 ∧ σ2.1 60 80 = σ1.1 60 74 ∧ σ2.1 60 81 = σ1.1 60 76 ∧ σ2.1 60 78 = 1 := by
    unfold f_Mo_image_60
    dsimp only
    let υ := x_pI (x_pI (x_pI (x_pI (x_pI σ1 60 0 0) 60 78 1) 60 79 (σ1.1 60 56)) 60 80 (σ1.1 60 74)) 60 81 (σ1.1 60 76)
    show ∃ σ2, ((f_Mo_copies_60_79_92 υ).bind fun q5 => (f_Mo_copies_60_81_93 q5.2).bind fun q6 => (f_Mo_copies_60_90_94 q6.2).bind fun q7 => (f_Mo_copies_60_91_95 q7.2).bind fun q8 => some ((), q8.2)) = _ ∧ _
    obtain ⟨q5, e5, a5, g5⟩ := e_Mo_cp_79_92 (σ := υ)
    rw [e5]
    obtain ⟨q6, e6, a6, g6⟩ := e_Mo_cp_81_93 (σ := q5.2)
    dsimp only [Option.bind_some]
    rw [e6]
    obtain ⟨q7, e7, a7, g7⟩ := e_Mo_cp_90_94 (σ := q6.2)
    dsimp only [Option.bind_some]
    rw [e7]
    obtain ⟨q8, e8, a8, g8⟩ := e_Mo_cp_91_95 (σ := q7.2)
    dsimp only [Option.bind_some]
    rw [e8]
    refine ⟨q8.2, rfl, fun k hk => ?_, fun k hk => ?_, fun k hk => ?_, fun k hk => ?_, ?_, ?_, ?_, ?_⟩
    · rw [g8.ce 92 rfl, g7.ce 92 rfl, g6.ce 92 rfl, a5 k hk]; rfl
    · rw [g8.ce 93 rfl, g7.ce 93 rfl, a6 k hk, g5.ce 81 rfl]; rfl
    · rw [g8.ce 94 rfl, a7 k hk, g6.ce 90 rfl, g5.ce 90 rfl]; rfl
    · rw [a8 k hk, g7.ce 91 rfl, g6.ce 91 rfl, g5.ce 91 rfl]; rfl
    · rw [g8.ce 60 rfl, g7.ce 60 rfl, g6.ce 60 rfl, g5.ce 60 rfl]; rfl
    · rw [g8.ce 60 rfl, g7.ce 60 rfl, g6.ce 60 rfl, g5.ce 60 rfl]; rfl
    · rw [g8.ce 60 rfl, g7.ce 60 rfl, g6.ce 60 rfl, g5.ce 60 rfl]; rfl
    · rw [g8.ce 60 rfl, g7.ce 60 rfl, g6.ce 60 rfl, g5.ce 60 rfl]; rfl
  obtain ⟨σ2, e2, m1, m2, m3, m4, m5, m6, m7, m8⟩ := em
  have f2 := fr_Mo_image_60 e2
  dsimp only at f1 f2
  have f : x_fr [(0, 7), (42, 99999), (43, 99999), (44, 99999), (45, 99999), (46, 99999), (47, 99999), (48, 99999), (60, 0), (60, 78), (60, 79), (60, 80), (60, 81), (92, 99999), (93, 99999), (94, 99999), (95, 99999)] σ σ2 := x_fr.trans (x_fr.su f1 rfl) (x_fr.su f2 rfl)
  obtain ⟨b1, b2, b3, b4, b5, b6, b7, b8, b9, b10, b11⟩ := B
  refine ⟨σ1, σ2, e1, e2, C, ⟨b1, b2.fr f rfl, b3.fr f rfl rfl rfl rfl rfl rfl rfl, b4.of (f.ce 35 rfl) (f.ce 36 rfl) (f.ce 37 rfl) (f.ce 38 rfl) (f.ce 39 rfl) (f.ce 40 rfl) (f.ce 41 rfl) (f.ce 79 rfl) (f.ce 81 rfl) (f.ce 90 rfl) (f.ce 91 rfl) (f.ck 60 56 rfl) (f.ck 60 74 rfl) (f.ck 60 76 rfl), (f.ck 60 4 rfl).trans b5, ?_, ?_, ?_, ?_, ⟨?_, Or.inr ⟨?_, b4.cp hk6 ?_ ?_ ?_ ?_ ?_ ?_ ?_ ?_ ?_ ?_ ?_ ?_ ?_ ?_ ?_ ?_⟩⟩, ?_⟩, F.of f rfl rfl⟩
  · rw [f.ck 60 59 rfl, f.ck 60 60 rfl, f.ck 60 64 rfl]; exact b6
  · rw [f.ck 60 15 rfl, f.ck 0 1 rfl, f.ce 1 rfl, f.ce 67 rfl]; exact b7
  · rw [f.ck 0 11 rfl, f.ck 60 17 rfl]; exact b8
  · rw [f.ce 59 rfl, f.ce 68 rfl]; exact b9
  · rw [m8, f2.ck 0 7 rfl]; exact c10
  · rw [f2.ck 0 7 rfl]; exact c10
  · rw [f2.ce 42 rfl]; exact c7
  · rw [f2.ce 42 rfl]; exact c8
  · rw [f2.ce 42 rfl]; exact c9
  · intro k hk; show σ2.1 43 k = _; rw [f2.ce 43 rfl]; exact c1 k hk
  · intro k hk; show σ2.1 44 k = _; rw [f2.ce 44 rfl]; exact c2 k hk
  · intro k hk; show σ2.1 45 k = _; rw [f2.ce 45 rfl]; exact c3 k hk
  · intro k hk; show σ2.1 46 k = _; rw [f2.ce 46 rfl]; exact c4 k hk
  · intro k hk; show σ2.1 47 k = _; rw [f2.ce 47 rfl]; exact c5 k hk
  · intro k hk; show σ2.1 48 k = _; rw [f2.ce 48 rfl]; exact c6 k hk
  · intro k hk; rw [m1 k hk, f1.ce 79 rfl]
  · intro k hk; rw [m2 k hk, f1.ce 81 rfl]
  · intro k hk; rw [m3 k hk, f1.ce 90 rfl]
  · intro k hk; rw [m4 k hk, f1.ce 91 rfl]
  · rw [m5, f1.ck 60 56 rfl]
  · rw [m6, f1.ck 60 74 rfl]
  · rw [m7, f1.ck 60 76 rfl]
  · rw [f.ck 55 4 rfl, f.ck 60 68 rfl, f.ce 58 rfl, f.ce 87 rfl]; exact b11
