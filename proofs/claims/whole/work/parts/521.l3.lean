theorem i_ne0 {n : Nat} (h : n ≤ 1000) : Int32.ofNat n = 0 ↔ n = 0 := by rw [← i_z, i_ej (by omega) (by omega)]
theorem e_Se_back {σ : xS} {m p : Nat} (hm : σ.1 35 3 = Int32.ofNat (m + 1)) (hb : m < 40) (hp : σ.1 37 m = Int32.ofNat p) (hp2 : p < 12) : f_Se_takeBack_35 σ = some (Int32.ofNat m, x_pI (x_pI σ 35 3 (Int32.ofNat m)) 36 p (σ.1 38 m)) := by
  apply x_ens.eq
  unfold f_Se_takeBack_35
  have e35 : ∀ {τ : xS} {w : Int32}, (x_pI τ 35 3 w).1 35 3 = w := by intro τ w; rw [x_pI_at]; rfl
  have e37 : ∀ {τ : xS} {w : Int32}, (x_pI τ 35 3 w).1 37 = τ.1 37 := y_pI_ne (by omega)
  have e38 : ∀ {τ : xS} {w : Int32}, (x_pI τ 35 3 w).1 38 = τ.1 38 := y_pI_ne (by omega)
  have e36 : ∀ {τ : xS} {k : Nat} {w : Int32}, (x_pI τ 36 k w).1 35 = τ.1 35 := y_pI_ne (by omega)
  have em : (Int32.ofNat m).toNatClampNeg = m := i_cl (by omega)
  have ep : (Int32.ofNat p).toNatClampNeg = p := i_cl (by omega)
  simp only [hm, i_m1', e35, e36, e37, e38, em, hp, ep]
  rw [if_neg (by rw [i_lt1 (by omega)]; omega), if_pos (show Int32.ofNat (m + 1) ≤ (40 : Int32) from (i_le (k := 40) (by omega) (by omega)).mpr (by omega))]
  refine x_ens.gr (by rintro (h | h) <;> first | exact i_ge (by omega) h | omega | (rw [i_cl (by omega)] at h; omega)) ?_
  rw [if_neg (i_ge (by omega)), if_neg (show ¬ (12 : Int32) ≤ Int32.ofNat p from fun x => by have := (i_le (j := 12) (by omega) (by omega)).mp x; omega)]
  refine x_ens.gr (by rintro (h | h) <;> first | exact i_ge (by omega) h | omega | (rw [i_cl (by omega)] at h; omega)) ?_
  refine x_ens.gr (by rintro (h | h) <;> first | exact i_ge (by omega) h | omega | (rw [i_cl (by omega)] at h; omega)) ?_
  exact x_ens.so rfl
theorem o_undo : x_OS f_RH_undo_0 f_Mo_undo_60 := by
  rintro σ ⟨C, B, F⟩
  have U := B.2.2.2.1
  have hk6 := B.1.2.2.2.1.2
  obtain ⟨n, hn, e35, e60, hacts⟩ := U.n
  by_cases h0 : n = 0
  · subst h0
    refine ⟨-1, σ, x_pI σ 60 0 0, ?_, ?_, C, B.t0, F.fr (W := [(60, 0)]) (x_frI (p := 60) (k := 0) rfl x_fr.rf) rfl⟩
    · unfold f_RH_undo_0; rw [e35, if_pos i_z]
    · unfold f_Mo_undo_60
      dsimp only
      rw [show (x_pI σ 60 0 0).1 60 56 = σ.1 60 56 from rfl, e60, if_pos i_z]
  · obtain ⟨m, rfl⟩ : ∃ m, n = m + 1 := ⟨n - 1, by omega⟩
    obtain ⟨hA, a1, a2⟩ := hacts m (by omega)
    obtain ⟨p, hp, ep, hv⟩ := hA.pl hk6
    rw [ep] at hA a1
    rw [x_pn_q hp] at a1
    have ec := e_Se_back (σ := x_pI σ 0 9 0) (m := m) (p := p) (by rw [y_pI_ne (by omega)]; exact e35) (by omega) (by rw [y_pI_ne (by omega)]; exact ep) hp
    rw [y_pI_ne (q := 38) (by omega)] at ec
    let σ1 := x_pI (x_pI (x_pI σ 0 9 0) 35 3 (Int32.ofNat m)) 36 p (σ.1 38 m)
    let σ2 := x_pI (x_pI (x_pI σ1 60 0 0) 60 56 (Int32.ofNat m)) 79 (sp_q p) (σ.1 38 m)
    have f : x_fr [(0, 9), (35, 3), (36, 99999), (60, 0), (60, 56), (79, 99999)] σ σ2 := x_frI (p := 79) rfl (x_frI (p := 60) (k := 56) rfl (x_frI (p := 60) (k := 0) rfl (x_frI (p := 36) rfl (x_frI (p := 35) (k := 3) rfl (x_frI (p := 0) (k := 9) rfl x_fr.rf)))))
    have t353 : σ2.1 35 3 = Int32.ofNat m := rfl
    have t36 : σ2.1 36 = sp_up (σ.1 36) p (σ.1 38 m) := by
      show (x_pI _ 36 p (σ.1 38 m)).1 36 = _
      rw [x_pI_at]; rfl
    have t79 : σ2.1 79 = sp_up (σ.1 79) (sp_q p) (σ.1 38 m) := by
      show (x_pI _ 79 (sp_q p) (σ.1 38 m)).1 79 = _
      rw [x_pI_at]; rfl
    refine ⟨Int32.ofNat m, σ1, σ2, ?_, ?_, C, B.re (x_fr.su f rfl) (U.set hA hp t36 t79 ⟨rfl, ?_, ?_, ?_⟩ (f.ck 35 6 rfl) (f.ck 35 8 rfl) (f.ce 39 rfl) (f.ce 40 rfl) (f.ce 41 rfl) (f.ce 90 rfl) (f.ce 91 rfl) (f.ck 60 74 rfl) (f.ck 60 76 rfl)) ?_, Or.inl rfl⟩
    · unfold f_RH_undo_0
      rw [e35, if_neg (by rw [i_ne0 (by omega)]; omega)]
      exact x_bs ec
    · apply x_ens.eq
      unfold f_Mo_undo_60
      have g0 : σ1.1 60 = σ.1 60 := rfl
      have g1 : σ1.1 81 = σ.1 81 := rfl
      have g2 : ∀ {τ : xS} {k : Nat} {w : Int32}, (x_pI τ 60 k w).1 81 = τ.1 81 := y_pI_ne (by omega)
      have g3 : (x_pI σ1 60 0 0).1 60 56 = Int32.ofNat (m + 1) := e60
      have g4 : ∀ {τ : xS} {w : Int32}, (x_pI τ 60 56 w).1 60 56 = w := by intro τ w; rw [x_pI_at]; rfl
      have g5 : ∀ {τ : xS} {k : Nat} {w : Int32}, (x_pI τ 79 k w).1 60 = τ.1 60 := y_pI_ne (by omega)
      have em : (Int32.ofNat (2 * m)).toNatClampNeg = 2 * m := i_cl (by omega)
      have em1 : (Int32.ofNat (2 * m + 1)).toNatClampNeg = 2 * m + 1 := i_cl (by omega)
      have hq := sp_q_lt hp
      have eq : (Int32.ofNat (sp_q p)).toNatClampNeg = sp_q p := i_cl (by omega)
      simp only [g3, i_m1', g4, g5, i_2m, i_s, em, em1, g2, g1, a1, a2, eq]
      rw [if_neg (by rw [i_ne0 (by omega)]; omega)]
      refine x_ens.gr (by rintro (h | h) <;> first | exact i_ge (by omega) h | omega | (rw [i_cl (by omega)] at h; omega)) ?_
      refine x_ens.gr (by rintro (h | h) <;> first | exact i_ge (by omega) h | omega | (rw [i_cl (by omega)] at h; omega)) ?_
      refine x_ens.gr (by rintro (h | h) <;> first | exact i_ge (by omega) h | omega | (rw [i_cl (by omega)] at h; omega)) ?_
      exact x_ens.so rfl
    · rw [t353]; exact (i_n40 (by omega)).1
    · rw [t353]; exact (i_n40 (by omega)).2
    · intro i hi
      rw [t353, i_cl (by omega)] at hi
      rw [f.ce 37 rfl, f.ce 38 rfl, f.ce 81 rfl]
      exact hacts i (by omega)
    · intro k hk
      rw [f.ce 59 rfl, f.ce 68 rfl]; exact B.2.2.2.2.2.2.2.2.1 k hk
theorem o_fault : x_OS f_RH_fault_0 f_Mo_fault_60 := by
  rintro σ ⟨C, B, F⟩
  refine ⟨σ.1 0 11, σ, x_pI σ 60 0 0, rfl, ?_, C, B.t0, F.fr (W := [(60, 0)]) (x_frI (p := 60) (k := 0) rfl x_fr.rf) rfl⟩
  unfold f_Mo_fault_60
  show some (σ.1 60 17, x_pI σ 60 0 0) = _
  rw [B.2.2.2.2.2.2.2.1]
theorem x_U.re {C : Nat → Nat → Int32} {σ τ : xS} (U : x_U C σ 35 79 81 90 91 56 74 76) (h36 : τ.1 36 = σ.1 36) (h79 : τ.1 79 = σ.1 79) (h3 : τ.1 35 3 = σ.1 35 3) (h37 : τ.1 37 = σ.1 37) (h38 : τ.1 38 = σ.1 38) (h81 : τ.1 81 = σ.1 81) (h56 : τ.1 60 56 = σ.1 60 56)
    (hs : τ.1 60 74 = τ.1 35 6 ∧ 0 ≤ τ.1 35 6 ∧ τ.1 35 6 ≤ 8 ∧ ∀ i, i < (τ.1 35 6).toNatClampNeg → τ.1 90 (2 * i) = τ.1 39 i ∧ τ.1 90 (2 * i + 1) = τ.1 40 i ∧ 0 ≤ τ.1 39 i ∧ τ.1 39 i ≤ C 7 4)
    (hb : τ.1 60 76 = τ.1 35 8 ∧ 0 ≤ τ.1 35 8 ∧ τ.1 35 8 ≤ 16 ∧ ∀ i, i < (τ.1 35 8).toNatClampNeg → τ.1 91 i = τ.1 41 i ∧ 12 ≤ τ.1 41 i ∧ τ.1 41 i ≤ 480) : x_U C τ 35 79 81 90 91 56 74 76 := by
  obtain ⟨u1, u2, u3, u4, -, -⟩ := U
  refine ⟨?_, ?_, ?_, ?_, hs, hb⟩
  · show x_R C (τ.1 36) (sp_nk C)
    rw [h36]; exact u1
  · show τ.1 79 0 = τ.1 36 0 ∧ τ.1 79 1 = τ.1 36 1 ∧ τ.1 79 2 = τ.1 36 2 ∧ τ.1 79 3 = τ.1 36 3 ∧ τ.1 79 4 = τ.1 36 5 ∧ τ.1 79 5 = τ.1 36 4
    rw [h36, h79]; exact u2
  · show ∀ i, i < sp_nk C → τ.1 79 (6 + i) = τ.1 36 (6 + i)
    rw [h36, h79]; exact u3
  · show τ.1 60 56 = τ.1 35 3 ∧ 0 ≤ τ.1 35 3 ∧ τ.1 35 3 ≤ 40 ∧ ∀ i, i < (τ.1 35 3).toNatClampNeg → x_A C (τ.1 37 i) (τ.1 38 i) ∧ τ.1 81 (2 * i) = x_pn (τ.1 37 i) ∧ τ.1 81 (2 * i + 1) = τ.1 38 i
    rw [h56, h3, h37, h38, h81]; exact u4
theorem i_nb {n b : Nat} (hb : b < 1000) (h : n ≤ b) : 0 ≤ Int32.ofNat n ∧ Int32.ofNat n ≤ Int32.ofNat b := ⟨i_0k (by omega), (i_le (by omega) (by omega)).mpr h⟩
theorem x_U.sn {C : Nat → Nat → Int32} {σ : xS} (U : x_U C σ 35 79 81 90 91 56 74 76) : ∃ n : Nat, n ≤ 8 ∧ σ.1 35 6 = Int32.ofNat n ∧ σ.1 60 74 = Int32.ofNat n ∧ ∀ i, i < n → σ.1 90 (2 * i) = σ.1 39 i ∧ σ.1 90 (2 * i + 1) = σ.1 40 i ∧ 0 ≤ σ.1 39 i ∧ σ.1 39 i ≤ C 7 4 := by
  obtain ⟨-, -, -, -, ⟨a1, a2, a3, a4⟩, -⟩ := U
  have k := i_ex a2
  exact ⟨_, i_nat (n := 8) (by omega) a3, k.1, a1.trans k.1, a4⟩
theorem x_U.bn {C : Nat → Nat → Int32} {σ : xS} (U : x_U C σ 35 79 81 90 91 56 74 76) : ∃ n : Nat, n ≤ 16 ∧ σ.1 35 8 = Int32.ofNat n ∧ σ.1 60 76 = Int32.ofNat n ∧ ∀ i, i < n → σ.1 91 i = σ.1 41 i ∧ 12 ≤ σ.1 41 i ∧ σ.1 41 i ≤ 480 := by
  obtain ⟨-, -, -, -, -, ⟨a1, a2, a3, a4⟩⟩ := U
  have k := i_ex a2
  exact ⟨_, i_nat (n := 16) (by omega) a3, k.1, a1.trans k.1, a4⟩
theorem o_book (v : Int32) : x_OS (f_RH_book_0 v) (f_Mo_book_60 v) := by
  rintro σ ⟨C, B, F⟩
  have U := B.2.2.2.1
  obtain ⟨n, hn, e35, e60, hbk⟩ := U.bn
  by_cases hok : (12 ≤ v ∧ v ≤ 480) ∧ n < 16
  · obtain ⟨hv, hn2⟩ := hok
    let σ1 := x_pI (x_pI σ 41 n v) 35 8 (Int32.ofNat (n + 1))
    let σ2 := x_pI (x_pI (x_pI σ1 60 0 0) 91 n v) 60 76 (Int32.ofNat (n + 1))
    have f : x_fr [(35, 8), (41, 99999), (60, 0), (60, 76), (91, 99999)] σ σ2 := x_frI (p := 60) (k := 76) rfl (x_frI (p := 91) rfl (x_frI (p := 60) (k := 0) rfl (x_frI (p := 35) (k := 8) rfl (x_frI (p := 41) rfl x_fr.rf))))
    have t8 : σ2.1 35 8 = Int32.ofNat (n + 1) := rfl
    have t41 : ∀ j, σ2.1 41 j = if j = n then v else σ.1 41 j := fun j => by
      show (x_pI σ 41 n v).1 41 j = _
      rw [x_pI_at]
    have t91 : ∀ j, σ2.1 91 j = if j = n then v else σ.1 91 j := fun j => by
      show (x_pI (x_pI σ1 60 0 0) 91 n v).1 91 j = _
      rw [x_pI_at]; rfl
    have t76 : σ2.1 60 76 = Int32.ofNat (n + 1) := by show (x_pI _ 60 76 _).1 60 76 = _; rw [x_pI_at]; rfl
    refine ⟨Int32.ofNat (n + 1), σ1, σ2, ?_, ?_, C, B.re (x_fr.su f rfl) (U.re (f.ce 36 rfl) (f.ce 79 rfl) (f.ck 35 3 rfl) (f.ce 37 rfl) (f.ce 38 rfl) (f.ce 81 rfl) (f.ck 60 56 rfl) ?_ ⟨by rw [t76, t8], ?_, ?_, ?_⟩) ?_, F.of f rfl rfl⟩
    · unfold f_RH_book_0
      rw [e_RH_isInches, if_pos hv]
      dsimp only [Option.bind_some]
      rw [if_neg (by decide)]
      have : f_Se_write_35 v σ = some (1, σ1) := by
        apply x_ens.eq
        unfold f_Se_write_35
        have g : ∀ {τ : xS} {k : Nat} {w : Int32}, (x_pI τ 41 k w).1 35 = τ.1 35 := y_pI_ne (by omega)
        have em : (Int32.ofNat n).toNatClampNeg = n := i_cl (by omega)
        simp only [g, e35, em, i_s]
        rw [if_pos (show Int32.ofNat n < (16 : Int32) from (i_lt (k := 16) (by omega) (by omega)).mpr hn2)]
        refine x_ens.gr (by rintro (h | h) <;> first | exact i_ge (by omega) h | omega | (rw [i_cl (by omega)] at h; omega)) ?_
        exact x_ens.so rfl
      rw [this]
      dsimp only [Option.bind_some]
      rw [if_neg (by decide)]; rfl
    · apply x_ens.eq
      unfold f_Mo_book_60
      dsimp only
      have g0 : (x_pI σ1 60 0 0).1 60 76 = Int32.ofNat n := e60
      have g : ∀ {τ : xS} {k : Nat} {w : Int32}, (x_pI τ 91 k w).1 60 = τ.1 60 := y_pI_ne (by omega)
      have g4 : ∀ {τ : xS} {w : Int32}, (x_pI τ 60 76 w).1 60 76 = w := by intro τ w; rw [x_pI_at]; rfl
      have em : (Int32.ofNat n).toNatClampNeg = n := i_cl (by omega)
      rw [g0, if_neg (show ¬ Int32.ofNat n = (16 : Int32) from fun x => by have := (i_ej (k := 16) (by omega) (by omega)).mp x; omega), e_Mo_within, if_pos hv]
      dsimp only [Option.bind_some]
      rw [if_neg (by decide)]
      simp only [g, g0, g4, em, i_s]
      refine x_ens.gr (by rintro (h | h) <;> first | exact i_ge (by omega) h | omega | (rw [i_cl (by omega)] at h; omega)) ?_
      exact x_ens.so rfl
    · show σ2.1 60 74 = σ2.1 35 6 ∧ 0 ≤ σ2.1 35 6 ∧ σ2.1 35 6 ≤ 8 ∧ ∀ i, i < (σ2.1 35 6).toNatClampNeg → σ2.1 90 (2 * i) = σ2.1 39 i ∧ σ2.1 90 (2 * i + 1) = σ2.1 40 i ∧ 0 ≤ σ2.1 39 i ∧ σ2.1 39 i ≤ C 7 4
      rw [f.ck 60 74 rfl, f.ck 35 6 rfl, f.ce 90 rfl, f.ce 39 rfl, f.ce 40 rfl]
      exact U.2.2.2.2.1
    · rw [t8]; exact (i_nb (b := 16) (by omega) (by omega)).1
    · rw [t8]; exact (i_nb (b := 16) (by omega) (by omega)).2
    · intro i hi
      rw [t8, i_cl (by omega)] at hi
      rw [t41, t91]
      by_cases h : i = n
      · rw [if_pos h, if_pos h]; exact ⟨rfl, hv⟩
      · rw [if_neg h, if_neg h]; exact hbk i (by omega)
    · intro k hk
      rw [f.ce 59 rfl, f.ce 68 rfl]; exact B.2.2.2.2.2.2.2.2.1 k hk
  · obtain ⟨B2, F2⟩ := x_ref (k := 2) B F (by omega) x_fr.rf
    refine ⟨-1, x_pI σ 59 2 (σ.1 59 2 + 1), _, ?_, ?_, C, B2, F2⟩
    · unfold f_RH_book_0
      rw [e_RH_isInches]
      dsimp only [Option.bind_some]
      by_cases hv : 12 ≤ v ∧ v ≤ 480
      · rw [if_pos hv, if_neg (by decide)]
        have : f_Se_write_35 v σ = some (0, σ) := by
          unfold f_Se_write_35
          rw [e35, if_neg (show ¬ Int32.ofNat n < (16 : Int32) from fun x => hok ⟨hv, (i_lt (k := 16) (by omega) (by omega)).mp x⟩)]
        rw [this]
        dsimp only [Option.bind_some]
        rw [if_pos rfl]
      · rw [if_neg hv, if_pos rfl]
    · unfold f_Mo_book_60
      dsimp only
      have g0 : (x_pI (x_pI σ 59 2 (σ.1 59 2 + 1)) 60 0 0).1 60 76 = Int32.ofNat n := e60
      rw [g0, e_Mo_within]
      by_cases h16 : Int32.ofNat n = 16
      · rw [if_pos h16]
        exact x_bs (e_Mo_refuses (k := 2) (by omega))
      · have hn2 : n < 16 := by
          rcases Nat.lt_or_ge n 16 with h | h
          · exact h
          · exact absurd (show Int32.ofNat n = 16 by rw [show n = 16 by omega]; rfl) h16
        rw [if_neg h16]
        dsimp only [Option.bind_some]
        rw [if_neg (show ¬ (12 ≤ v ∧ v ≤ 480) from fun x => hok ⟨x, hn2⟩), if_pos rfl]
        exact x_bs (e_Mo_refuses (k := 2) (by omega))
def x_OU (f m : xS → Option (Unit × xS)) : Prop := ∀ σ, x_Rel σ → ∃ σ1 σ2, f σ = some ((), σ1) ∧ m σ1 = some ((), σ2) ∧ x_Rel σ2
theorem o_forget : x_OU f_RH_forget_0 f_Mo_forget_60 := by
  rintro σ ⟨C, B, F⟩
  have U := B.2.2.2.1
  let σ2 := x_pI (x_pI (x_pI (x_pI (x_pI σ 35 6 0) 35 8 0) 60 0 0) 60 74 0) 60 76 0
  have f : x_fr [(35, 6), (35, 8), (60, 0), (60, 74), (60, 76)] σ σ2 := x_frI (p := 60) (k := 76) rfl (x_frI (p := 60) (k := 74) rfl (x_frI (p := 60) (k := 0) rfl (x_frI (p := 35) (k := 8) rfl (x_frI (p := 35) (k := 6) rfl x_fr.rf))))
  refine ⟨_, σ2, rfl, rfl, C, B.re (x_fr.su f rfl) (U.re (f.ce 36 rfl) (f.ce 79 rfl) (f.ck 35 3 rfl) (f.ce 37 rfl) (f.ce 38 rfl) (f.ce 81 rfl) (f.ck 60 56 rfl) ⟨rfl, show (0 : Int32) ≤ 0 by decide, show (0 : Int32) ≤ 8 by decide, fun i hi => absurd hi (Nat.not_lt_zero i)⟩ ⟨rfl, show (0 : Int32) ≤ 0 by decide, show (0 : Int32) ≤ 16 by decide, fun i hi => absurd hi (Nat.not_lt_zero i)⟩) ?_, F.of f rfl rfl⟩
  intro k hk
  rw [f.ce 59 rfl, f.ce 68 rfl]; exact B.2.2.2.2.2.2.2.2.1 k hk
