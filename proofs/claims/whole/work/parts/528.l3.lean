abbrev sp_fl (C : Nat → Nat → Int32) (n : Nat) (tt ss T : Nat → Int32) (late : Int32) : Prop := sp_fm n tt ss (sp_of C T (sp_nk C) late 0 0) (T 0)
theorem sp_fm_c {n : Nat} {tt ss tt' ss' g g' : Nat → Int32} {h h' : Int32} (e1 : ∀ j, j < n → tt j = tt' j ∧ ss j = ss' j ∧ g (tt j).toNatClampNeg = g' (tt j).toNatClampNeg) (e2 : h = h') : sp_fm n tt ss g h ↔ sp_fm n tt' ss' g' h' := by
  subst e2
  constructor
  · intro x j hj
    obtain ⟨a, b, c⟩ := e1 j hj
    rw [← b, ← a, ← c]; exact x j hj
  · intro x j hj
    obtain ⟨a, b, c⟩ := e1 j hj
    rw [b, c, a]; exact x j hj
theorem x_iff {p q : Prop} [Decidable p] [Decidable q] {γ : Type} {a b : γ} (h : p ↔ q) : (if p then a else b) = if q then a else b := by
  by_cases hp : p
  · rw [if_pos hp, if_pos (h.mp hp)]
  · rw [if_neg hp, if_neg (fun x => hp (h.mpr x))]
theorem c_film {C : Nat → Nat → Int32} {σ τ υ : xS} {T : Nat → Int32} {late : Int32} {n : Nat} (B : x_B C σ) (hn : n ≤ 8) (e6 : σ.1 35 6 = Int32.ofNat n) (ht : ∀ j, j < n → 0 ≤ σ.1 39 j ∧ σ.1 39 j ≤ C 7 4) (f1 : x_fr x_WC σ τ) (hT : ∀ k, k < 12 → τ.1 50 k = T k) (R : x_R C T (sp_nk C)) (t2 : τ.1 49 1 = Int32.ofNat (sp_nk C)) (t3 : τ.1 49 2 = late) (t4 : τ.1 49 3 = 0) (t5 : τ.1 49 4 = 0) (t6 : τ.1 0 9 = 0) :
    ∃ υ, (∃ u, f_Tr_walk_49_7 τ = some (u, υ)) ∧ f_Se_isFilmOf_35_49 υ = some (if sp_fl C n (σ.1 39) (σ.1 40) T late then 1 else 0, υ) ∧ y_F C υ ∧ x_fr x_WC σ υ := by
  have G := B.1
  have hm : ∀ i, i < sp_nk C → τ.1 50 (6 + i) = T (6 + i) := fun i hi => hT _ (by have := R.2.2.2.2.2.2.1; omega)
  obtain ⟨q, e, ⟨h5, h6⟩, f2⟩ := e_Tr_walk (n := sp_nk C) G (B.2.1.fr f1 rfl) R.2.2.2.2.2.2.1 (by unfold sp_hok; rw [hT 4 (by omega)]; exact R.2.2.2.2.2.1) t2
  have f3 : x_fr x_WC σ q.2 := x_fr.trans f1 (x_fr.su f2 rfl)
  refine ⟨q.2, ⟨q.1, e⟩, ?_, Or.inl (by rw [f2.ck 0 9 rfl]; exact t6), f3⟩
  have hla := G.2.1
  have ht' : ∀ j, j < n → 0 ≤ σ.1 39 j ∧ σ.1 39 j ≤ Int32.ofNat (sp_la C) := fun j hj => by rw [← hla.1]; exact ht j hj
  rw [e_film (n := n) (by rw [f3.ce 35 rfl]; exact e6) hn (by
    rw [f3.ce 39 rfl]
    intro j hj
    exact ⟨(ht' j hj).1, i_tr (ht' j hj).2 ((i_le (k := 600) (by omega) (by omega)).mpr hla.2)⟩)]
  congr 2
  refine x_iff (sp_fm_c (fun j hj => ⟨by rw [f3.ce 39 rfl], by rw [f3.ce 40 rfl], ?_⟩) ?_)
  · rw [f3.ce 39 rfl]
    have k := i_nat (by omega) (ht' j hj).2
    rw [(h6 _ k).2.2, t3, t4, t5]
    exact sp_of_c (hT 1 (by omega)) (hT 2 (by omega)) (hT 3 (by omega)) (hT 4 (by omega)) (hT 5 (by omega)) hm _
  · rw [f2.ce 50 rfl, hT 0 (by omega)]
theorem m_film {C : Nat → Nat → Int32} {σ τ : xS} {T : Nat → Int32} {late : Int32} {n : Nat} (B : x_B C σ) (hn : n ≤ 8) (e6 : σ.1 60 74 = Int32.ofNat n) (hs : ∀ i, i < n → σ.1 90 (2 * i) = σ.1 39 i ∧ σ.1 90 (2 * i + 1) = σ.1 40 i ∧ 0 ≤ σ.1 39 i ∧ σ.1 39 i ≤ C 7 4) (f1 : x_fr x_WM σ τ) (A : x_S T (sp_nk C) τ) (R : x_R C T (sp_nk C)) (h59 : τ.1 60 59 = late) (h60 : τ.1 60 60 = 0) (h64 : τ.1 60 64 = 0) (hl0 : 0 ≤ late) (hl1 : late ≤ 100) :
    ∃ υ, (∃ u, f_Mo_goesThrough_60 τ = some (u, υ)) ∧ f_Mo_isAsSeen_60 υ = some (if sp_fl C n (σ.1 39) (σ.1 40) T late then 1 else 0, υ) ∧ x_fr x_W8 τ υ := by
  have G := B.1
  obtain ⟨q, e, h6⟩ := e_Mo_goesThrough (T := T) (n := sp_nk C) G (B.2.2.1.fr f1 rfl rfl rfl rfl rfl rfl rfl) A R h59 h60 h64 hl0 hl1
  have f2 : x_fr x_W8 τ q.2 := fr_Mo_goesThrough_60 e
  have f3 : x_fr x_WM σ q.2 := x_fr.trans f1 (x_fr.su f2 rfl)
  refine ⟨q.2, ⟨q.1, e⟩, ?_, f2⟩
  have hla := G.2.1
  have ht' : ∀ j, j < n → 0 ≤ σ.1 39 j ∧ σ.1 39 j ≤ Int32.ofNat (sp_la C) := fun j hj => by rw [← hla.1]; exact (hs j hj).2.2
  rw [e_seen (n := n) (by rw [f3.ck 60 74 rfl]; exact e6) hn (by
    rw [f3.ce 90 rfl]
    intro j hj
    rw [(hs j hj).1]
    exact ⟨(ht' j hj).1, i_tr (ht' j hj).2 ((i_le (k := 600) (by omega) (by omega)).mpr hla.2)⟩)]
  congr 2
  refine x_iff (sp_fm_c (fun j hj => ⟨by rw [f3.ce 90 rfl]; exact (hs j hj).1, by rw [f3.ce 90 rfl]; exact (hs j hj).2.1, ?_⟩) ?_)
  · rw [f3.ce 90 rfl, (hs j hj).1]
    exact (h6 _ (i_nat (by omega) (ht' j hj).2)).2.2
  · rw [f2.ce 79 rfl, A.1.1]
def wst_lg (C : Nat → Nat → Int32) (n : Nat) (tt ss S : Nat → Int32) (i : Nat) (c : Int32 × Int32) : Int32 × Int32 := if sp_fl C n tt ss (sp_up S 1 (Int32.ofNat i)) 0 then (if c.1 = -1 then Int32.ofNat i else c.1, Int32.ofNat i) else c
theorem wst_lg_e {C : Nat → Nat → Int32} {n : Nat} {tt ss S : Nat → Int32} {i : Nat} {c : Int32 × Int32} : wst_lg C n tt ss S i c = if sp_fl C n tt ss (sp_up S 1 (Int32.ofNat i)) 0 then (if c.1 = -1 then Int32.ofNat i else c.1, Int32.ofNat i) else c := rfl
def A_lags (C : Nat → Nat → Int32) (n : Nat) (tt ss S : Nat → Int32) (v : Int32) : Int32 ⊕ Nat := if 0 ≤ v ∧ v ≤ 1 then .inl (if v = 0 then (sp_fo (wst_lg C n tt ss S) 0 (-1, -1) 25).1 else (sp_fo (wst_lg C n tt ss S) 0 (-1, -1) 25).2) else .inr 2
theorem x_A1 {C : Nat → Nat → Int32} {i : Nat} (hi : i < 25) : x_A C (Int32.ofNat 1) (Int32.ofNat i) := Or.inr (Or.inl ⟨rfl, i_0k (by omega), (i_le (k := 24) (by omega) (by omega)).mpr (by omega)⟩)
theorem x_U.sn' {C : Nat → Nat → Int32} {σ : xS} (U : x_U C σ 35 79 81 90 91 56 74 76) : (σ.1 35 6).toNatClampNeg ≤ 8 ∧ σ.1 35 6 = Int32.ofNat (σ.1 35 6).toNatClampNeg ∧ σ.1 60 74 = Int32.ofNat (σ.1 35 6).toNatClampNeg ∧ ∀ i, i < (σ.1 35 6).toNatClampNeg → σ.1 90 (2 * i) = σ.1 39 i ∧ σ.1 90 (2 * i + 1) = σ.1 40 i ∧ 0 ≤ σ.1 39 i ∧ σ.1 39 i ≤ C 7 4 := by
  obtain ⟨-, -, -, -, ⟨a1, a2, a3, a4⟩, -⟩ := U
  have k := i_ex a2
  exact ⟨i_nat (n := 8) (by omega) a3, k.1, a1.trans k.1, a4⟩
theorem c_lags {C : Nat → Nat → Int32} {σ : xS} {v : Int32} (B : x_B C σ) (F : y_F C σ) : x_ens (f_RH_lags_0 v σ) (fun q => q.1 = A_lags C (σ.1 35 6).toNatClampNeg (σ.1 39) (σ.1 40) (σ.1 36) v ∧ y_F C q.2) := by
  unfold f_RH_lags_0 A_lags
  have G := B.1
  have R := B.S.2
  obtain ⟨n8, e6, e74, hsn⟩ := B.2.2.2.1.sn'
  generalize (σ.1 35 6).toNatClampNeg = n at n8 e6 e74 hsn
  by_cases h : 0 ≤ v ∧ v ≤ 1
  · rw [if_neg (i_nl.mpr h.1), if_pos h.2, if_pos h]
    refine x_ens.bi (P := fun b => b.1 = (if v = 0 then (sp_fo (wst_lg C n (σ.1 39) (σ.1 40) (σ.1 36)) 0 (-1, -1) 25).1 else (sp_fo (wst_lg C n (σ.1 39) (σ.1 40) (σ.1 36)) 0 (-1, -1) 25).2) ∧ y_F C b.2.2) ?_ (fun b hb => x_ens.so ⟨by rw [hb.1], hb.2⟩)
    have := x_scI (body := f_RH_lags_0_L24 v) (fun i (c : Int32 × Int32) τ => ((if v = 0 then c.1 else c.2), Int32.ofNat i, τ)) (wst_lg C n (σ.1 39) (σ.1 40) (σ.1 36)) (fun i c τ => y_F C τ ∧ x_fr x_WC σ τ) (Q := fun b => b.1 = (if v = 0 then (sp_fo (wst_lg C n (σ.1 39) (σ.1 40) (σ.1 36)) 0 (-1, -1) 25).1 else (sp_fo (wst_lg C n (σ.1 39) (σ.1 40) (σ.1 36)) 0 (-1, -1) 25).2) ∧ y_F C b.2.2) 25 (n := 10000) (c0 := (-1, -1)) (τ0 := σ) (by omega) ⟨F, x_fr.rf⟩ ?_ ?_
    · rw [show (if v = 0 then (-1 : Int32) else -1) = -1 by split <;> rfl] at this
      exact this
    · rintro i ⟨c1, c2⟩ τ hi ⟨F1, f1⟩
      unfold f_RH_lags_0_L24
      dsimp only
      rw [if_neg (show ¬ (24 : Int32) < Int32.ofNat i from fun x => by have := (i_lt (j := 24) (by omega) (by omega)).mp x; omega)]
      obtain ⟨υ, e, K2, t1, t2, t3, t4, t5, t6, f2⟩ := c_take G (B.2.1.fr f1 rfl)
      rw [e]
      dsimp only [Option.bind_some]
      have f3 : x_fr x_WC σ (x_pI υ 50 1 (Int32.ofNat i)) := x_frI (p := 50) rfl (x_fr.trans f1 f2)
      obtain ⟨ω, ⟨u, ew⟩, ef, F4, f4⟩ := c_film (υ := υ) (T := sp_up (σ.1 36) 1 (Int32.ofNat i)) (late := 0) B n8 e6 (fun j hj => (hsn j hj).2.2) f3 (by
        intro k hk
        rw [x_pI_up]
        by_cases h : k = 1
        · subst h; rw [sp_up_eq, sp_up_eq]
        · rw [sp_up_ne h, sp_up_ne h, t1 k hk, f1.ce 36 rfl]) (R.up (x_A1 hi) (by omega)) (by rw [y_pI_ne (by omega)]; exact t2) (by rw [y_pI_ne (by omega)]; exact t3) (by rw [y_pI_ne (by omega)]; exact t4) (by rw [y_pI_ne (by omega)]; exact t5) (by rw [y_pI_ne (by omega)]; exact t6)
      rw [ew]
      dsimp only [Option.bind_some]
      rw [ef, i_s, wst_lg_e]
      dsimp only [Option.bind_some]
      by_cases hf : sp_fl C n (σ.1 39) (σ.1 40) (sp_up (σ.1 36) 1 (Int32.ofNat i)) 0
      · rw [if_pos hf, if_neg (by decide), if_pos hf]
        rcases i_01 h with rfl | rfl
        · dsimp only
          rw [if_pos rfl]
          by_cases h1 : c1 = -1
          · rw [if_pos h1, if_pos h1]; exact x_ens.so ⟨_, ⟨F4, f4⟩, rfl⟩
          · rw [if_neg h1, if_neg (by decide), if_neg h1]; exact x_ens.so ⟨_, ⟨F4, f4⟩, rfl⟩
        · dsimp only
          have n10 : ¬ (1 : Int32) = 0 := by decide
          simp only [if_neg n10]
          by_cases h1 : c2 = -1
          · rw [if_pos h1]; exact x_ens.so ⟨_, ⟨F4, f4⟩, rfl⟩
          · rw [if_neg h1, if_pos trivial]; exact x_ens.so ⟨_, ⟨F4, f4⟩, rfl⟩
      · rw [if_neg hf, if_pos rfl, if_neg hf]
        exact x_ens.so ⟨_, ⟨F4, f4⟩, rfl⟩
    · rintro c τ hc ⟨F1, f1⟩
      unfold f_RH_lags_0_L24
      dsimp only
      rw [if_pos (show (24 : Int32) < Int32.ofNat 25 by decide)]
      exact x_ens.so ⟨_, rfl, by rw [← hc], F1⟩
  · rw [if_neg h]
    by_cases h1 : v < 0
    · rw [if_pos h1]; exact x_ens.so ⟨rfl, F⟩
    · rw [if_neg h1, if_neg (fun x => h ⟨i_nl.mp h1, x⟩)]; exact x_ens.so ⟨rfl, F⟩
theorem m_lags {C : Nat → Nat → Int32} {σ : xS} {v : Int32} (B : x_B C σ) : x_ens (f_Mo_lags_60 v σ) (fun q => x_an x_k1 (A_lags C (σ.1 35 6).toNatClampNeg (σ.1 39) (σ.1 40) (σ.1 36) v) q.1 q.2 ∧ x_B C q.2) := by
  unfold f_Mo_lags_60 A_lags
  dsimp only
  obtain ⟨B1, S1, R1⟩ := B.m0
  obtain ⟨n8, e6, e74, hsn⟩ := B.2.2.2.1.sn'
  generalize (σ.1 35 6).toNatClampNeg = n at n8 e6 e74 hsn
  rw [e_Mo_isWhat x_60]
  dsimp only [Option.bind_some]
  by_cases h : 0 ≤ v ∧ v ≤ 1
  · simp only [if_pos h]
    rw [if_neg (by decide)]
    refine x_ens.bi (P := fun b => (b.1, b.2.1) = sp_fo (wst_lg C n (σ.1 39) (σ.1 40) (σ.1 36)) 0 (-1, -1) 25 ∧ x_fr ((79, 99999) :: x_W8) (x_pI σ 60 0 0) b.2.2.2 ∧ ∃ w, b.2.2.2.1 79 = sp_up ((x_pI σ 60 0 0).1 79) 1 w) ?_ ?_
    · refine x_scI (fun i (c : Int32 × Int32) τ => (c.1, c.2, Int32.ofNat i, τ)) (wst_lg C n (σ.1 39) (σ.1 40) (σ.1 36)) (fun i c τ => x_fr ((79, 99999) :: x_W8) (x_pI σ 60 0 0) τ ∧ ∃ w, τ.1 79 = sp_up ((x_pI σ 60 0 0).1 79) 1 w) 25 (c0 := (-1, -1)) (by omega) ⟨x_fr.rf, ⟨_, sp_up_id.symm⟩⟩ ?_ ?_
      · rintro i ⟨c1, c2⟩ τ hi ⟨f1, w, e79⟩
        unfold f_Mo_lags_60_L31
        dsimp only
        rw [if_neg (show ¬ (24 : Int32) < Int32.ofNat i from fun x => by have := (i_lt (j := 24) (by omega) (by omega)).mp x; omega)]
        have f2 : x_fr ((79, 99999) :: x_W8) (x_pI σ 60 0 0) (x_pI τ 79 1 (Int32.ofNat i)) := x_frI (p := 79) rfl f1
        have e2 : (x_pI τ 79 1 (Int32.ofNat i)).1 79 = sp_up ((x_pI σ 60 0 0).1 79) (sp_q 1) (Int32.ofNat i) := by rw [x_pI_up, e79, sp_up_up]; rfl
        obtain ⟨ω, ⟨u, ew⟩, ef, f3⟩ := m_film (T := sp_up (σ.1 36) 1 (Int32.ofNat i)) (late := 0) (n := n) B1 n8 e74 hsn (x_fr.su f2 rfl) (S1.up e2 (f2.ck 60 4 rfl)) (R1.up (x_A1 hi) (by omega)) (by rw [f2.ck 60 59 rfl]; exact B1.2.2.2.2.2.1.1) (by rw [f2.ck 60 60 rfl]; exact B1.2.2.2.2.2.1.2.1) (by rw [f2.ck 60 64 rfl]; exact B1.2.2.2.2.2.1.2.2) (by decide) (by decide)
        rw [ew]
        dsimp only [Option.bind_some]
        rw [ef, i_s, wst_lg_e]
        dsimp only [Option.bind_some]
        have I4 : x_fr ((79, 99999) :: x_W8) (x_pI σ 60 0 0) ω ∧ ∃ w, ω.1 79 = sp_up ((x_pI σ 60 0 0).1 79) 1 w := ⟨x_fr.trans f2 (x_fr.su f3 rfl), Int32.ofNat i, by rw [f3.ce 79 rfl]; exact e2⟩
        have e39 : (x_pI σ 60 0 0).1 39 = σ.1 39 := y_pI_ne (by omega)
        have e40 : (x_pI σ 60 0 0).1 40 = σ.1 40 := y_pI_ne (by omega)
        rw [e39, e40]
        by_cases hf : sp_fl C n (σ.1 39) (σ.1 40) (sp_up (σ.1 36) 1 (Int32.ofNat i)) 0
        · rw [if_pos hf, if_neg (by decide), if_pos hf]
          by_cases h1 : c1 = -1
          · rw [if_pos h1, if_pos h1]; exact x_ens.so ⟨_, I4, rfl⟩
          · rw [if_neg h1, if_neg h1]; exact x_ens.so ⟨_, I4, rfl⟩
        · rw [if_neg hf, if_pos rfl, if_neg hf]
          exact x_ens.so ⟨_, I4, rfl⟩
      · rintro c τ hc I1
        unfold f_Mo_lags_60_L31
        dsimp only
        rw [if_pos (show (24 : Int32) < Int32.ofNat 25 by decide)]
        exact x_ens.so ⟨_, rfl, hc, I1⟩
    · rintro b ⟨hb, f, w, e79⟩
      have e79' : (x_pI b.2.2.2 79 1 ((x_pI σ 60 0 0).1 79 1)).1 79 = (x_pI σ 60 0 0).1 79 := by rw [x_pI_up, e79, sp_up_up, sp_up_id]
      have f2 : x_fr ((79, 99999) :: x_W8) (x_pI σ 60 0 0) (x_pI b.2.2.2 79 1 ((x_pI σ 60 0 0).1 79 1)) := x_frI (p := 79) rfl f
      have B2 : x_B C (x_pI b.2.2.2 79 1 ((x_pI σ 60 0 0).1 79 1)) := B1.fr2 (x_fr.su f2 rfl) e79' (f2.ck 60 59 rfl) (f2.ck 60 60 rfl) (f2.ck 60 64 rfl) (f2.ck 60 4 rfl)
      have z : (x_pI b.2.2.2 79 1 ((x_pI σ 60 0 0).1 79 1)).1 60 0 = 0 := (f2.ck 60 0 rfl).trans x_60
      rw [← hb]
      by_cases h0 : v = 0
      · rw [if_pos h0, if_pos h0]; exact x_ens.so ⟨⟨z, rfl⟩, B2⟩
      · rw [if_neg h0, if_neg h0]; exact x_ens.so ⟨⟨z, rfl⟩, B2⟩
  · simp only [if_neg h]
    rw [if_pos trivial, x_pI_pI]; exact x_ens.so ⟨x_60, B.t0⟩
theorem o_lags (v : Int32) : x_OP (w_lags v) (f_Mo_lags_60 v) := by
  refine x_OPq (f := f_RH_lags_0 v) (κ := x_k1) (A := fun C g => A_lags C (g 35 6).toNatClampNeg (g 39) (g 40) (g 36) v) (fun C σ B F => c_lags B F) (fun σ q e => fr_RH_lags_0 e) rfl (fun C g g' h h55 h01 h59 => by simp only [h 35 (by simp), h 36 (by simp), h 39 (by simp), h 40 (by simp), h 41 (by simp), h 58 (by simp), h55, h01, h59]) (fun C σ B => m_lags B) (fun σ q e => fr_Mo_lags_60 e) rfl ?_ ?_
  · intro σ u τ e; unfold w_lags; rw [e]; rfl
  · intro C σ B k τ e hk
    unfold A_lags at hk
    (repeat' split at hk) <;> cases hk <;> (unfold w_lags; rw [e]; exact ⟨rfl, by decide⟩)
