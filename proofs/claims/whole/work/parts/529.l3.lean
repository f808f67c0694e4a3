def sp_hv (h : Nat) : Int32 := if h = 0 then -1 else Int32.ofNat (h - 1)
theorem sp_hv_s {h : Nat} : sp_hv h + 1 = sp_hv (h + 1) := by
  unfold sp_hv
  by_cases e : h = 0
  · subst e; decide
  · rw [if_neg e, if_neg (by omega), i_s]; congr 1; omega
def wst_fi (C : Nat → Nat → Int32) (n : Nat) (tt ss S : Nat → Int32) (hv : Int32) (i : Nat) (c : Int32 × Int32) : Int32 × Int32 := if sp_fl C n tt ss (sp_up S 4 hv) (Int32.ofNat i) then (c.1 + 1, if c.2 = -1 then 100 * (hv + 1) + Int32.ofNat i else c.2) else c
theorem wst_fi_e {C : Nat → Nat → Int32} {n : Nat} {tt ss S : Nat → Int32} {hv : Int32} {i : Nat} {c : Int32 × Int32} : wst_fi C n tt ss S hv i c = if sp_fl C n tt ss (sp_up S 4 hv) (Int32.ofNat i) then (c.1 + 1, if c.2 = -1 then 100 * (hv + 1) + Int32.ofNat i else c.2) else c := rfl
def wst_ft (C : Nat → Nat → Int32) (n : Nat) (tt ss S : Nat → Int32) (h : Nat) (c : Int32 × Int32) : Int32 × Int32 := sp_fo (wst_fi C n tt ss S (sp_hv h)) 0 c 21
def A_fits (C : Nat → Nat → Int32) (n : Nat) (tt ss S : Nat → Int32) (v : Int32) : Int32 ⊕ Nat := if 0 ≤ v ∧ v ≤ 1 then .inl (if v = 0 then (sp_fo (wst_ft C n tt ss S) 0 (0, -1) (sp_nh C + 1)).1 else (sp_fo (wst_ft C n tt ss S) 0 (0, -1) (sp_nh C + 1)).2) else .inr 2
theorem x_Ah {C : Nat → Nat → Int32} {h : Nat} (hh : h < sp_nh C + 1) (hn : sp_nh C ≤ 4) : x_A C (Int32.ofNat 4) (sp_hv h) := by
  refine Or.inr (Or.inr (Or.inr (Or.inr (Or.inl ⟨rfl, ?_⟩))))
  unfold sp_hv
  by_cases e : h = 0
  · rw [if_pos e]; exact Or.inl rfl
  · rw [if_neg e]; exact Or.inr ⟨i_0k (by omega), by rw [i_cl (by omega)]; omega⟩
theorem sp_hv_lt {n h : Nat} (hn : n ≤ 4) (hh : h ≤ 5) : Int32.ofNat n ≤ sp_hv h ↔ n < h := by
  unfold sp_hv
  by_cases e : h = 0
  · subst e; rw [if_pos rfl]
    constructor
    · intro x; exact absurd x (i_n1 (i_0k (by omega)))
    · intro x; omega
  · rw [if_neg e, i_le (by omega) (by omega)]; omega
theorem c_fits {C : Nat → Nat → Int32} {σ : xS} {v : Int32} (B : x_B C σ) (F : y_F C σ) : x_ens (f_RH_fits_0 v σ) (fun q => q.1 = A_fits C (σ.1 35 6).toNatClampNeg (σ.1 39) (σ.1 40) (σ.1 36) v ∧ y_F C q.2) := by
  unfold f_RH_fits_0 A_fits
  have G := B.1
  have R := B.S.2
  have hnh := G.2.2.2.2.1.2
  obtain ⟨n8, e6, e74, hsn⟩ := B.2.2.2.1.sn'
  generalize (σ.1 35 6).toNatClampNeg = n at n8 e6 e74 hsn
  by_cases h : 0 ≤ v ∧ v ≤ 1
  · rw [if_neg (i_nl.mpr h.1), if_pos h.2, if_pos h]
    refine x_ens.bi (P := fun b => (b.1, b.2.1) = sp_fo (wst_ft C n (σ.1 39) (σ.1 40) (σ.1 36)) 0 (0, -1) (sp_nh C + 1) ∧ y_F C b.2.2.2) ?_ ?_
    · refine x_scI (fun i (c : Int32 × Int32) τ => (c.1, c.2, sp_hv i, τ)) (wst_ft C n (σ.1 39) (σ.1 40) (σ.1 36)) (fun i c τ => y_F C τ ∧ x_fr x_WC σ τ) (sp_nh C + 1) (c0 := (0, -1)) (by omega) ⟨F, x_fr.rf⟩ ?_ ?_
      · rintro g ⟨c1, c2⟩ τ hg ⟨F1, f1⟩
        unfold f_RH_fits_0_L27
        dsimp only
        rw [show τ.1 7 9 = C 7 9 by rw [f1.ce 7 rfl, B.2.1.1], G.2.2.2.2.1.1, if_neg (fun x => by have := (sp_hv_lt hnh (by omega)).mp x; omega)]
        refine x_ens.bi (P := fun b => (b.1, b.2.1) = sp_fo (wst_fi C n (σ.1 39) (σ.1 40) (σ.1 36) (sp_hv g)) 0 (c1, c2) 21 ∧ y_F C b.2.2.2 ∧ x_fr x_WC σ b.2.2.2) ?_ ?_
        · refine x_scI (fun i (c : Int32 × Int32) τ => (c.1, c.2, Int32.ofNat i, τ)) (wst_fi C n (σ.1 39) (σ.1 40) (σ.1 36) (sp_hv g)) (fun i c τ => y_F C τ ∧ x_fr x_WC σ τ) 21 (c0 := (c1, c2)) (by omega) ⟨F1, f1⟩ ?_ ?_
          · rintro i ⟨d1, d2⟩ τ hi ⟨F1, f1⟩
            unfold f_RH_fits_0_L42
            dsimp only
            rw [if_neg (show ¬ (20 : Int32) < Int32.ofNat i from fun x => by have := (i_lt (j := 20) (by omega) (by omega)).mp x; omega)]
            obtain ⟨υ, e, K2, t1, t2, t3, t4, t5, t6, f2⟩ := c_take G (B.2.1.fr f1 rfl)
            have f3 : x_fr x_WC σ (x_pI (x_pI υ 50 4 (sp_hv g)) 49 2 (Int32.ofNat i)) := x_frI (p := 49) rfl (x_frI (p := 50) rfl (x_fr.trans f1 f2))
            obtain ⟨ω, ⟨u, ew⟩, ef, F4, f4⟩ := c_film (υ := υ) (T := sp_up (σ.1 36) 4 (sp_hv g)) (late := Int32.ofNat i) B n8 e6 (fun j hj => (hsn j hj).2.2) f3 (by
              intro k hk
              rw [y_pI_ne (by omega), x_pI_up]
              by_cases h : k = 4
              · subst h; rw [sp_up_eq, sp_up_eq]
              · rw [sp_up_ne h, sp_up_ne h, t1 k hk, f1.ce 36 rfl]) (R.up (x_Ah hg hnh) (by omega)) t2 (by rw [x_pI_at]; rfl) t4 t5 (by rw [y_pI_ne (by omega), y_pI_ne (by omega)]; exact t6)
            have efl : f_RH_fitsFilm_0 (sp_hv g) (Int32.ofNat i) τ = some (if sp_fl C n (σ.1 39) (σ.1 40) (sp_up (σ.1 36) 4 (sp_hv g)) (Int32.ofNat i) then 1 else 0, ω) := by
              unfold f_RH_fitsFilm_0
              rw [e]
              dsimp only [Option.bind_some]
              rw [ew]
              dsimp only [Option.bind_some]
              rw [ef]
              dsimp only [Option.bind_some]
              unfold x_ok
              rw [if_pos (by split <;> simp)]
            rw [efl, i_s, wst_fi_e]
            dsimp only [Option.bind_some]
            by_cases hf : sp_fl C n (σ.1 39) (σ.1 40) (sp_up (σ.1 36) 4 (sp_hv g)) (Int32.ofNat i)
            · rw [if_pos hf, if_neg (by decide), if_pos hf]
              by_cases h1 : d2 = -1
              · rw [if_pos h1, if_pos h1]; exact x_ens.so ⟨_, ⟨F4, f4⟩, rfl⟩
              · rw [if_neg h1, if_neg h1]; exact x_ens.so ⟨_, ⟨F4, f4⟩, rfl⟩
            · rw [if_neg hf, if_pos rfl, if_neg hf]
              exact x_ens.so ⟨_, ⟨F4, f4⟩, rfl⟩
          · rintro c τ hc ⟨F1, f1⟩
            unfold f_RH_fits_0_L42
            dsimp only
            rw [if_pos (show (20 : Int32) < Int32.ofNat 21 by decide)]
            exact x_ens.so ⟨_, rfl, hc, F1, f1⟩
        · rintro b ⟨hb, Fb, fb⟩
          refine x_ens.so ⟨b.2.2.2, ⟨Fb, fb⟩, ?_⟩
          try dsimp only
          have e1 := congrArg Prod.fst hb
          have e2 := congrArg Prod.snd hb
          dsimp only at e1 e2
          rw [sp_hv_s, e1, e2]; rfl
      · rintro c τ hc ⟨F1, f1⟩
        unfold f_RH_fits_0_L27
        dsimp only
        rw [show τ.1 7 9 = C 7 9 by rw [f1.ce 7 rfl, B.2.1.1], G.2.2.2.2.1.1, if_pos ((sp_hv_lt hnh (by omega)).mpr (by omega))]
        exact x_ens.so ⟨_, rfl, hc, F1⟩
    · rintro b ⟨hb, Fb⟩
      rw [← hb]
      by_cases h0 : v = 0
      · rw [if_pos h0, if_pos h0]; exact x_ens.so ⟨rfl, Fb⟩
      · rw [if_neg h0, if_neg h0]; exact x_ens.so ⟨rfl, Fb⟩
  · rw [if_neg h]
    by_cases h1 : v < 0
    · rw [if_pos h1]; exact x_ens.so ⟨rfl, F⟩
    · rw [if_neg h1, if_neg (fun x => h ⟨i_nl.mp h1, x⟩)]; exact x_ens.so ⟨rfl, F⟩
theorem m_fits {C : Nat → Nat → Int32} {σ : xS} {v : Int32} (B : x_B C σ) : x_ens (f_Mo_fits_60 v σ) (fun q => x_an x_k1 (A_fits C (σ.1 35 6).toNatClampNeg (σ.1 39) (σ.1 40) (σ.1 36) v) q.1 q.2 ∧ x_B C q.2) := by
  unfold f_Mo_fits_60 A_fits
  dsimp only
  obtain ⟨B1, S1, R1⟩ := B.m0
  have G := B.1
  have hnh := G.2.2.2.2.1.2
  obtain ⟨n8, e6, e74, hsn⟩ := B.2.2.2.1.sn'
  generalize (σ.1 35 6).toNatClampNeg = n at n8 e6 e74 hsn
  rw [e_Mo_isWhat x_60]
  dsimp only [Option.bind_some]
  by_cases h : 0 ≤ v ∧ v ≤ 1
  · simp only [if_pos h]
    rw [if_neg (by decide)]
    refine x_ens.bi (P := fun b => (b.1, b.2.1) = sp_fo (wst_ft C n (σ.1 39) (σ.1 40) (σ.1 36)) 0 (0, -1) (sp_nh C + 1) ∧ x_fr ((60, 59) :: (79, 99999) :: x_W8) (x_pI σ 60 0 0) b.2.2.2 ∧ ∃ w, b.2.2.2.1 79 = sp_up ((x_pI σ 60 0 0).1 79) 5 w) ?_ ?_
    · refine x_scI (fun i (c : Int32 × Int32) τ => (c.1, c.2, sp_hv i, τ)) (wst_ft C n (σ.1 39) (σ.1 40) (σ.1 36)) (fun i c τ => x_fr ((60, 59) :: (79, 99999) :: x_W8) (x_pI σ 60 0 0) τ ∧ ∃ w, τ.1 79 = sp_up ((x_pI σ 60 0 0).1 79) 5 w) (sp_nh C + 1) (c0 := (0, -1)) (by omega) ⟨x_fr.rf, ⟨_, sp_up_id.symm⟩⟩ ?_ ?_
      · rintro g ⟨c1, c2⟩ τ hg ⟨f1, w, e79⟩
        unfold f_Mo_fits_60_L31
        dsimp only
        rw [f1.ck 60 5 rfl, B1.2.2.1.1.2.2.2, G.2.2.2.2.1.1, if_neg (fun x => by have := (sp_hv_lt hnh (by omega)).mp x; omega)]
        have f2 : x_fr ((60, 59) :: (79, 99999) :: x_W8) (x_pI σ 60 0 0) (x_pI (x_pI τ 79 5 (sp_hv g)) 60 59 0) := x_frI (p := 60) (k := 59) rfl (x_frI (p := 79) rfl f1)
        have e2 : (x_pI (x_pI τ 79 5 (sp_hv g)) 60 59 0).1 79 = sp_up ((x_pI σ 60 0 0).1 79) 5 (sp_hv g) := by rw [y_pI_ne (by omega), x_pI_up, e79, sp_up_up]
        refine x_ens.bi (P := fun b => (b.1, b.2.1) = sp_fo (wst_fi C n (σ.1 39) (σ.1 40) (σ.1 36) (sp_hv g)) 0 (c1, c2) 21 ∧ x_fr ((60, 59) :: (79, 99999) :: x_W8) (x_pI σ 60 0 0) b.2.2 ∧ b.2.2.1 79 = sp_up ((x_pI σ 60 0 0).1 79) 5 (sp_hv g)) ?_ ?_
        · refine x_scI (fun i (c : Int32 × Int32) τ => (c.1, c.2, τ)) (wst_fi C n (σ.1 39) (σ.1 40) (σ.1 36) (sp_hv g)) (fun i c τ => x_fr ((60, 59) :: (79, 99999) :: x_W8) (x_pI σ 60 0 0) τ ∧ τ.1 79 = sp_up ((x_pI σ 60 0 0).1 79) 5 (sp_hv g) ∧ τ.1 60 59 = Int32.ofNat i) 21 (c0 := (c1, c2)) (by omega) ⟨f2, e2, by rw [x_pI_at]; rfl⟩ ?_ ?_
          · rintro i ⟨d1, d2⟩ τ hi ⟨f3, e3, e59⟩
            unfold f_Mo_fits_60_L53
            dsimp only
            rw [e59, if_neg (show ¬ (20 : Int32) < Int32.ofNat i from fun x => by have := (i_lt (j := 20) (by omega) (by omega)).mp x; omega)]
            obtain ⟨ω, ⟨u, ew⟩, ef, f4⟩ := m_film (T := sp_up (σ.1 36) 4 (sp_hv g)) (late := Int32.ofNat i) (n := n) B1 n8 e74 hsn (x_fr.su f3 rfl) (S1.up (p := 4) e3 (f3.ck 60 4 rfl)) (R1.up (x_Ah hg hnh) (by omega)) e59 (by rw [f3.ck 60 60 rfl]; exact B1.2.2.2.2.2.1.2.1) (by rw [f3.ck 60 64 rfl]; exact B1.2.2.2.2.2.1.2.2) (i_0k (by omega)) ((i_le (k := 100) (by omega) (by omega)).mpr (by omega))
            rw [ew]
            dsimp only [Option.bind_some]
            have e59w : ω.1 60 59 = Int32.ofNat i := by rw [f4.ck 60 59 rfl]; exact e59
            have e39 : (x_pI σ 60 0 0).1 39 = σ.1 39 := y_pI_ne (by omega)
            have e40 : (x_pI σ 60 0 0).1 40 = σ.1 40 := y_pI_ne (by omega)
            rw [ef, e39, e40, wst_fi_e]
            dsimp only [Option.bind_some]
            rw [e59w, i_s]
            have I4 : x_fr ((60, 59) :: (79, 99999) :: x_W8) (x_pI σ 60 0 0) (x_pI ω 60 59 (Int32.ofNat (i + 1))) ∧ (x_pI ω 60 59 (Int32.ofNat (i + 1))).1 79 = sp_up ((x_pI σ 60 0 0).1 79) 5 (sp_hv g) ∧ (x_pI ω 60 59 (Int32.ofNat (i + 1))).1 60 59 = Int32.ofNat (i + 1) := ⟨x_frI (p := 60) (k := 59) rfl (x_fr.trans f3 (x_fr.su f4 rfl)), by rw [y_pI_ne (by omega), f4.ce 79 rfl]; exact e3, by rw [x_pI_at]; rfl⟩
            by_cases hf : sp_fl C n (σ.1 39) (σ.1 40) (sp_up (σ.1 36) 4 (sp_hv g)) (Int32.ofNat i)
            · rw [if_pos hf, if_neg (by decide), if_pos hf]
              by_cases h1 : d2 = -1
              · rw [if_pos h1, if_pos h1]; exact x_ens.so ⟨_, I4, rfl⟩
              · rw [if_neg h1, if_neg h1]; exact x_ens.so ⟨_, I4, rfl⟩
            · rw [if_neg hf, if_pos rfl, if_neg hf]
              exact x_ens.so ⟨_, I4, rfl⟩
          · rintro c τ hc ⟨f3, e3, e59⟩
            unfold f_Mo_fits_60_L53
            dsimp only
            rw [e59, if_pos (show (20 : Int32) < Int32.ofNat 21 by decide)]
            exact x_ens.so ⟨_, rfl, hc, f3, e3⟩
        · rintro b ⟨hb, fb, eb⟩
          refine x_ens.so ⟨b.2.2, ⟨fb, _, eb⟩, ?_⟩
          try dsimp only
          have e1 := congrArg Prod.fst hb
          have e2 := congrArg Prod.snd hb
          dsimp only at e1 e2
          rw [sp_hv_s, e1, e2]; rfl
      · rintro c τ hc ⟨f1, e1⟩
        unfold f_Mo_fits_60_L31
        dsimp only
        rw [f1.ck 60 5 rfl, B1.2.2.1.1.2.2.2, G.2.2.2.2.1.1, if_pos ((sp_hv_lt hnh (by omega)).mpr (by omega))]
        exact x_ens.so ⟨_, rfl, hc, f1, e1⟩
    · rintro b ⟨hb, f, w, e79⟩
      have e79' : (x_pI (x_pI b.2.2.2 60 59 0) 79 5 ((x_pI σ 60 0 0).1 79 5)).1 79 = (x_pI σ 60 0 0).1 79 := by rw [x_pI_up, y_pI_ne (by omega), e79, sp_up_up, sp_up_id]
      have f2 : x_fr ((60, 59) :: (79, 99999) :: x_W8) (x_pI σ 60 0 0) (x_pI (x_pI b.2.2.2 60 59 0) 79 5 ((x_pI σ 60 0 0).1 79 5)) := x_frI (p := 79) rfl (x_frI (p := 60) (k := 59) rfl f)
      have B2 : x_B C (x_pI (x_pI b.2.2.2 60 59 0) 79 5 ((x_pI σ 60 0 0).1 79 5)) := B1.fr2 (x_fr.su f2 rfl) e79' (by rw [y_pI_ne (by omega), x_pI_at]; exact B1.2.2.2.2.2.1.1.symm) (f2.ck 60 60 rfl) (f2.ck 60 64 rfl) (f2.ck 60 4 rfl)
      have z : (x_pI (x_pI b.2.2.2 60 59 0) 79 5 ((x_pI σ 60 0 0).1 79 5)).1 60 0 = 0 := (f2.ck 60 0 rfl).trans x_60
      rw [← hb]
      by_cases h0 : v = 0
      · rw [if_pos h0, if_pos h0]; exact x_ens.so ⟨⟨z, rfl⟩, B2⟩
      · rw [if_neg h0, if_neg h0]; exact x_ens.so ⟨⟨z, rfl⟩, B2⟩
  · simp only [if_neg h]
    rw [if_pos trivial, x_pI_pI]; exact x_ens.so ⟨x_60, B.t0⟩
theorem o_fits (v : Int32) : x_OP (w_fits v) (f_Mo_fits_60 v) := by
  refine x_OPq (f := f_RH_fits_0 v) (κ := x_k1) (A := fun C g => A_fits C (g 35 6).toNatClampNeg (g 39) (g 40) (g 36) v) (fun C σ B F => c_fits B F) (fun σ q e => fr_RH_fits_0 e) rfl (fun C g g' h h55 h01 h59 => by simp only [h 35 (by simp), h 36 (by simp), h 39 (by simp), h 40 (by simp), h 41 (by simp), h 58 (by simp), h55, h01, h59]) (fun C σ B => m_fits B) (fun σ q e => fr_Mo_fits_60 e) rfl ?_ ?_
  · intro σ u τ e; unfold w_fits; rw [e]; rfl
  · intro C σ B k τ e hk
    unfold A_fits at hk
    (repeat' split at hk) <;> cases hk <;> (unfold w_fits; rw [e]; exact ⟨rfl, by decide⟩)
