def A_tenth (C : Nat → Nat → Int32) (S : Nat → Int32) (t v : Int32) : Int32 ⊕ Nat :=
  if 0 ≤ t ∧ t ≤ C 7 4 then (if 0 ≤ v ∧ v ≤ 5 then .inl (
    if v = 0 then sp_fa C t 0 else if v = 1 then sp_se C S (sp_nk C) 0 0 t else if v = 2 then sp_rg C S (sp_nk C) 0 0 0 t.toNatClampNeg
    else if v = 3 then sp_of C S (sp_nk C) 0 0 0 t.toNatClampNeg else if v = 4 then (if S 0 < sp_abs (sp_of C S (sp_nk C) 0 0 0 t.toNatClampNeg) then 0 else 1)
    else sp_shn C S 0 (sp_of C S (sp_nk C) 0 0 0) t.toNatClampNeg) else .inr 2) else .inr 2
theorem x_G.tn {C : Nat → Nat → Int32} (G : x_G C) {t : Int32} (h : 0 ≤ t ∧ t ≤ C 7 4) : t = Int32.ofNat t.toNatClampNeg ∧ t.toNatClampNeg ≤ sp_la C := by
  have hb := G.2.1.2
  refine ⟨(i_ex h.1).1, ?_⟩
  have := h.2
  rw [G.2.1.1] at this
  exact i_nat (by omega) this
theorem x_F1.q {C : Nat → Nat → Int32} {σ τ : xS} (F : x_F1 C σ) (f : x_fr [(17, 99999), (18, 99999)] σ τ) : x_F1 C τ := by
  unfold x_F1
  rw [f.ck 0 9 rfl, f.ce 50 rfl, f.ce 36 rfl, f.ce 49 rfl, f.ce 51 rfl, f.ce 53 rfl, f.ce 54 rfl]; exact F
theorem c_tenth {C : Nat → Nat → Int32} {σ : xS} {t v : Int32} (B : x_B C σ) (F : y_F C σ) : x_ens (f_RH_tenth_0 t v σ) (fun q => q.1 = A_tenth C (σ.1 36) t v ∧ y_F C q.2) := by
  unfold f_RH_tenth_0 A_tenth
  have G := B.1
  have hb := G.2.1.2
  rw [e_RH_isTenth B.2.1]
  dsimp only [Option.bind_some]
  by_cases ht : 0 ≤ t ∧ t ≤ C 7 4
  · simp only [if_pos ht]
    obtain ⟨t1, t2⟩ := G.tn ht
    rw [if_neg (by decide)]
    by_cases h : 0 ≤ v ∧ v ≤ 5
    · rw [if_neg (i_nl.mpr h.1), if_pos h.2, if_pos h]
      refine x_ens.bi (e_RH_walkAsSet B F) ?_
      rintro q1 ⟨F1, B1, e36⟩
      have a5 := F1.2.2.2.2
      rw [e36] at a5
      have a2 := F1.2.1
      rw [e36] at a2
      generalize hk : t.toNatClampNeg = k at t1 t2
      subst t1
      rw [e_Sc_face G B1.2.1, e_Tr_isSharp (by omega), (a5 k t2).1, (a5 k t2).2.1, (a5 k t2).2.2, a2 0 (by omega)]
      dsimp only [Option.bind_some]
      by_cases v0 : v = 0
      · simp only [if_pos v0]; exact x_ens.so ⟨rfl, Or.inr F1⟩
      simp only [if_neg v0]
      by_cases v1 : v = 1
      · simp only [if_pos v1]; refine x_ens.gr (by rintro (h | h) <;> first | exact i_ge (by omega) h | omega | (rw [i_cl (by omega)] at h; omega)) ?_
        exact x_ens.so ⟨rfl, Or.inr F1⟩
      simp only [if_neg v1]
      by_cases v2 : v = 2
      · simp only [if_pos v2]; refine x_ens.gr (by rintro (h | h) <;> first | exact i_ge (by omega) h | omega | (rw [i_cl (by omega)] at h; omega)) ?_
        exact x_ens.so ⟨rfl, Or.inr F1⟩
      simp only [if_neg v2]
      by_cases v3 : v = 3
      · simp only [if_pos v3]; refine x_ens.gr (by rintro (h | h) <;> first | exact i_ge (by omega) h | omega | (rw [i_cl (by omega)] at h; omega)) ?_
        exact x_ens.so ⟨rfl, Or.inr F1⟩
      simp only [if_neg v3]
      by_cases v4 : v = 4
      · simp only [if_pos v4]
        by_cases hs : σ.1 36 0 < sp_abs (sp_of C (σ.1 36) (sp_nk C) 0 0 0 k)
        · simp only [if_pos hs]; exact x_ens.so ⟨rfl, Or.inr F1⟩
        · simp only [if_neg hs]; exact x_ens.so ⟨rfl, Or.inr F1⟩
      simp only [if_neg v4]
      refine x_ens.bf (e_Tr_isShown (i := k) G B1.2.1 (by omega)) (fun q e => fr_Tr_isShown_49_7 e) ?_
      intro q hq f2
      rw [F1.2.2.2.1, sp_shn_c (a2 0 (by omega)) (a2 5 (by omega)) (a5 k t2).2.2] at hq
      have F2 := F1.q (x_fr.su f2 rfl)
      rcases @sp_shn_b C (σ.1 36) 0 (sp_of C (σ.1 36) (sp_nk C) 0 0 0) k with hz | hz
      · rw [hz] at hq; rw [if_pos hq, hz]; exact x_ens.so ⟨rfl, Or.inr F2⟩
      · rw [hz] at hq; rw [if_neg (by rw [hq]; decide), hz]; exact x_ens.so ⟨rfl, Or.inr F2⟩
    · rw [if_neg h]
      by_cases h1 : v < 0
      · rw [if_pos h1]; exact x_ens.so ⟨rfl, F⟩
      · rw [if_neg h1, if_neg (fun x => h ⟨i_nl.mp h1, x⟩)]; exact x_ens.so ⟨rfl, F⟩
  · simp only [if_neg ht]
    rw [if_pos trivial]; exact x_ens.so ⟨rfl, F⟩
theorem x_B.m0 {C : Nat → Nat → Int32} {σ : xS} (B : x_B C σ) : x_B C (x_pI σ 60 0 0) ∧ x_S (σ.1 36) (sp_nk C) (x_pI σ 60 0 0) ∧ x_R C (σ.1 36) (sp_nk C) := by
  have B1 := B.t0 (v := 0)
  have := B1.S
  rw [y_pI_ne (q := 36) (by omega)] at this
  exact ⟨B1, this.1, this.2⟩
theorem x_B.go {C : Nat → Nat → Int32} {σ : xS} {T : Nat → Int32} (B : x_B C σ) (S : x_S T (sp_nk C) σ) (R : x_R C T (sp_nk C)) (h0 : σ.1 60 0 = 0) : x_ens (f_Mo_goesThrough_60 σ) (fun q => (∀ t, t ≤ sp_la C → q.2.1 84 t = sp_se C T (sp_nk C) 0 0 (Int32.ofNat t) ∧ q.2.1 85 t = sp_rg C T (sp_nk C) 0 0 0 t ∧ q.2.1 86 t = sp_of C T (sp_nk C) 0 0 0 t) ∧ x_B C q.2 ∧ x_S T (sp_nk C) q.2 ∧ q.2.1 60 0 = 0 ∧ x_fr [(82, 99999), (83, 99999), (84, 99999), (85, 99999), (86, 99999)] σ q.2) := by
  obtain ⟨q, e, h⟩ := e_Mo_goesThrough B.1 B.2.2.1 S R B.2.2.2.2.2.1.1 B.2.2.2.2.2.1.2.1 B.2.2.2.2.2.1.2.2 (by decide) (by decide)
  have f := fr_Mo_goesThrough_60 e
  exact ⟨q, e, h, B.fr f rfl, S.fr f rfl rfl, (f.ck 60 0 rfl).trans h0, x_fr.su f rfl⟩
theorem m_tenth {C : Nat → Nat → Int32} {σ : xS} {t v : Int32} (B : x_B C σ) : x_ens (f_Mo_tenth_60 t v σ) (fun q => x_an x_k1 (A_tenth C (σ.1 36) t v) q.1 q.2 ∧ x_B C q.2) := by
  unfold f_Mo_tenth_60 A_tenth
  dsimp only
  have G := B.1
  have hb := G.2.1.2
  obtain ⟨B1, S1, R1⟩ := B.m0
  rw [e_Mo_isTenth G B1.2.2.1 x_60]
  dsimp only [Option.bind_some]
  by_cases ht : 0 ≤ t ∧ t ≤ C 7 4
  · simp only [if_pos ht]
    obtain ⟨t1, t2⟩ := G.tn ht
    rw [if_neg (by decide), e_Mo_isWhat x_60]
    dsimp only [Option.bind_some]
    by_cases h : 0 ≤ v ∧ v ≤ 5
    · simp only [if_pos h]
      rw [if_neg (by decide)]
      refine x_ens.bi (B1.go S1 R1 x_60) ?_
      rintro q1 ⟨h1, B2, S2, k0, f1⟩
      generalize hk : t.toNatClampNeg = k at t1 t2
      subst t1
      unfold f_Mo_whoseIn_60
      rw [e_Mo_who G B2.2.2.1, e_Mo_isSharp (by omega), S2.1.1, (h1 k t2).1, (h1 k t2).2.1, (h1 k t2).2.2]
      dsimp only [Option.bind_some]
      by_cases v0 : v = 0
      · simp only [if_pos v0]; exact x_ens.so ⟨⟨k0, rfl⟩, B2⟩
      simp only [if_neg v0]
      by_cases v1 : v = 1
      · simp only [if_pos v1]; refine x_ens.gr (by rintro (h | h) <;> first | exact i_ge (by omega) h | omega | (rw [i_cl (by omega)] at h; omega)) ?_
        exact x_ens.so ⟨⟨k0, rfl⟩, B2⟩
      simp only [if_neg v1]
      by_cases v2 : v = 2
      · simp only [if_pos v2]; refine x_ens.gr (by rintro (h | h) <;> first | exact i_ge (by omega) h | omega | (rw [i_cl (by omega)] at h; omega)) ?_
        exact x_ens.so ⟨⟨k0, rfl⟩, B2⟩
      simp only [if_neg v2]
      by_cases v3 : v = 3
      · simp only [if_pos v3]; refine x_ens.gr (by rintro (h | h) <;> first | exact i_ge (by omega) h | omega | (rw [i_cl (by omega)] at h; omega)) ?_
        exact x_ens.so ⟨⟨k0, rfl⟩, B2⟩
      simp only [if_neg v3]
      by_cases v4 : v = 4
      · simp only [if_pos v4]
        by_cases hs : σ.1 36 0 < sp_abs (sp_of C (σ.1 36) (sp_nk C) 0 0 0 k)
        · simp only [if_pos hs]; exact x_ens.so ⟨⟨k0, rfl⟩, B2⟩
        · simp only [if_neg hs]; exact x_ens.so ⟨⟨k0, rfl⟩, B2⟩
      simp only [if_neg v4]
      refine x_ens.bf (e_Mo_isShown (i := k) G B2.2.2.1 S2 R1 B2.2.2.2.2.2.1.1 (by decide) (by decide) t2) (fun q e => fr_Mo_isShown_60 e) ?_
      intro q hq f2
      rw [sp_shn_c rfl rfl (h1 k t2).2.2] at hq
      have B3 := B2.fr f2 rfl
      have k3 := (f2.ck 60 0 rfl).trans k0
      rcases @sp_shn_b C (σ.1 36) 0 (sp_of C (σ.1 36) (sp_nk C) 0 0 0) k with hz | hz
      · rw [hz] at hq; rw [if_pos hq, hz]; exact x_ens.so ⟨⟨k3, rfl⟩, B3⟩
      · rw [hz] at hq; rw [if_neg (by rw [hq]; decide), hz]; exact x_ens.so ⟨⟨k3, rfl⟩, B3⟩
    · simp only [if_neg h]
      rw [if_pos trivial, x_pI_pI]; exact x_ens.so ⟨x_60, B.t0⟩
  · simp only [if_neg ht]
    rw [if_pos trivial, x_pI_pI]; exact x_ens.so ⟨x_60, B.t0⟩
theorem o_tenth (t v : Int32) : x_OP (w_tenth t v) (f_Mo_tenth_60 t v) := by
  refine x_OPq (f := f_RH_tenth_0 t v) (κ := x_k1) (A := fun C g => A_tenth C (g 36) t v) (fun C σ B F => c_tenth B F) (fun σ q e => fr_RH_tenth_0 e) rfl (fun C g g' h h55 h01 h59 => by simp only [h 35 (by simp), h 36 (by simp), h 39 (by simp), h 40 (by simp), h 41 (by simp), h 58 (by simp), h55, h01, h59]) (fun C σ B => m_tenth B) (fun σ q e => fr_Mo_tenth_60 e) rfl ?_ ?_
  · intro σ u τ e; unfold w_tenth; rw [e]; rfl
  · intro C σ B k τ e hk
    unfold A_tenth at hk
    (repeat' split at hk) <;> cases hk <;> (unfold w_tenth; rw [e]; exact ⟨rfl, by decide⟩)
theorem e_Mo_right0 {σ : xS} {w : Int32} (h0 : σ.1 60 0 = 0) (hw : w ≠ 0) : f_Mo_right_60 0 w σ = some (0, x_pI σ 60 0 w) := by rw [e_Mo_right h0 hw, if_pos rfl]
theorem e_Mo_right1 {σ : xS} {w : Int32} (h0 : σ.1 60 0 = 0) (hw : w ≠ 0) : f_Mo_right_60 1 w σ = some (1, σ) := by rw [e_Mo_right h0 hw, if_neg (by decide)]
theorem e_Mo_wr {β : Type} {σ : xS} {v lo hi w : Int32} (h0 : σ.1 60 0 = 0) (hw : w ≠ 0) (k : Int32 × xS → Option β) : ((f_Mo_within v lo hi σ).bind fun q2 => (f_Mo_right_60 q2.1 w q2.2).bind k) = if lo ≤ v ∧ v ≤ hi then k (1, σ) else k (0, x_pI σ 60 0 w) := by
  rw [e_Mo_within]
  dsimp only [Option.bind_some]
  rw [e_Mo_right h0 hw]
  by_cases h : lo ≤ v ∧ v ≤ hi
  · rw [if_pos h, if_pos h, if_neg (by decide)]; rfl
  · rw [if_neg h, if_neg h, if_pos rfl]; rfl
theorem x_ens.i2 {γ : Type} {c : Prop} [Decidable c] {x y : Option (γ × xS)} {a b : γ} {P : xS → Prop} (h : x_ens x (fun q => q.1 = a ∧ P q.2)) (g : x_ens y (fun q => q.1 = b ∧ P q.2)) : x_ens (if c then x else y) (fun q => q.1 = (if c then a else b) ∧ P q.2) := by
  by_cases hc : c
  · simp only [if_pos hc]; exact h
  · simp only [if_neg hc]; exact g
theorem x_iteP {γ : Type} {c : Prop} [Decidable c] {a b : γ} (P : γ → Prop) (h : P a) (g : P b) : P (if c then a else b) := by
  by_cases hc : c
  · rw [if_pos hc]; exact h
  · rw [if_neg hc]; exact g
def A_count (C : Nat → Nat → Int32) (g : Nat → Nat → Int32) (v : Int32) : Int32 ⊕ Nat :=
  if v = 0 then .inl (C 7 4) else if v = 1 then .inl (C 7 1) else if v = 2 then .inl (C 7 5) else if v = 3 then .inl (C 7 8) else if v = 4 then .inl (C 7 9) else if v = 5 then .inl (g 36 4) else if v = 6 then .inl (g 36 0) else if v = 7 then .inl (g 36 1)
  else if v = 8 then .inl (g 36 2) else if v = 9 then .inl (g 36 3) else if v = 10 then .inl (g 36 5) else if v = 11 then .inl (g 35 3) else if v = 12 then .inl (g 35 6) else if v = 13 then .inl (g 35 8) else if v = 14 then .inl (g 0 1) else if v = 15 then .inl (g 59 0) else if v = 16 then .inl (g 59 1) else if v = 17 then .inl (g 59 2) else .inr 2
theorem c_count {C : Nat → Nat → Int32} {σ : xS} {v : Int32} (B : x_B C σ) (F : y_F C σ) : x_ens (f_RH_count_0 v σ) (fun q => q.1 = A_count C σ.1 v ∧ y_F C q.2) := by
  unfold f_RH_count_0 A_count
  rw [B.2.1.1]
  repeat' refine x_ens.i2 (P := y_F C) ?_ ?_
  all_goals exact x_ens.so ⟨rfl, F⟩
theorem i_17 {v : Int32} (h : 0 ≤ v ∧ v ≤ 17) : v = 0 ∨ v = 1 ∨ v = 2 ∨ v = 3 ∨ v = 4 ∨ v = 5 ∨ v = 6 ∨ v = 7 ∨ v = 8 ∨ v = 9 ∨ v = 10 ∨ v = 11 ∨ v = 12 ∨ v = 13 ∨ v = 14 ∨ v = 15 ∨ v = 16 ∨ v = 17 := by
  obtain ⟨k, rfl, hk⟩ : ∃ k : Nat, v = Int32.ofNat k ∧ k ≤ 17 := ⟨v.toNatClampNeg, (i_ex h.1).1, i_nat (n := 17) (by omega) h.2⟩
  have : k = 0 ∨ k = 1 ∨ k = 2 ∨ k = 3 ∨ k = 4 ∨ k = 5 ∨ k = 6 ∨ k = 7 ∨ k = 8 ∨ k = 9 ∨ k = 10 ∨ k = 11 ∨ k = 12 ∨ k = 13 ∨ k = 14 ∨ k = 15 ∨ k = 16 ∨ k = 17 := by omega
  rcases this with rfl | rfl | rfl | rfl | rfl | rfl | rfl | rfl | rfl | rfl | rfl | rfl | rfl | rfl | rfl | rfl | rfl | rfl <;> decide
theorem m_count {C : Nat → Nat → Int32} {σ : xS} {v : Int32} (B : x_B C σ) : x_ens (f_Mo_count_60 v σ) (fun q => x_an x_k1 (A_count C σ.1 v) q.1 q.2 ∧ x_B C q.2) := by
  unfold f_Mo_count_60
  dsimp only
  have G := B.1
  obtain ⟨B1, S1, R1⟩ := B.m0
  rw [e_Mo_wr x_60 (by decide)]
  by_cases h : 0 ≤ v ∧ v ≤ 17
  · rw [if_pos h]
    dsimp only
    rw [if_neg (by decide), G.last B1.2.2.1, ← G.2.1.1]
    dsimp only [Option.bind_some]
    have U := B.2.2.2.1
    have e60 : ∀ k, k ≠ 0 → (x_pI σ 60 0 0).1 60 k = σ.1 60 k := fun k hk => by rw [x_pI_at]; exact if_neg hk
    have e79 : (x_pI σ 60 0 0).1 79 = σ.1 79 := y_pI_ne (by omega)
    have e68 : (x_pI σ 60 0 0).1 68 = σ.1 68 := y_pI_ne (by omega)
    rw [e79, e68, e60 2 (by omega), e60 3 (by omega), e60 4 (by omega), e60 5 (by omega), e60 56 (by omega), e60 74 (by omega), e60 76 (by omega), e60 15 (by omega)]
    have b9 := B.2.2.2.2.2.2.2.2.1
    rcases i_17 h with rfl | rfl | rfl | rfl | rfl | rfl | rfl | rfl | rfl | rfl | rfl | rfl | rfl | rfl | rfl | rfl | rfl | rfl
    · exact x_ens.so ⟨⟨x_60, rfl⟩, B1⟩
    · exact x_ens.so ⟨⟨x_60, B.2.2.1.1.2.1⟩, B1⟩
    · exact x_ens.so ⟨⟨x_60, B.2.2.1.1.2.2.1⟩, B1⟩
    · exact x_ens.so ⟨⟨x_60, B.2.2.2.2.1⟩, B1⟩
    · exact x_ens.so ⟨⟨x_60, B.2.2.1.1.2.2.2⟩, B1⟩
    · exact x_ens.so ⟨⟨x_60, U.2.1.2.2.2.2.2⟩, B1⟩
    · exact x_ens.so ⟨⟨x_60, U.2.1.1⟩, B1⟩
    · exact x_ens.so ⟨⟨x_60, U.2.1.2.1⟩, B1⟩
    · exact x_ens.so ⟨⟨x_60, U.2.1.2.2.1⟩, B1⟩
    · exact x_ens.so ⟨⟨x_60, U.2.1.2.2.2.1⟩, B1⟩
    · exact x_ens.so ⟨⟨x_60, U.2.1.2.2.2.2.1⟩, B1⟩
    · exact x_ens.so ⟨⟨x_60, U.2.2.2.1.1⟩, B1⟩
    · exact x_ens.so ⟨⟨x_60, U.2.2.2.2.1.1⟩, B1⟩
    · exact x_ens.so ⟨⟨x_60, U.2.2.2.2.2.1⟩, B1⟩
    · exact x_ens.so ⟨⟨x_60, B.2.2.2.2.2.2.1.1⟩, B1⟩
    · exact x_ens.so ⟨⟨x_60, (b9 0 (by omega)).symm⟩, B1⟩
    · exact x_ens.so ⟨⟨x_60, (b9 1 (by omega)).symm⟩, B1⟩
    · exact x_ens.so ⟨⟨x_60, (b9 2 (by omega)).symm⟩, B1⟩
  · rw [if_neg h]
    dsimp only
    rw [if_pos rfl, x_pI_pI]
    have hA : A_count C σ.1 v = .inr 2 := by
      unfold A_count
      rw [if_neg (show ¬ v = 0 from fun e => h (by rw [e]; decide)), if_neg (show ¬ v = 1 from fun e => h (by rw [e]; decide)), if_neg (show ¬ v = 2 from fun e => h (by rw [e]; decide)), if_neg (show ¬ v = 3 from fun e => h (by rw [e]; decide)), if_neg (show ¬ v = 4 from fun e => h (by rw [e]; decide)), if_neg (show ¬ v = 5 from fun e => h (by rw [e]; decide)), if_neg (show ¬ v = 6 from fun e => h (by rw [e]; decide)), if_neg (show ¬ v = 7 from fun e => h (by rw [e]; decide)), if_neg (show ¬ v = 8 from fun e => h (by rw [e]; decide)), if_neg (show ¬ v = 9 from fun e => h (by rw [e]; decide)), if_neg (show ¬ v = 10 from fun e => h (by rw [e]; decide)), if_neg (show ¬ v = 11 from fun e => h (by rw [e]; decide)), if_neg (show ¬ v = 12 from fun e => h (by rw [e]; decide)), if_neg (show ¬ v = 13 from fun e => h (by rw [e]; decide)), if_neg (show ¬ v = 14 from fun e => h (by rw [e]; decide)), if_neg (show ¬ v = 15 from fun e => h (by rw [e]; decide)), if_neg (show ¬ v = 16 from fun e => h (by rw [e]; decide)), if_neg (show ¬ v = 17 from fun e => h (by rw [e]; decide))]
    rw [hA]
    exact x_ens.so ⟨x_60, B.t0⟩
theorem o_count (v : Int32) : x_OP (w_count v) (f_Mo_count_60 v) := by
  refine x_OPq (f := f_RH_count_0 v) (κ := x_k1) (A := fun C g => A_count C g v) (fun C σ B F => c_count B F) (fun σ q e => fr_RH_count_0 e) rfl (fun C g g' h h55 h01 h59 => by unfold A_count; rw [h 36 (by simp), h 35 (by simp), h01, h59]) (fun C σ B => m_count B) (fun σ q e => fr_Mo_count_60 e) rfl ?_ ?_
  · intro σ u τ e; unfold w_count; rw [e]; rfl
  · intro C σ B k τ e hk
    have : k = 2 := by
      have key : ∀ k, A_count C σ.1 v = .inr k → k = 2 := by
        unfold A_count
        repeat' refine x_iteP (fun x => ∀ k, x = Sum.inr k → k = 2) ?_ ?_
        all_goals (intro k e; cases e)
        rfl
      exact key k hk
    subst this
    unfold w_count; rw [e]; exact ⟨rfl, by decide⟩
theorem e_RH_isMark {C : Nat → Nat → Int32} {σ : xS} {v : Int32} (G : x_G C) (K : y_K C σ) : f_RH_isMark_0 v σ = some (if 0 ≤ v ∧ v < C 7 8 then 1 else 0, σ) := by
  unfold f_RH_isMark_0
  rw [K.1]
  by_cases h : v < 0
  · rw [if_pos h, if_neg (fun x => i_nl.mpr x.1 h)]
  · rw [if_neg h]
    by_cases h2 : C 7 8 ≤ v
    · rw [if_pos h2, if_neg (fun x => i_nl.mpr h2 x.2)]
    · have h6 : ¬ (6 : Int32) ≤ v := by
        intro h3
        have h5 := G.2.2.2.1
        rw [h5.1] at h2
        exact h2 (i_tr ((i_le (k := 6) (by omega) (by omega)).mpr h5.2) h3)
      rw [if_neg h2, if_neg h6, if_pos ⟨i_nl.mp h, i_nle.mp h2⟩]
theorem x_G.mk {C : Nat → Nat → Int32} (G : x_G C) {v : Int32} (h : 0 ≤ v ∧ v < C 7 8) : v = Int32.ofNat v.toNatClampNeg ∧ v.toNatClampNeg < sp_nk C := by
  have h5 := G.2.2.2.1
  refine ⟨(i_ex h.1).1, ?_⟩
  have := h.2
  have k := i_ex h.1
  rw [h5.1, k.1, i_lt k.2 (by omega)] at this
  exact this
def A_mark (C : Nat → Nat → Int32) (S : Nat → Int32) (v : Int32) : Int32 ⊕ Nat := if 0 ≤ v ∧ v < C 7 8 then .inl (S (6 + v.toNatClampNeg)) else .inr 2
theorem c_mark {C : Nat → Nat → Int32} {σ : xS} {v : Int32} (B : x_B C σ) (F : y_F C σ) : x_ens (f_RH_mark_0 v σ) (fun q => q.1 = A_mark C (σ.1 36) v ∧ y_F C q.2) := by
  unfold f_RH_mark_0 A_mark
  have hn := B.1.2.2.2.1.2
  rw [e_RH_isMark B.1 B.2.1]
  dsimp only [Option.bind_some]
  by_cases h : 0 ≤ v ∧ v < C 7 8
  · simp only [if_pos h]
    obtain ⟨k1, k2⟩ := B.1.mk h
    rw [if_neg (by decide)]
    generalize v.toNatClampNeg = k at k1 k2
    subst k1
    rw [i_6, i_cl (by omega)]
    refine x_ens.gr (by rintro (h | h) <;> first | exact i_ge (by omega) h | omega | (rw [i_cl (by omega)] at h; omega)) ?_
    exact x_ens.so ⟨rfl, F⟩
  · simp only [if_neg h]
    rw [if_pos trivial]; exact x_ens.so ⟨rfl, F⟩
theorem m_mark {C : Nat → Nat → Int32} {σ : xS} {v : Int32} (B : x_B C σ) : x_ens (f_Mo_mark_60 v σ) (fun q => x_an x_k1 (A_mark C (σ.1 36) v) q.1 q.2 ∧ x_B C q.2) := by
  unfold f_Mo_mark_60 A_mark f_Mo_mark_60_J22 f_Mo_mark_60_J23
  dsimp only
  have hn := B.1.2.2.2.1.2
  obtain ⟨B1, S1, R1⟩ := B.m0
  rw [e_Mo_right0 x_60 (by decide), e_Mo_right1 x_60 (by decide), B1.2.2.2.2.1]
  dsimp only [Option.bind_some]
  rw [if_pos rfl, if_neg (show ¬ (1 : Int32) = 0 by decide), x_pI_pI]
  by_cases h : 0 ≤ v ∧ v < C 7 8
  · rw [if_pos h, if_neg (i_nl.mpr h.1), if_neg (i_nle.mpr h.2)]
    obtain ⟨k1, k2⟩ := B.1.mk h
    generalize v.toNatClampNeg = k at k1 k2
    subst k1
    rw [i_6, i_cl (by omega)]
    refine x_ens.gr (by rintro (h | h) <;> first | exact i_ge (by omega) h | omega | (rw [i_cl (by omega)] at h; omega)) ?_
    exact x_ens.so ⟨⟨x_60, S1.2.1 k k2⟩, B1⟩
  · rw [if_neg h]
    by_cases h1 : v < 0
    · rw [if_pos h1]; exact x_ens.so ⟨x_60, B.t0⟩
    · rw [if_neg h1, if_pos (i_nl.mp (fun x => h ⟨i_nl.mp h1, x⟩))]; exact x_ens.so ⟨x_60, B.t0⟩
theorem o_mark (v : Int32) : x_OP (w_mark v) (f_Mo_mark_60 v) := by
  refine x_OPq (f := f_RH_mark_0 v) (κ := x_k1) (A := fun C g => A_mark C (g 36) v) (fun C σ B F => c_mark B F) (fun σ q e => fr_RH_mark_0 e) rfl (fun C g g' h h55 h01 h59 => by simp only [h 35 (by simp), h 36 (by simp), h 39 (by simp), h 40 (by simp), h 41 (by simp), h 58 (by simp), h55, h01, h59]) (fun C σ B => m_mark B) (fun σ q e => fr_Mo_mark_60 e) rfl ?_ ?_
  · intro σ u τ e; unfold w_mark; rw [e]; rfl
  · intro C σ B k τ e hk
    unfold A_mark at hk
    (repeat' split at hk) <;> cases hk <;> (unfold w_mark; rw [e]; exact ⟨rfl, by decide⟩)
def A_inches (C : Nat → Nat → Int32) (S : Nat → Int32) (t v : Int32) : Int32 ⊕ Nat := if 0 ≤ t ∧ t ≤ C 7 4 then (if 0 ≤ v ∧ v ≤ 1 then .inl (sp_pl C S 0 t v) else .inr 2) else .inr 2
theorem i_t0 {t : Int32} (h : 0 ≤ t) : (if 0 < t then t else 0) - 0 = t := by grind
theorem c_inches {C : Nat → Nat → Int32} {σ : xS} {t v : Int32} (B : x_B C σ) (F : y_F C σ) : x_ens (f_RH_inches_0 t v σ) (fun q => q.1 = A_inches C (σ.1 36) t v ∧ y_F C q.2) := by
  unfold f_RH_inches_0 A_inches
  rw [e_RH_isTenth B.2.1]
  dsimp only [Option.bind_some]
  by_cases ht : 0 ≤ t ∧ t ≤ C 7 4
  · simp only [if_pos ht]
    rw [if_neg (by decide), e_Sc_herIn B.2.1]
    dsimp only [Option.bind_some]
    rw [e_Sc_placeOf]
    dsimp only [Option.bind_some]
    by_cases h : 0 ≤ v ∧ v ≤ 1
    · rw [if_neg (i_nl.mpr h.1), if_pos h.2, if_pos h]
      refine x_ens.so ⟨?_, F⟩
      unfold sp_pl
      rw [i_t0 ht.1]
    · rw [if_neg h]
      by_cases h1 : v < 0
      · rw [if_pos h1]; exact x_ens.so ⟨rfl, F⟩
      · rw [if_neg h1, if_neg (fun x => h ⟨i_nl.mp h1, x⟩)]; exact x_ens.so ⟨rfl, F⟩
  · simp only [if_neg ht]
    rw [if_pos trivial]; exact x_ens.so ⟨rfl, F⟩
theorem m_inches {C : Nat → Nat → Int32} {σ : xS} {t v : Int32} (B : x_B C σ) : x_ens (f_Mo_inches_60 t v σ) (fun q => x_an x_k1 (A_inches C (σ.1 36) t v) q.1 q.2 ∧ x_B C q.2) := by
  unfold f_Mo_inches_60 A_inches
  dsimp only
  have G := B.1
  obtain ⟨B1, S1, R1⟩ := B.m0
  rw [e_Mo_isTenth G B1.2.2.1 x_60]
  dsimp only [Option.bind_some]
  by_cases ht : 0 ≤ t ∧ t ≤ C 7 4
  · simp only [if_pos ht]
    rw [if_neg (by decide), e_Mo_isWhat x_60]
    dsimp only [Option.bind_some]
    by_cases h : 0 ≤ v ∧ v ≤ 1
    · simp only [if_pos h]
      rw [if_neg (by decide), e_Mo_inchesOf G B1.2.2.1 S1.1.2.2.2.2.1 R1.2.2.2.2.1 B1.2.2.2.2.2.1.1 (by decide) (by decide) ht.1 (by rw [← G.2.1.1]; exact ht.2)]
      exact x_ens.so ⟨⟨x_60, rfl⟩, B1⟩
    · simp only [if_neg h]
      rw [if_pos trivial, x_pI_pI]; exact x_ens.so ⟨x_60, B.t0⟩
  · simp only [if_neg ht]
    rw [if_pos trivial, x_pI_pI]; exact x_ens.so ⟨x_60, B.t0⟩
theorem o_inches (t v : Int32) : x_OP (w_inches t v) (f_Mo_inches_60 t v) := by
  refine x_OPq (f := f_RH_inches_0 t v) (κ := x_k1) (A := fun C g => A_inches C (g 36) t v) (fun C σ B F => c_inches B F) (fun σ q e => fr_RH_inches_0 e) rfl (fun C g g' h h55 h01 h59 => by simp only [h 35 (by simp), h 36 (by simp), h 39 (by simp), h 40 (by simp), h 41 (by simp), h 58 (by simp), h55, h01, h59]) (fun C σ B => m_inches B) (fun σ q e => fr_Mo_inches_60 e) rfl ?_ ?_
  · intro σ u τ e; unfold w_inches; rw [e]; rfl
  · intro C σ B k τ e hk
    unfold A_inches at hk
    (repeat' split at hk) <;> cases hk <;> (unfold w_inches; rw [e]; exact ⟨rfl, by decide⟩)
def A_turn (C : Nat → Nat → Int32) (v : Int32) : Int32 ⊕ Nat := if 12 ≤ v ∧ v ≤ 480 then .inl (sp_tn C v) else .inr 1
theorem e_RH_isInches {σ : xS} {v : Int32} : f_RH_isInches v σ = some (if 12 ≤ v ∧ v ≤ 480 then 1 else 0, σ) := by
  unfold f_RH_isInches
  by_cases h : v < 12
  · rw [if_pos h, if_neg (fun x => i_nl.mpr x.1 h)]
  · rw [if_neg h]
    by_cases h2 : 480 < v
    · rw [if_pos h2, if_neg (fun x => i_nl.mpr x.2 h2)]
    · rw [if_neg h2, if_pos ⟨i_nl.mp h, i_nl.mp h2⟩]
theorem c_turn {C : Nat → Nat → Int32} {σ : xS} {v : Int32} (B : x_B C σ) (F : y_F C σ) : x_ens (f_RH_turn_0 v σ) (fun q => q.1 = A_turn C v ∧ y_F C q.2) := by
  unfold f_RH_turn_0 A_turn
  rw [e_RH_isInches]
  dsimp only [Option.bind_some]
  rw [e_Sc_turnOf B.2.1]
  by_cases h : 12 ≤ v ∧ v ≤ 480
  · simp only [if_pos h]; rw [if_neg (by decide)]; exact x_ens.so ⟨rfl, F⟩
  · simp only [if_neg h]; rw [if_pos trivial]; exact x_ens.so ⟨rfl, F⟩
theorem m_turn {C : Nat → Nat → Int32} {σ : xS} {v : Int32} (B : x_B C σ) : x_ens (f_Mo_turn_60 v σ) (fun q => x_an x_k1 (A_turn C v) q.1 q.2 ∧ x_B C q.2) := by
  unfold f_Mo_turn_60 A_turn
  dsimp only
  obtain ⟨B1, S1, R1⟩ := B.m0
  rw [e_Mo_wr x_60 (by decide)]
  by_cases h : 12 ≤ v ∧ v ≤ 480
  · simp only [if_pos h]
    rw [if_neg (by decide)]
    refine x_ens.bf (e_Mo_turnOf B.1 B1.2.2.1 h.1 h.2) (fun q e => fr_Mo_turnOf_60 e) ?_
    intro q hq f
    exact x_ens.so ⟨⟨(f.ck 60 0 rfl).trans x_60, hq⟩, B1.fr f rfl⟩
  · simp only [if_neg h]
    rw [if_pos trivial, x_pI_pI]; exact x_ens.so ⟨x_60, B.t0⟩
theorem o_turn (v : Int32) : x_OP (w_turn v) (f_Mo_turn_60 v) := by
  refine x_OPq (f := f_RH_turn_0 v) (κ := x_k1) (A := fun C g => A_turn C v) (fun C σ B F => c_turn B F) (fun σ q e => fr_RH_turn_0 e) rfl (fun C g g' h h55 h01 h59 => by simp only [h 35 (by simp), h 36 (by simp), h 39 (by simp), h 40 (by simp), h 41 (by simp), h 58 (by simp), h55, h01, h59]) (fun C σ B => m_turn B) (fun σ q e => fr_Mo_turn_60 e) rfl ?_ ?_
  · intro σ u τ e; unfold w_turn; rw [e]; rfl
  · intro C σ B k τ e hk
    unfold A_turn at hk
    (repeat' split at hk) <;> cases hk <;> (unfold w_turn; rw [e]; exact ⟨rfl, by decide⟩)
def A_kept (n : Int32) (g : Nat → Int32) (v : Int32) : Int32 ⊕ Nat := if 0 ≤ v ∧ v < n then .inl (g v.toNatClampNeg) else .inr 2
theorem i_3 {n v : Int32} (h : n = -1 ∨ 0 ≤ n ∧ n ≤ 3) (h0 : 0 ≤ v) (h1 : v < n) : v < 3 ∧ ¬ n = -1 ∧ v ≤ 2 := by grind
theorem i_nn {n v : Int32} (h : 0 ≤ v) (h1 : v < n) : v.toNatClampNeg < n.toNatClampNeg := by
  have k := i_ex h
  have k2 := i_ex (v := n) (by grind)
  rw [k.1, k2.1, i_lt k.2 k2.2] at h1
  exact h1
theorem c_kept {C : Nat → Nat → Int32} {σ : xS} {v : Int32} (B : x_B C σ) (F : y_F C σ) : x_ens (f_RH_kept_0 v σ) (fun q => q.1 = A_kept (σ.1 55 4) (σ.1 58) v ∧ y_F C q.2) := by
  unfold f_RH_kept_0 A_kept
  have b := B.2.2.2.2.2.2.2.2.2.2
  by_cases h : 0 ≤ v ∧ v < σ.1 55 4
  · have k := i_3 b.2.1 h.1 h.2
    rw [if_pos h, if_neg (i_nl.mpr h.1), if_neg (i_nle.mpr h.2), if_pos k.1, if_neg (i_gd (n := 2) (by omega) (i_nl.mpr h.1) k.2.2)]
    exact x_ens.so ⟨rfl, F⟩
  · rw [if_neg h]
    by_cases h1 : v < 0
    · rw [if_pos h1]; exact x_ens.so ⟨rfl, F⟩
    · rw [if_neg h1, if_pos (i_nl.mp (fun x => h ⟨i_nl.mp h1, x⟩))]; exact x_ens.so ⟨rfl, F⟩
theorem m_kept {C : Nat → Nat → Int32} {σ : xS} {v : Int32} (B : x_B C σ) : x_ens (f_Mo_kept_60 v σ) (fun q => x_an x_k1 (A_kept (σ.1 55 4) (σ.1 58) v) q.1 q.2 ∧ x_B C q.2) := by
  unfold f_Mo_kept_60 A_kept f_Mo_kept_60_J30 f_Mo_kept_60_J31
  dsimp only
  obtain ⟨B1, S1, R1⟩ := B.m0
  have b := B.2.2.2.2.2.2.2.2.2.2
  rw [e_Mo_right0 x_60 (by decide), e_Mo_right1 x_60 (by decide)]
  dsimp only [Option.bind_some]
  rw [if_pos rfl, if_neg (show ¬ (1 : Int32) = 0 by decide), x_pI_pI, show (x_pI σ 60 0 0).1 60 68 = σ.1 60 68 from rfl, ← b.1]
  by_cases h : 0 ≤ v ∧ v < σ.1 55 4
  · have k := i_3 b.2.1 h.1 h.2
    rw [if_pos h, if_neg k.2.1, if_neg (i_nl.mpr h.1), if_neg (i_nle.mpr h.2), if_neg (i_gd (n := 2) (by omega) (i_nl.mpr h.1) k.2.2), y_pI_ne (by omega)]
    exact x_ens.so ⟨⟨x_60, (b.2.2 _ (i_nn h.1 h.2)).symm⟩, B1⟩
  · rw [if_neg h]
    by_cases h0 : σ.1 55 4 = -1
    · rw [if_pos h0]; exact x_ens.so ⟨x_60, B.t0⟩
    · rw [if_neg h0]
      by_cases h1 : v < 0
      · rw [if_pos h1]; exact x_ens.so ⟨x_60, B.t0⟩
      · rw [if_neg h1, if_pos (i_nl.mp (fun x => h ⟨i_nl.mp h1, x⟩))]; exact x_ens.so ⟨x_60, B.t0⟩
theorem o_kept (v : Int32) : x_OP (w_kept v) (f_Mo_kept_60 v) := by
  refine x_OPq (f := f_RH_kept_0 v) (κ := x_k1) (A := fun C g => A_kept (g 55 4) (g 58) v) (fun C σ B F => c_kept B F) (fun σ q e => fr_RH_kept_0 e) rfl (fun C g g' h h55 h01 h59 => by simp only [h 35 (by simp), h 36 (by simp), h 39 (by simp), h 40 (by simp), h 41 (by simp), h 58 (by simp), h55, h01, h59]) (fun C σ B => m_kept B) (fun σ q e => fr_Mo_kept_60 e) rfl ?_ ?_
  · intro σ u τ e; unfold w_kept; rw [e]; rfl
  · intro C σ B k τ e hk
    unfold A_kept at hk
    (repeat' split at hk) <;> cases hk <;> (unfold w_kept; rw [e]; exact ⟨rfl, by decide⟩)
