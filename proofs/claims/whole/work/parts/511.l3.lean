def x_A (C : Nat → Nat → Int32) (p v : Int32) : Prop := (p = 0 ∧ 1 ≤ v ∧ v ≤ 60) ∨ (p = 1 ∧ 0 ≤ v ∧ v ≤ 24) ∨ (p = 2 ∧ 1 ≤ v ∧ v ≤ 90) ∨ (p = 3 ∧ -30 ≤ v ∧ v ≤ 30) ∨ (p = 4 ∧ (v = -1 ∨ 0 ≤ v ∧ v.toNatClampNeg < sp_nh C)) ∨ (p = 5 ∧ 0 ≤ v ∧ v ≤ 200) ∨ ∃ i, i < sp_nk C ∧ p = Int32.ofNat (6 + i) ∧ 12 ≤ v ∧ v ≤ 480
def x_pn (p : Int32) : Int32 := if p = 4 then 5 else if p = 5 then 4 else p
def x_U (C : Nat → Nat → Int32) (σ : xS) (b pn pa ps pb ka ks kb : Nat) : Prop :=
  x_R C (σ.1 (b + 1)) (sp_nk C) ∧ (σ.1 pn 0 = σ.1 (b + 1) 0 ∧ σ.1 pn 1 = σ.1 (b + 1) 1 ∧ σ.1 pn 2 = σ.1 (b + 1) 2 ∧ σ.1 pn 3 = σ.1 (b + 1) 3 ∧ σ.1 pn 4 = σ.1 (b + 1) 5 ∧ σ.1 pn 5 = σ.1 (b + 1) 4) ∧ (∀ i, i < sp_nk C → σ.1 pn (6 + i) = σ.1 (b + 1) (6 + i)) ∧
  (σ.1 60 ka = σ.1 b 3 ∧ 0 ≤ σ.1 b 3 ∧ σ.1 b 3 ≤ 40 ∧ ∀ i, i < (σ.1 b 3).toNatClampNeg → x_A C (σ.1 (b + 2) i) (σ.1 (b + 3) i) ∧ σ.1 pa (2 * i) = x_pn (σ.1 (b + 2) i) ∧ σ.1 pa (2 * i + 1) = σ.1 (b + 3) i) ∧
  (σ.1 60 ks = σ.1 b 6 ∧ 0 ≤ σ.1 b 6 ∧ σ.1 b 6 ≤ 8 ∧ ∀ i, i < (σ.1 b 6).toNatClampNeg → σ.1 ps (2 * i) = σ.1 (b + 4) i ∧ σ.1 ps (2 * i + 1) = σ.1 (b + 5) i ∧ 0 ≤ σ.1 (b + 4) i ∧ σ.1 (b + 4) i ≤ C 7 4) ∧
  (σ.1 60 kb = σ.1 b 8 ∧ 0 ≤ σ.1 b 8 ∧ σ.1 b 8 ≤ 16 ∧ ∀ i, i < (σ.1 b 8).toNatClampNeg → σ.1 pb i = σ.1 (b + 6) i ∧ 12 ≤ σ.1 (b + 6) i ∧ σ.1 (b + 6) i ≤ 480)
def x_B (C : Nat → Nat → Int32) (σ : xS) : Prop :=
  x_G C ∧ y_K C σ ∧ x_M C σ ∧ x_U C σ 35 79 81 90 91 56 74 76 ∧ σ.1 60 4 = C 7 8 ∧ (σ.1 60 59 = 0 ∧ σ.1 60 60 = 0 ∧ σ.1 60 64 = 0) ∧
  (σ.1 60 15 = σ.1 0 1 ∧ 0 ≤ σ.1 0 1 ∧ σ.1 0 1 ≤ 700 ∧ ∀ k, k < (σ.1 0 1).toNatClampNeg → σ.1 1 k = σ.1 67 k) ∧ σ.1 0 11 = σ.1 60 17 ∧ (∀ k, k < 3 → σ.1 59 k = σ.1 68 k) ∧
  (σ.1 0 7 = σ.1 60 78 ∧ (σ.1 0 7 = 0 ∨ σ.1 0 7 = 1 ∧ x_U C σ 42 92 93 94 95 79 80 81)) ∧ (σ.1 55 4 = σ.1 60 68 ∧ (σ.1 55 4 = -1 ∨ 0 ≤ σ.1 55 4 ∧ σ.1 55 4 ≤ 3) ∧ ∀ i, i < (σ.1 55 4).toNatClampNeg → σ.1 58 i = σ.1 87 i)
def x_F1 (C : Nat → Nat → Int32) (σ : xS) : Prop := σ.1 0 9 = 1 ∧ (∀ k, k < 12 → σ.1 50 k = σ.1 36 k) ∧ σ.1 49 5 = C 7 4 ∧ σ.1 49 2 = 0 ∧ ∀ t, t ≤ sp_la C → σ.1 51 t = sp_se C (σ.1 36) (sp_nk C) 0 0 (Int32.ofNat t) ∧ σ.1 53 t = sp_rg C (σ.1 36) (sp_nk C) 0 0 0 t ∧ σ.1 54 t = sp_of C (σ.1 36) (sp_nk C) 0 0 0 t
def y_F (C : Nat → Nat → Int32) (σ : xS) : Prop := σ.1 0 9 = 0 ∨ x_F1 C σ
abbrev x_Q : List (Nat × Nat) := [(0, 9), (17, 99999), (18, 99999), (49, 99999), (50, 99999), (51, 99999), (52, 99999), (53, 99999), (54, 99999), (55, 1), (56, 99999), (57, 99999), (60, 0), (60, 26), (60, 65), (60, 66), (60, 67), (60, 69), (60, 73), (80, 99999), (82, 99999), (83, 99999), (84, 99999), (85, 99999), (86, 99999), (88, 99999), (89, 99999), (96, 99999)]
theorem x_U.of {C : Nat → Nat → Int32} {σ τ : xS} {b pn pa ps pb ka ks kb : Nat} (U : x_U C σ b pn pa ps pb ka ks kb) (e0 : τ.1 b = σ.1 b) (e1 : τ.1 (b + 1) = σ.1 (b + 1)) (e2 : τ.1 (b + 2) = σ.1 (b + 2)) (e3 : τ.1 (b + 3) = σ.1 (b + 3)) (e4 : τ.1 (b + 4) = σ.1 (b + 4)) (e5 : τ.1 (b + 5) = σ.1 (b + 5)) (e6 : τ.1 (b + 6) = σ.1 (b + 6))
    (f1 : τ.1 pn = σ.1 pn) (f2 : τ.1 pa = σ.1 pa) (f3 : τ.1 ps = σ.1 ps) (f4 : τ.1 pb = σ.1 pb) (g1 : τ.1 60 ka = σ.1 60 ka) (g2 : τ.1 60 ks = σ.1 60 ks) (g3 : τ.1 60 kb = σ.1 60 kb) : x_U C τ b pn pa ps pb ka ks kb := by
  unfold x_U
  rw [e0, e1, e2, e3, e4, e5, e6, f1, f2, f3, f4, g1, g2, g3]
  exact U
theorem x_B.fr2 {C : Nat → Nat → Int32} {σ τ : xS} (B : x_B C σ) (h : x_fr ([(79, 99999), (60, 59), (60, 60), (60, 64), (60, 4)] ++ x_Q) σ τ) (e1 : τ.1 79 = σ.1 79) (e2 : τ.1 60 59 = σ.1 60 59) (e3 : τ.1 60 60 = σ.1 60 60) (e4 : τ.1 60 64 = σ.1 60 64) (e5 : τ.1 60 4 = σ.1 60 4) : x_B C τ := by
  obtain ⟨b1, b2, b3, b4, b5, b6, b7, b8, b9, b10, b11⟩ := B
  refine ⟨b1, b2.fr h rfl, b3.fr h rfl rfl rfl rfl rfl rfl rfl, b4.of (h.ce 35 rfl) (h.ce 36 rfl) (h.ce 37 rfl) (h.ce 38 rfl) (h.ce 39 rfl) (h.ce 40 rfl) (h.ce 41 rfl) e1 (h.ce 81 rfl) (h.ce 90 rfl) (h.ce 91 rfl) (h.ck 60 56 rfl) (h.ck 60 74 rfl) (h.ck 60 76 rfl), e5.trans b5, ?_, ?_, ?_, ?_, ?_, ?_⟩
  · rw [e2, e3, e4]; exact b6
  · rw [h.ck 60 15 rfl, h.ck 0 1 rfl, h.ce 1 rfl, h.ce 67 rfl]; exact b7
  · rw [h.ck 0 11 rfl, h.ck 60 17 rfl]; exact b8
  · rw [h.ce 59 rfl, h.ce 68 rfl]; exact b9
  · rw [h.ck 0 7 rfl, h.ck 60 78 rfl]
    refine ⟨b10.1, b10.2.imp id (fun x => ⟨x.1, x.2.of (h.ce 42 rfl) (h.ce 43 rfl) (h.ce 44 rfl) (h.ce 45 rfl) (h.ce 46 rfl) (h.ce 47 rfl) (h.ce 48 rfl) (h.ce 92 rfl) (h.ce 93 rfl) (h.ce 94 rfl) (h.ce 95 rfl) (h.ck 60 79 rfl) (h.ck 60 80 rfl) (h.ck 60 81 rfl)⟩)⟩
  · rw [h.ck 55 4 rfl, h.ck 60 68 rfl, h.ce 58 rfl, h.ce 87 rfl]; exact b11
theorem x_B.fr {C : Nat → Nat → Int32} {W : List (Nat × Nat)} {σ τ : xS} (B : x_B C σ) (h : x_fr W σ τ) (hs : (W.all fun w => x_in x_Q w.1 w.2 || x_in x_Q w.1 99999) = true) : x_B C τ := by
  have h' : x_fr x_Q σ τ := x_fr.su h hs
  exact B.fr2 (x_fr.su h' rfl) (h'.ce 79 rfl) (h'.ck 60 59 rfl) (h'.ck 60 60 rfl) (h'.ck 60 64 rfl) (h'.ck 60 4 rfl)
theorem y_F.fr {C : Nat → Nat → Int32} {W : List (Nat × Nat)} {σ τ : xS} (F : y_F C σ) (h : x_fr W σ τ) (hs : (W.all fun w => decide (60 ≤ w.1)) = true) : y_F C τ := by
  have k : ∀ p, p < 60 → τ.1 p = σ.1 p := by
    intro p hp
    refine h.ce p ?_
    rw [List.all_eq_true] at hs ⊢
    intro w hw
    have := hs w hw
    simp only [decide_eq_true_eq] at this
    simp only [bne_iff_ne]; omega
  unfold y_F x_F1
  rw [k 0 (by omega), k 50 (by omega), k 36 (by omega), k 49 (by omega), k 51 (by omega), k 53 (by omega), k 54 (by omega)]
  exact F
theorem x_B.S {C : Nat → Nat → Int32} {σ : xS} (B : x_B C σ) : x_S (σ.1 36) (sp_nk C) σ ∧ x_R C (σ.1 36) (sp_nk C) := by
  obtain ⟨b1, b2, b3, b4, b5, -⟩ := B
  exact ⟨⟨b4.2.1, b4.2.2.1, b5.trans b1.2.2.2.1.1⟩, b4.1⟩
section CG
variable {C : Nat → Nat → Int32} {T T' : Nat → Int32} {n : Nat} {late sh ah : Int32}
theorem sp_saw_c (h1 : T 1 = T' 1) (h5 : T 5 = T' 5) (t : Int32) : sp_saw C T late sh t = sp_saw C T' late sh t := by
  unfold sp_saw sp_pl; rw [h1, h5]
theorem sp_ck_c (h1 : T 1 = T' 1) (h5 : T 5 = T' 5) (hm : ∀ i, i < n → T (6 + i) = T' (6 + i)) (t : Int32) : sp_ck C T n late sh t ↔ sp_ck C T' n late sh t := by
  unfold sp_ck; rw [sp_saw_c h1 h5]; exact sp_nr_congr hm
theorem sp_se_c (h1 : T 1 = T' 1) (h3 : T 3 = T' 3) (h5 : T 5 = T' 5) (hm : ∀ i, i < n → T (6 + i) = T' (6 + i)) (t : Int32) : sp_se C T n late sh t = sp_se C T' n late sh t := by
  unfold sp_se sp_ju
  by_cases h : sp_ck C T' n late sh t
  · rw [if_pos h, if_pos ((sp_ck_c h1 h5 hm t).mpr h), sp_saw_c h1 h5]
  · rw [if_neg h, if_neg (fun x => h ((sp_ck_c h1 h5 hm t).mp x)), sp_saw_c h1 h5, h3]
theorem sp_ri_c (h5 : T 5 = T' 5) (t : Int32) : sp_ri C T late t = sp_ri C T' late t := by
  unfold sp_ri sp_pl; rw [h5]
theorem sp_rg_c (h1 : T 1 = T' 1) (h2 : T 2 = T' 2) (h3 : T 3 = T' 3) (h4 : T 4 = T' 4) (h5 : T 5 = T' 5) (hm : ∀ i, i < n → T (6 + i) = T' (6 + i)) : ∀ t, sp_rg C T n late sh ah t = sp_rg C T' n late sh ah t
  | 0 => sp_ri_c h5 _
  | t + 1 => by
    unfold sp_rg sp_aim sp_told
    rw [sp_rg_c h1 h2 h3 h4 h5 hm t, h2, h4, sp_se_c h1 h3 h5 hm, sp_se_c h1 h3 h5 hm]
    simp only [sp_ck_c h1 h5 hm]
theorem sp_of_c (h1 : T 1 = T' 1) (h2 : T 2 = T' 2) (h3 : T 3 = T' 3) (h4 : T 4 = T' 4) (h5 : T 5 = T' 5) (hm : ∀ i, i < n → T (6 + i) = T' (6 + i)) : ∀ t, sp_of C T n late sh ah t = sp_of C T' n late sh ah t
  | 0 => rfl
  | t + 1 => by
    show sp_ri C T late _ - sp_rg C T n late sh ah (t + 1) = sp_ri C T' late _ - sp_rg C T' n late sh ah (t + 1)
    rw [sp_rg_c h1 h2 h3 h4 h5 hm, sp_ri_c h5]
end CG
theorem x_cp_at {σ : xS} {a b n k : Nat} (h : k < n) : (x_cp σ a b n).1 b k = σ.1 a k := by unfold x_cp; simp [h]
theorem x_cp_ne {σ : xS} {a b n p : Nat} (h : p ≠ b) : (x_cp σ a b n).1 p = σ.1 p := by funext k; unfold x_cp; simp [h]
theorem e_RH_take (σ : xS) : ∃ τ, f_RH_takeSettings_0 σ = some ((), τ) ∧ (∀ k, k < 12 → τ.1 50 k = σ.1 36 k) ∧ τ.1 49 1 = σ.1 7 8 ∧ τ.1 49 2 = 0 ∧ τ.1 49 3 = 0 ∧ τ.1 49 4 = 0 ∧ τ.1 0 9 = 0 ∧ x_fr [(0, 9), (49, 99999), (50, 99999)] σ τ := by
  have e : ∃ q, f_RH_takeSettings_0 σ = some q := by
    unfold f_RH_takeSettings_0 f_Tr_begin_49_36
    rw [show (if Int32.ofNat 12 < 12 then Int32.ofNat 12 else 12) = (12 : Int32) from by decide]
    unfold x_ok
    rw [if_pos (by decide)]
    exact ⟨_, rfl⟩
  obtain ⟨q, e⟩ := e
  have F := fr_RH_takeSettings_0 e
  refine ⟨q.2, by rw [e], ?_⟩
  unfold f_RH_takeSettings_0 f_Tr_begin_49_36 at e
  rw [show (if Int32.ofNat 12 < 12 then Int32.ofNat 12 else 12) = (12 : Int32) from by decide] at e
  unfold x_ok at e
  rw [if_pos (by decide)] at e
  dsimp only [Option.bind_some] at e
  have e' := Option.some.inj e
  subst e'
  refine ⟨?_, rfl, rfl, rfl, rfl, rfl, x_fr.su F rfl⟩
  intro k hk
  dsimp only
  rw [y_pI_ne (by omega), y_pI_ne (by omega), y_pI_ne (by omega), y_pI_ne (by omega), y_pI_ne (by omega)]
  exact x_cp_at hk
