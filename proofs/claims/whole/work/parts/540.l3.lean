def sp_cp (i : Nat) : Nat := if i = 0 then 3 else if i = 1 then 1 else 2
def sp_cv (i : Nat) : Int32 := if i = 2 then 90 else 0
def wsc_cu (C : Nat → Nat → Int32) (S : Nat → Int32) (i : Nat) : Int32 := sp_SH C (sp_up S (sp_cp i) (sp_cv i)) (sp_nk C) 0 0 0
def A_cure (C : Nat → Nat → Int32) (S : Nat → Int32) (N : Nat) : Int32 := (sp_fo (wst_am Int32.ofNat (wsc_cu C S)) 0 (-1, sp_SH C S (sp_nk C) 0 0 0) N).1
theorem x_Ac {C : Nat → Nat → Int32} {i : Nat} (hi : i < 3) : x_A C (Int32.ofNat (sp_cp i)) (sp_cv i) := by
  have : i = 0 ∨ i = 1 ∨ i = 2 := by omega
  rcases this with rfl | rfl | rfl
  · exact Or.inr (Or.inr (Or.inr (Or.inl ⟨rfl, by decide, by decide⟩)))
  · exact Or.inr (Or.inl ⟨rfl, by decide, by decide⟩)
  · exact Or.inr (Or.inr (Or.inl ⟨rfl, by decide, by decide⟩))
theorem c_cure {C : Nat → Nat → Int32} {σ : xS} {N : Nat} (hN : N = 3) (B : x_B C σ) (F : y_F C σ) : x_ens (f_RH_cure_0 σ) (fun q => q.1 = A_cure C (σ.1 36) N ∧ y_F C q.2) := by
  unfold f_RH_cure_0 A_cure
  have G := B.1
  have R := B.S.2
  obtain ⟨q9, e9, F9, K9, l5, h50, e36, of⟩ := B.walk F
  have f9 := fr_RH_walkAsSet_0 e9
  rw [e9]
  dsimp only [Option.bind_some]
  rw [e_Tr_sharpBy l5 G.2.1.2, e36, sp_fo_cnt of]
  dsimp only [Option.bind_some]
  have hS : sp_fo (wst_cnt (sp_of C (σ.1 36) (sp_nk C) 0 0 0) (σ.1 36 0)) 0 0 (sp_la C + 1) = sp_SH C (σ.1 36) (sp_nk C) 0 0 0 := rfl
  rw [hS]
  refine x_ens.bi (P := fun b => (b.2.1, b.1) = sp_fo (wst_am Int32.ofNat (wsc_cu C (σ.1 36))) 0 (-1, sp_SH C (σ.1 36) (sp_nk C) 0 0 0) N ∧ y_F C b.2.2.2) ?_ (fun b hb => x_ens.so ⟨congrArg Prod.fst hb.1, hb.2⟩)
  refine x_scI (fun i (c : Int32 × Int32) τ => (c.2, c.1, Int32.ofNat i, τ)) (wst_am Int32.ofNat (wsc_cu C (σ.1 36))) (fun i c τ => y_F C τ ∧ x_fr x_WC σ τ) N (c0 := (-1, sp_SH C (σ.1 36) (sp_nk C) 0 0 0)) (by omega) ⟨F9, x_fr.su f9 rfl⟩ ?_ ?_
  · rintro i ⟨c1, c2⟩ τ hi ⟨F1, f1⟩
    rw [hN] at hi
    unfold f_RH_cure_0_L25
    dsimp only
    rw [if_neg (show ¬ (2 : Int32) < Int32.ofNat i from fun x => by have := (i_lt (j := 2) (by omega) (by omega)).mp x; omega)]
    obtain ⟨υ, e, K2, t1, t2, t3, t4, t5, t6, f2⟩ := c_take G (B.2.1.fr f1 rfl)
    rw [e]
    dsimp only [Option.bind_some]
    have key : x_ens (f_RH_cure_0_J97 c2 c1 (Int32.ofNat i) (x_pI υ 50 (sp_cp i) (sp_cv i))) (fun o => ∃ τ', (y_F C τ' ∧ x_fr x_WC σ τ') ∧ o = .inr ((wst_am Int32.ofNat (wsc_cu C (σ.1 36)) i (c1, c2)).2, (wst_am Int32.ofNat (wsc_cu C (σ.1 36)) i (c1, c2)).1, Int32.ofNat (i + 1), τ')) := by
      unfold f_RH_cure_0_J97
      have f3 : x_fr x_WC σ (x_pI υ 50 (sp_cp i) (sp_cv i)) := x_frI (p := 50) rfl (x_fr.trans f1 f2)
      have hp : sp_cp i < 12 := by unfold sp_cp; split; omega; split <;> omega
      refine x_ens.bi (c_as (T := sp_up (σ.1 36) (sp_cp i) (sp_cv i)) (n := sp_nk C) (late := 0) (sh := 0) (ah := 0) G (B.2.1.fr f3 rfl) R.2.2.2.2.2.2.1 ?_ (R.up (x_Ac hi) hp).2.2.2.2.2.1 (by rw [y_pI_ne (by omega)]; exact t2) (by rw [y_pI_ne (by omega)]; exact t3) (by rw [y_pI_ne (by omega)]; exact t4) (by rw [y_pI_ne (by omega)]; exact t5)) ?_
      · intro k hk
        rw [x_pI_up]
        by_cases h : k = sp_cp i
        · subst h; rw [sp_up_eq, sp_up_eq]
        · rw [sp_up_ne h, sp_up_ne h, t1 k hk, f1.ce 36 rfl]
      · rintro q ⟨hq, f4⟩
        have hq' : q.1 = wsc_cu C (σ.1 36) i := hq
        have I4 : y_F C q.2 ∧ x_fr x_WC σ q.2 := ⟨Or.inl (by rw [f4.ck 0 9 rfl, y_pI_ne (by omega)]; exact t6), x_fr.trans f3 (x_fr.su f4 rfl)⟩
        rw [hq', i_s]
        unfold wst_am
        dsimp only
        by_cases hc : wsc_cu C (σ.1 36) i ≤ c2
        · rw [if_pos hc, if_pos hc]; exact x_ens.so ⟨_, I4, rfl⟩
        · rw [if_neg hc, if_neg hc]; exact x_ens.so ⟨_, I4, rfl⟩
    have : i = 0 ∨ i = 1 ∨ i = 2 := by omega
    rcases this with rfl | rfl | rfl
    · rw [if_pos (show Int32.ofNat 0 = 0 by decide)]; exact key
    · rw [if_neg (show ¬ Int32.ofNat 1 = 0 by decide), if_pos (show Int32.ofNat 1 = 1 by decide)]; exact key
    · rw [if_neg (show ¬ Int32.ofNat 2 = 0 by decide), if_neg (show ¬ Int32.ofNat 2 = 1 by decide)]; exact key
  · rintro c τ hc ⟨F1, f1⟩
    unfold f_RH_cure_0_L25
    dsimp only
    rw [if_pos (show (2 : Int32) < Int32.ofNat N by rw [hN]; decide)]
    exact x_ens.so ⟨_, rfl, hc, F1⟩
theorem m_cure {C : Nat → Nat → Int32} {σ : xS} {N : Nat} (hN : N = 3) (B : x_B C σ) : x_ens (f_Mo_cure_60 σ) (fun q => q.1 = A_cure C (σ.1 36) N ∧ x_B C q.2) := by
  unfold f_Mo_cure_60 A_cure
  dsimp only
  obtain ⟨B1, S1, R1⟩ := B.m0
  refine x_ens.bf (e_Mo_takesSharp (T := σ.1 36) (n := sp_nk C) (late := 0) (sh := 0) (ah := 0) B.1 B1.2.2.1 S1 R1 B1.2.2.2.2.2.1.1 B1.2.2.2.2.2.1.2.1 B1.2.2.2.2.2.1.2.2 (by decide) (by decide)) (fun q e => fr_Mo_takesSharp_60 e) ?_
  rintro q6 ⟨h6, -, -⟩ f6
  rw [h6]
  refine x_ens.bi (P := fun b => (b.1, b.2.1) = sp_fo (wst_am Int32.ofNat (wsc_cu C (σ.1 36))) 0 (-1, sp_SH C (σ.1 36) (sp_nk C) 0 0 0) N ∧ x_B C b.2.2.2) ?_ (fun b hb => x_ens.so ⟨congrArg Prod.fst hb.1, hb.2⟩)
  refine x_scI (fun i (c : Int32 × Int32) τ => (c.1, c.2, Int32.ofNat i, τ)) (wst_am Int32.ofNat (wsc_cu C (σ.1 36))) (fun i c τ => x_fr x_W8 (x_pI σ 60 0 0) τ) N (c0 := (-1, sp_SH C (σ.1 36) (sp_nk C) 0 0 0)) (by omega) f6 ?_ ?_
  · rintro i ⟨c1, c2⟩ τ hi f1
    rw [hN] at hi
    unfold f_Mo_cure_60_L14
    dsimp only
    rw [if_neg (show ¬ (3 : Int32) ≤ Int32.ofNat i from fun x => by have := (i_le (j := 3) (by omega) (by omega)).mp x; omega)]
    have key : x_ens (f_Mo_cure_60_J49 c1 c2 (Int32.ofNat i) (Int32.ofNat (sp_cp i)) (sp_cv i) τ) (fun o => ∃ τ', x_fr x_W8 (x_pI σ 60 0 0) τ' ∧ o = .inr ((wst_am Int32.ofNat (wsc_cu C (σ.1 36)) i (c1, c2)).1, (wst_am Int32.ofNat (wsc_cu C (σ.1 36)) i (c1, c2)).2, Int32.ofNat (i + 1), τ')) := by
      unfold f_Mo_cure_60_J49
      have hp : sp_cp i < 12 ∧ sp_q (sp_cp i) = sp_cp i := by
        have : i = 0 ∨ i = 1 ∨ i = 2 := by omega
        rcases this with rfl | rfl | rfl <;> decide
      have := m_sw (S := σ.1 36) (p := sp_cp i) (v := sp_cv i) (B1.fr f1 rfl) (S1.fr f1 rfl rfl) R1 (x_Ac hi) hp.1
      rw [hp.2] at this
      refine x_ens.bi this ?_
      rintro q ⟨hq, f4⟩
      rw [i_s]
      exact x_am2 (val := Int32.ofNat) (sc := wsc_cu C (σ.1 36)) (Inv := fun τ => x_fr x_W8 (x_pI σ 60 0 0) τ) rfl hq (x_fr.trans f1 f4)
    have : i = 0 ∨ i = 1 ∨ i = 2 := by omega
    unfold f_Mo_cure_60_J38
    rcases this with rfl | rfl | rfl
    · rw [if_pos (show Int32.ofNat 0 = 0 by decide), if_neg (show ¬ Int32.ofNat 0 = 2 by decide)]; exact key
    · rw [if_neg (show ¬ Int32.ofNat 1 = 0 by decide), if_pos (show Int32.ofNat 1 = 1 by decide), if_neg (show ¬ Int32.ofNat 1 = 2 by decide)]; exact key
    · rw [if_neg (show ¬ Int32.ofNat 2 = 0 by decide), if_neg (show ¬ Int32.ofNat 2 = 1 by decide), if_pos (show Int32.ofNat 2 = 2 by decide)]; exact key
  · rintro c τ hc f1
    unfold f_Mo_cure_60_L14
    dsimp only
    rw [if_pos (show (3 : Int32) ≤ Int32.ofNat N by rw [hN]; decide)]
    exact x_ens.so ⟨_, rfl, hc, B1.fr f1 rfl⟩
theorem o_cure : x_OS f_RH_cure_0 f_Mo_cure_60 :=
  x_OSq (A := fun C g => A_cure C (g 36) 3) (fun C σ B F => c_cure rfl B F) (fun σ q e => fr_RH_cure_0 e) rfl (fun C g g' h => by rw [h 36 (by simp)]) (fun C σ B => m_cure rfl B) (fun σ q e => fr_Mo_cure_60 e) rfl
