section CK
variable {σ : xS}
theorem c_k33 : x_ens (x_it f_Sc_clear_7_L33 10000 ((0 : Int32), σ)) (fun b => (∀ j, j < 12 → b.2.1 12 j = 0) ∧ x_fr [(12, 99999)] σ b.2) := by
  refine x_iv.go (fun i a => a.1 = Int32.ofNat i ∧ (∀ j, j < i → a.2.1 12 j = 0) ∧ x_fr [(12, 99999)] σ a.2) 12 (by omega) ⟨rfl, fun j hj => by omega, x_fr.rf⟩ ?_
  rintro i a hi ⟨e, z, f⟩
  unfold f_Sc_clear_7_L33
  dsimp only
  rw [e]
  by_cases h : i = 12
  · rw [if_pos (show (12 : Int32) ≤ Int32.ofNat i by rw [h]; decide)]
    exact x_iv.l ⟨fun j hj => z j (by omega), f⟩
  · rw [if_neg (show ¬ (12 : Int32) ≤ Int32.ofNat i from fun x => by have := (i_le (j := 12) (by omega) (by omega)).mp x; omega), if_neg (i_ix (by omega) (by omega)), i_cl (by omega), i_s]
    refine x_iv.r (by omega) ⟨rfl, fun j hj => ?_, x_frI (p := 12) (k := i) (by simp [x_in]) f⟩
    by_cases hj2 : j = i
    · rw [hj2]; exact x_pI_kk
    · exact (x_pI_kn hj2).trans (z j (by omega))
theorem c_k7 : x_ens (x_it f_Ru_clear_13_L7 10000 ((0 : Int32), σ)) (fun b => (∀ j, j < 6 → b.2.1 15 j = 0 ∧ b.2.1 16 j = 0) ∧ x_fr [(15, 99999), (16, 99999)] σ b.2) := by
  refine x_iv.go (fun i a => a.1 = Int32.ofNat i ∧ (∀ j, j < i → a.2.1 15 j = 0 ∧ a.2.1 16 j = 0) ∧ x_fr [(15, 99999), (16, 99999)] σ a.2) 6 (by omega) ⟨rfl, fun j hj => by omega, x_fr.rf⟩ ?_
  rintro i a hi ⟨e, z, f⟩
  unfold f_Ru_clear_13_L7
  dsimp only
  rw [e]
  by_cases h : i = 6
  · rw [if_pos (show (6 : Int32) ≤ Int32.ofNat i by rw [h]; decide)]
    exact x_iv.l ⟨fun j hj => z j (by omega), f⟩
  · rw [if_neg (show ¬ (6 : Int32) ≤ Int32.ofNat i from fun x => by have := (i_le (j := 6) (by omega) (by omega)).mp x; omega), if_neg (i_ix (by omega) (by omega)), if_neg (i_ix (by omega) (by omega)), i_cl (by omega), i_s]
    refine x_iv.r (by omega) ⟨rfl, fun j hj => ?_, x_frI (p := 16) (k := i) (by simp [x_in]) (x_frI (p := 15) (k := i) (by simp [x_in]) f)⟩
    rw [y_pI_ne (q := 15) (show 15 ≠ 16 by omega)]
    by_cases hj2 : j = i
    · rw [hj2]; exact ⟨x_pI_kk, x_pI_kk⟩
    · rw [x_pI_kn hj2, x_pI_kn hj2, y_pI_ne (q := 16) (show 16 ≠ 15 by omega)]
      exact z j (by omega)
def x_e7 (σ : xS) : Prop := (σ.1 7 0 = 120 ∧ σ.1 7 1 = 0 ∧ σ.1 7 4 = 0 ∧ σ.1 7 5 = 0 ∧ σ.1 7 8 = 0 ∧ σ.1 7 9 = 0) ∧ (σ.1 12 0 = 3 ∧ σ.1 12 1 = 2 ∧ σ.1 12 2 = 20 ∧ σ.1 12 3 = 0 ∧ σ.1 12 4 = -1 ∧ σ.1 12 5 = 0) ∧ σ.1 13 1 = 0 ∧ ∀ j, j < 6 → σ.1 15 j = 0 ∧ σ.1 16 j = 0
theorem c_rclr : x_ens (f_Ru_clear_13 σ) (fun q => q.2.1 13 1 = 0 ∧ (∀ j, j < 6 → q.2.1 15 j = 0 ∧ q.2.1 16 j = 0) ∧ x_fr [(13, 1), (15, 99999), (16, 99999)] σ q.2) := by
  unfold f_Ru_clear_13
  dsimp only
  refine x_ens.bi c_k7 ?_
  rintro b ⟨z, f⟩
  exact x_ens.so ⟨(f.ck 13 1 rfl).trans x_pI_kk, z, x_fr.trans (x_frI (p := 13) (k := 1) (v := 0) rfl x_fr.rf) (f.su rfl)⟩
theorem c_clr : x_ens (f_Sc_clear_7 σ) (fun q => x_e7 q.2) := by
  unfold f_Sc_clear_7
  dsimp only
  obtain ⟨υ, hυ, e⟩ : ∃ υ, x_pI (x_pI (x_pI (x_pI (x_pI (x_pI σ 7 0 120) 7 1 0) 7 4 0) 7 5 0) 7 8 0) 7 9 0 = υ ∧ (υ.1 7 0 = 120 ∧ υ.1 7 1 = 0 ∧ υ.1 7 4 = 0 ∧ υ.1 7 5 = 0 ∧ υ.1 7 8 = 0 ∧ υ.1 7 9 = 0) := ⟨_, rfl, by simp [x_pI]⟩
  rw [hυ]
  refine x_ens.bi c_k33 ?_
  rintro b ⟨z, f⟩
  obtain ⟨υ2, hυ2, e2, e3⟩ : ∃ υ2, x_pI (x_pI (x_pI (x_pI b.2 12 0 3) 12 1 2) 12 2 20) 12 4 (-1) = υ2 ∧ (υ2.1 12 0 = 3 ∧ υ2.1 12 1 = 2 ∧ υ2.1 12 2 = 20 ∧ υ2.1 12 3 = 0 ∧ υ2.1 12 4 = -1 ∧ υ2.1 12 5 = 0) ∧ υ2.1 7 = b.2.1 7 := ⟨_, rfl, by simp [x_pI, z 3 (by omega), z 5 (by omega)], by rw [y_pI_ne (by omega), y_pI_ne (by omega), y_pI_ne (by omega), y_pI_ne (by omega)]⟩
  rw [hυ2]
  refine x_ens.bi c_rclr ?_
  rintro q ⟨q1, q2, fq⟩
  refine x_ens.so ⟨?_, ?_, q1, q2⟩
  · rw [fq.ce 7 rfl, e3, f.ce 7 rfl]
    exact e
  · rw [fq.ce 12 rfl]
    exact e2
end CK
def law_σ : xS := (fun _ _ => 0, fun _ _ => 0)
def f_lawInit : Option xS := (f_RH_init (x_n0 law_σ 0)).bind fun q => some (x_n0 (sI_Mo_init_60 (x_n0 q.2 60)) 96)
theorem n0_ne {σ : xS} {p q : Nat} (h : p ≠ q) : (x_n0 σ q).1 p = σ.1 p := by
  funext k
  exact if_neg h
theorem n0_eq {σ : xS} {q k : Nat} : (x_n0 σ q).1 q k = 0 := if_pos rfl
def x_sA (σ : xS) : Prop := (σ.1 0 1 = 0 ∧ σ.1 0 7 = 0 ∧ σ.1 0 9 = 0 ∧ σ.1 0 11 = -1) ∧ σ.1 55 4 = -1 ∧ ∀ k, σ.1 59 k = 0
theorem x_sA.fr {W : List (Nat × Nat)} {σ τ : xS} (h : x_sA σ) (f : x_fr W σ τ) (h0 : (W.all fun w => w.1 != 0) = true) (h55 : (W.all fun w => w.1 != 55) = true) (h59 : (W.all fun w => w.1 != 59) = true) : x_sA τ := by
  unfold x_sA
  rw [f.ce 0 h0, f.ce 55 h55, f.ce 59 h59]
  exact h
theorem init_A {σ : xS} : x_sA (x_n0 (x_pI (sI_Ch_init_55 (x_n0 (x_pI (sI_Tr_init_49 (x_n0 (x_pI (sI_Se_init_42 (x_n0 (sI_Se_init_35 (x_n0 (sI_Sc_init_21 (x_n0 (sI_Sc_init_7 (x_n0 (sI_Re_init_2 (x_n0 (x_pI (x_n0 (x_n0 σ 0) 1) 0 1 (0 : Int32)) 2)) 7)) 21)) 35)) 42)) 0 7 (0 : Int32)) 49)) 0 9 (0 : Int32)) 55)) 0 11 (-1 : Int32)) 59) := by
  unfold x_sA sI_Ch_init_55 sI_Tr_init_49 sI_Se_init_42 sI_Se_init_35 sI_Sc_init_21 sI_Sc_init_7 sI_Re_init_2 sI_Ru_init_13 sI_Ru_init_27
  refine ⟨⟨?_, ?_, ?_, ?_⟩, ?_, fun k => ?_⟩ <;> simp (disch := omega) only [n0_ne, n0_eq, y_pI_ne, x_pI_kn, x_pI_kk]
def x_dr7 (F : xS) : xS := (fun p k => if p = 6 then 0 else if p = 21 then F.1 7 k else if p = 22 then F.1 8 k else if p = 23 then F.1 9 k else if p = 24 then F.1 10 k else if p = 25 then F.1 11 k else if p = 26 then (if k = 4 then -1 else F.1 36 k) else if p = 28 then F.1 14 k else if p = 29 then F.1 15 k else if p = 30 then F.1 16 k else F.1 p k, F.2)
theorem c_init : x_ens (f_RH_init (x_n0 law_σ 0)) (fun q => x_e7 q.2 ∧ x_sA q.2 ∧ (q.2.1 35 3 = 0 ∧ q.2.1 35 6 = 0 ∧ q.2.1 35 8 = 0) ∧ (q.2.1 36 0 = 3 ∧ q.2.1 36 1 = 2 ∧ q.2.1 36 2 = 20 ∧ q.2.1 36 3 = 0 ∧ q.2.1 36 4 = -1 ∧ q.2.1 36 5 = 0) ∧ (∀ t, t ≤ 0 → q.2.1 19 t = sp_her (q.2.1 8) (q.2.1 9) 0 (q.2.1 7 0) (Int32.ofNat t) 0) ∧ ∀ w, 12 ≤ w → w ≤ 480 → q.2.1 20 w = sp_tu q.2.1 (Int32.ofNat w)) := by
  unfold f_RH_init
  dsimp only
  have hA := @init_A law_σ
  generalize x_n0 (x_pI (sI_Ch_init_55 (x_n0 (x_pI (sI_Tr_init_49 (x_n0 (x_pI (sI_Se_init_42 (x_n0 (sI_Se_init_35 (x_n0 (sI_Sc_init_21 (x_n0 (sI_Sc_init_7 (x_n0 (sI_Re_init_2 (x_n0 (x_pI (x_n0 (x_n0 law_σ 0) 1) 0 1 (0 : Int32)) 2)) 7)) 21)) 35)) 42)) 0 7 (0 : Int32)) 49)) 0 9 (0 : Int32)) 55)) 0 11 (-1 : Int32)) 59 = s at hA
  obtain ⟨q1, e1, h1⟩ := c_clr (σ := s)
  have f1 := fr_Sc_clear_7 e1
  have A1 := hA.fr f1 rfl rfl rfl
  rw [e1]
  dsimp only [Option.bind_some]
  have hno : ¬ sp_has q1.2.1 0 := nohas (h1.2.2.2 0 (by omega)).1 (h1.2.2.2 0 (by omega)).2
  obtain ⟨q2, e2, ⟨t12, t19, t20⟩, f2⟩ := c_finish (σ := q1.2) (C := q1.2.1) (l := fun _ => 0) (k := 0) (fun j hj => by omega) (by omega) (by show 0 ≤ 600; omega) h1.1.2.1 rfl rfl rfl (fun h => absurd h hno)
  have A2 := A1.fr f2 rfl rfl rfl
  rw [e2]
  dsimp only [Option.bind_some]
  unfold f_Se_begin_35_7
  dsimp only [Option.bind_some]
  have f6 : x_fr [(35, 3), (35, 6), (35, 8), (36, 99999)] q2.2 (x_pI (x_pI (x_pI (x_cp q2.2 12 36 12) 35 3 0) 35 6 0) 35 8 0) := x_frI (p := 35) (k := 8) rfl (x_frI (p := 35) (k := 6) rfl (x_frI (p := 35) (k := 3) rfl (x_frC (fun _ => rfl) x_fr.rf)))
  have b36 : ∀ j, j < 12 → (x_pI (x_pI (x_pI (x_cp q2.2 12 36 12) 35 3 0) 35 6 0) 35 8 0).1 36 j = q2.2.1 12 j := by
    intro j hj
    rw [y_pI_ne (by omega), y_pI_ne (by omega), y_pI_ne (by omega)]
    exact x_cp_at hj
  have b35 : (x_pI (x_pI (x_pI (x_cp q2.2 12 36 12) 35 3 0) 35 6 0) 35 8 0).1 35 3 = 0 ∧ (x_pI (x_pI (x_pI (x_cp q2.2 12 36 12) 35 3 0) 35 6 0) 35 8 0).1 35 6 = 0 ∧ (x_pI (x_pI (x_pI (x_cp q2.2 12 36 12) 35 3 0) 35 6 0) 35 8 0).1 35 8 = 0 := ⟨by rw [x_pI_kn (by omega), x_pI_kn (by omega)]; exact x_pI_kk, by rw [x_pI_kn (by omega)]; exact x_pI_kk, x_pI_kk⟩
  generalize x_pI (x_pI (x_pI (x_cp q2.2 12 36 12) 35 3 0) 35 6 0) 35 8 0 = F at f6 b36 b35
  have A3 := A2.fr f6 rfl rfl rfl
  refine x_ens.so ⟨?_, A3, b35, ?_, fun t ht => ?_, fun w w1 w2 => ?_⟩
  · show x_e7 F
    obtain ⟨a, b, c, d⟩ := h1
    have t12' : q2.2.1 12 = sp_up (q1.2.1 12) 4 (-1) := by rw [t12, a.2.2.2.2.2, if_pos (show (0 : Int32) ≤ 0 by decide)]
    refine ⟨?_, ?_, ?_, ?_⟩
    · rw [f6.ce 7 rfl, f2.ce 7 rfl]; exact a
    · rw [f6.ce 12 rfl, t12']
      exact ⟨b.1, b.2.1, b.2.2.1, b.2.2.2.1, rfl, b.2.2.2.2.2⟩
    · rw [f6.ce 13 rfl, f2.ce 13 rfl]; exact c
    · rw [f6.ce 15 rfl, f6.ce 16 rfl, f2.ce 15 rfl, f2.ce 16 rfl]; exact d
  · have t12' : q2.2.1 12 = sp_up (q1.2.1 12) 4 (-1) := by rw [t12, h1.1.2.2.2.2.2, if_pos (show (0 : Int32) ≤ 0 by decide)]
    obtain ⟨-, b, -, -⟩ := h1
    show F.1 36 0 = 3 ∧ F.1 36 1 = 2 ∧ F.1 36 2 = 20 ∧ F.1 36 3 = 0 ∧ F.1 36 4 = -1 ∧ F.1 36 5 = 0
    rw [b36 0 (by omega), b36 1 (by omega), b36 2 (by omega), b36 3 (by omega), b36 4 (by omega), b36 5 (by omega), t12']
    exact ⟨b.1, b.2.1, b.2.2.1, b.2.2.2.1, rfl, b.2.2.2.2.2⟩
  · show F.1 19 t = sp_her (F.1 8) (F.1 9) 0 (F.1 7 0) (Int32.ofNat t) 0
    rw [f6.ce 19 rfl, t19 t ht, f6.ce 7 rfl, f2.ce 7 rfl]
    rfl
  · show F.1 20 w = sp_tu F.1 (Int32.ofNat w)
    rw [f6.ce 20 rfl, t20 w w1 w2]
    exact tu_congr (by rw [f6.ce 14 rfl, f2.ce 14 rfl]) (by rw [f6.ce 15 rfl, f2.ce 15 rfl]) (by rw [f6.ce 16 rfl, f2.ce 16 rfl])
