theorem c_gcd {σ : xS} : ∀ (y x k n : Nat), x < 100000 → y + k < 64 → y < n → x_it f_RH_commonOf_L7 n (Int32.ofNat x, Int32.ofNat y, Int32.ofNat k, σ) = some (Int32.ofNat (Nat.gcd x y), 0, Int32.ofNat k, σ) ∨ ∃ k', x_it f_RH_commonOf_L7 n (Int32.ofNat x, Int32.ofNat y, Int32.ofNat k, σ) = some (Int32.ofNat (Nat.gcd x y), 0, k', σ) := by
  intro y
  induction y using Nat.strongRecOn with
  | ind y ih =>
    intro x k n hx hk hn
    refine Or.inr ?_
    obtain ⟨n', rfl⟩ : ∃ n', n = n' + 1 := ⟨n - 1, by omega⟩
    unfold x_it f_RH_commonOf_L7
    dsimp only
    rw [if_neg (show ¬ (64 : Int32) ≤ Int32.ofNat k from fun h => by have := (i_le (j := 64) (by omega) (by omega)).mp h; omega)]
    by_cases hy : y = 0
    · subst hy
      rw [if_pos i_z, Nat.gcd_zero_right]
      exact ⟨_, rfl⟩
    · have h0 : ¬ Int32.ofNat y = 0 := by rw [i_ne0 (by omega)]; exact hy
      rw [if_neg h0, if_neg h0, i_mod (by omega) (by omega), i_s]
      dsimp only
      have hlt := Nat.mod_lt x (show y > 0 by omega)
      rw [Nat.gcd_comm, Nat.gcd_rec, Nat.gcd_comm]
      rcases ih (x % y) hlt y (k + 1) n' (by omega) (by omega) (by omega) with h | ⟨k', h⟩
      · exact ⟨_, h⟩
      · exact ⟨_, h⟩
theorem m_gcd {σ : xS} {a b c : Int32} : ∀ (y x n : Nat), x < 100000 → y < 100000 → y < n → x_it (f_Mo_portion_L5 a b c) n (Int32.ofNat x, Int32.ofNat y, σ) = some (Int32.ofNat (Nat.gcd x y), 0, σ) := by
  intro y
  induction y using Nat.strongRecOn with
  | ind y ih =>
    intro x n hx hy2 hn
    obtain ⟨n', rfl⟩ : ∃ n', n = n' + 1 := ⟨n - 1, by omega⟩
    unfold x_it f_Mo_portion_L5
    dsimp only
    by_cases hy : y = 0
    · subst hy
      rw [if_pos i_z, Nat.gcd_zero_right]
      rfl
    · have h0 : ¬ Int32.ofNat y = 0 := by rw [← i_z, i_ej (by omega) (by omega)]; exact hy
      rw [if_neg h0, if_neg h0, i_mod (by omega) (by omega)]
      dsimp only
      have hlt := Nat.mod_lt x (show y > 0 by omega)
      rw [Nat.gcd_comm, Nat.gcd_rec, Nat.gcd_comm]
      exact ih (x % y) hlt y n' (by omega) (by omega) (by omega)
def sp_pt (a n : Nat) (v : Int32) : Int32 := if n = 0 then (if v = 0 then 0 else 1) else if v = 0 then Int32.ofNat (a / Nat.gcd a n) else Int32.ofNat (n / Nat.gcd a n)
theorem e_RH_part {σ : xS} {a n : Nat} {v : Int32} (ha : a < 10000) (hn : n ≤ 16) (h0 : n = 0 → a = 0) : f_RH_partOf (Int32.ofNat a) (Int32.ofNat n) v σ = some (sp_pt a n v, σ) := by
  unfold f_RH_partOf f_RH_commonOf sp_pt
  obtain ⟨k', e⟩ : ∃ k', x_it f_RH_commonOf_L7 10000 (Int32.ofNat a, Int32.ofNat n, Int32.ofNat 0, σ) = some (Int32.ofNat (Nat.gcd a n), 0, k', σ) := by
    rcases @c_gcd σ n a 0 10000 (by omega) (by omega) (by omega) with h | h
    · exact ⟨_, h⟩
    · exact h
  rw [i_z] at e
  rw [e]
  dsimp only [Option.bind_some]
  by_cases hz : n = 0
  · subst hz
    rw [if_pos (show Int32.ofNat 0 < 1 by decide), if_pos rfl]
    split <;> rfl
  · have hg : 0 < Nat.gcd a n := Nat.gcd_pos_of_pos_right a (by omega)
    have hgn : Nat.gcd a n ≤ n := Nat.le_of_dvd (by omega) (Nat.gcd_dvd_right a n)
    have g0 : ¬ Int32.ofNat (Nat.gcd a n) = 0 := by rw [i_ne0 (by omega)]; omega
    rw [if_neg (by rw [i_lt1 (by omega)]; omega), if_neg hz, if_pos (show (1 : Int32) ≤ Int32.ofNat (Nat.gcd a n) from (i_le (j := 1) (by omega) (by omega)).mpr (by omega)), if_neg g0, if_neg g0, i_div (by omega) (by omega), i_div (by omega) (by omega)]
    split <;> rfl
theorem e_Mo_part {σ : xS} {a n : Nat} {v : Int32} (ha : a < 10000) (hn : n ≤ 16) (h0 : n = 0 → a = 0) : f_Mo_portion (Int32.ofNat a) (if n = 0 then 1 else Int32.ofNat n) v σ = some (sp_pt a n v, σ) := by
  unfold f_Mo_portion sp_pt
  by_cases hz : n = 0
  · have := h0 hz
    subst hz this
    rw [if_pos rfl]
    have e := @m_gcd σ (Int32.ofNat 0) 1 v 0 1 10000 (by omega) (by omega) (by omega)
    rw [show (Int32.ofNat 1) = (1 : Int32) from rfl] at e
    rw [e]
    dsimp only [Option.bind_some]
    rw [if_pos rfl, if_neg (show ¬ Int32.ofNat (Nat.gcd 1 0) = 0 by decide), if_neg (show ¬ Int32.ofNat (Nat.gcd 1 0) = 0 by decide)]
    by_cases hv : v = 0
    · rw [if_pos hv, if_pos hv]; rfl
    · rw [if_neg hv, if_neg hv]; rfl
  · rw [if_neg hz, if_neg hz, @m_gcd σ (Int32.ofNat a) (Int32.ofNat n) v a n 10000 (by omega) (by omega) (by omega)]
    dsimp only [Option.bind_some]
    have hg : 0 < Nat.gcd n a := Nat.gcd_pos_of_pos_left a (by omega)
    have hgn : Nat.gcd n a ≤ n := Nat.le_of_dvd (by omega) (Nat.gcd_dvd_left n a)
    have g0 : ¬ Int32.ofNat (Nat.gcd n a) = 0 := by rw [i_ne0 (by omega)]; omega
    rw [if_neg g0, if_neg g0, i_div (by omega) (by omega), i_div (by omega) (by omega), Nat.gcd_comm]
    split <;> rfl
theorem x_U.bn' {C : Nat → Nat → Int32} {σ : xS} (U : x_U C σ 35 79 81 90 91 56 74 76) : (σ.1 35 8).toNatClampNeg ≤ 16 ∧ σ.1 35 8 = Int32.ofNat (σ.1 35 8).toNatClampNeg ∧ σ.1 60 76 = Int32.ofNat (σ.1 35 8).toNatClampNeg ∧ ∀ i, i < (σ.1 35 8).toNatClampNeg → σ.1 91 i = σ.1 41 i ∧ 12 ≤ σ.1 41 i ∧ σ.1 41 i ≤ 480 := by
  obtain ⟨-, -, -, -, -, ⟨a1, a2, a3, a4⟩⟩ := U
  have k := i_ex a2
  exact ⟨i_nat (n := 16) (by omega) a3, k.1, a1.trans k.1, a4⟩
def sp_ct (g : Nat → Int32) (v : Int32) : Nat → Nat
  | 0 => 0
  | n + 1 => sp_ct g v n + (if v < g n then 0 else 1)
theorem sp_ct_le {g : Nat → Int32} {v : Int32} : ∀ {n : Nat}, sp_ct g v n ≤ n
  | 0 => Nat.le_refl 0
  | n + 1 => by unfold sp_ct; have := @sp_ct_le g v n; split <;> omega
theorem sp_ct_c {g g' : Nat → Int32} {v : Int32} : ∀ {n : Nat}, (∀ i, i < n → g i = g' i) → sp_ct g v n = sp_ct g' v n
  | 0, _ => rfl
  | n + 1, h => by unfold sp_ct; rw [h n (by omega), sp_ct_c (fun i hi => h i (by omega))]
theorem sp_ct_s {g : Nat → Int32} {v : Int32} {n : Nat} : Int32.ofNat (sp_ct g v (n + 1)) = Int32.ofNat (sp_ct g v n) + (if v < g n then 0 else 1) := by
  rw [sp_ct]
  split
  · exact i_a0.symm
  · exact i_s.symm
theorem e_within {σ : xS} {n : Nat} {v : Int32} (h8 : σ.1 35 8 = Int32.ofNat n) (hn : n ≤ 16) : f_Se_stoppedWithin_35 v σ = some (Int32.ofNat (sp_ct (σ.1 41) v n), σ) := by
  apply x_ens.eq
  unfold f_Se_stoppedWithin_35
  refine x_ens.bi (P := fun b => b.1 = Int32.ofNat (sp_ct (σ.1 41) v n) ∧ b.2.2 = σ) ?_ (fun b hb => x_ens.so (by rw [hb.1, hb.2]))
  refine x_iv.go (fun i a => a = (Int32.ofNat (sp_ct (σ.1 41) v i), Int32.ofNat i, σ)) n (by omega) rfl ?_
  rintro i a hi rfl
  unfold f_Se_stoppedWithin_35_L4
  dsimp only
  rw [h8]
  by_cases hx : i = n
  · subst hx
    rw [if_pos i_lr]
    exact x_iv.l ⟨rfl, rfl⟩
  · rw [if_neg (fun h => by have := (i_le (by omega) (by omega)).mp h; omega), if_neg (show ¬ (16 : Int32) ≤ Int32.ofNat i from fun h => by have := (i_le (j := 16) (by omega) (by omega)).mp h; omega), i_cl (by omega), i_s]
    refine x_ens.gr (by rintro (h | h) <;> first | exact i_ge (by omega) h | omega | (rw [i_cl (by omega)] at h; omega)) ?_
    have e := @sp_ct_s (σ.1 41) v i
    by_cases h : v < σ.1 41 i
    · rw [if_pos h] at e ⊢; exact x_iv.r (by omega) (by rw [e])
    · rw [if_neg h] at e ⊢; exact x_iv.r (by omega) (by rw [e])
theorem e_nextL {σ : xS} {n : Nat} {v w : Int32} (h8 : σ.1 60 76 = Int32.ofNat n) (hn : n ≤ 16) : x_ens (x_it (f_Mo_next_60_L21 v w) 10000 (0, 0, σ)) (fun b => b.1 = Int32.ofNat (sp_ct (σ.1 91) v n) ∧ b.2.2 = σ) := by
  refine x_iv.go (fun i a => a = (Int32.ofNat (sp_ct (σ.1 91) v i), Int32.ofNat i, σ)) n (by omega) rfl ?_
  rintro i a hi rfl
  unfold f_Mo_next_60_L21
  dsimp only
  rw [h8]
  by_cases hx : i = n
  · subst hx
    rw [if_pos i_lr]
    exact x_iv.l ⟨rfl, rfl⟩
  · rw [if_neg (fun h => by have := (i_le (by omega) (by omega)).mp h; omega), i_cl (by omega), i_s]
    refine x_ens.gr (by rintro (h | h) <;> first | exact i_ge (by omega) h | omega | (rw [i_cl (by omega)] at h; omega)) ?_
    have e := @sp_ct_s (σ.1 91) v i
    by_cases h : v < σ.1 91 i
    · rw [if_pos h] at e ⊢; exact x_iv.r (by omega) (by rw [e])
    · rw [if_neg h] at e ⊢; exact x_iv.r (by omega) (by rw [e])
def A_next (n : Nat) (g : Nat → Int32) (v w : Int32) : Int32 ⊕ Nat := if 0 ≤ w ∧ w ≤ 1 then .inl (sp_pt (sp_ct g v n) n w) else .inr 2
theorem c_next {C : Nat → Nat → Int32} {σ : xS} {v w : Int32} (B : x_B C σ) (F : y_F C σ) : x_ens (f_RH_next_0 v w σ) (fun q => q.1 = A_next (σ.1 35 8).toNatClampNeg (σ.1 41) v w ∧ y_F C q.2) := by
  unfold f_RH_next_0 A_next
  obtain ⟨n16, e8, -, -⟩ := B.2.2.2.1.bn'
  generalize (σ.1 35 8).toNatClampNeg = n at n16 e8
  by_cases h : 0 ≤ w ∧ w ≤ 1
  · rw [if_neg (i_nl.mpr h.1), if_pos h.2, if_pos h, e_within e8 n16]
    dsimp only [Option.bind_some]
    have := @sp_ct_le (σ.1 41) v n
    rw [e8, e_RH_part (by omega) n16 (fun hz => by omega)]
    exact x_ens.so ⟨rfl, F⟩
  · rw [if_neg h]
    by_cases h1 : w < 0
    · rw [if_pos h1]; exact x_ens.so ⟨rfl, F⟩
    · rw [if_neg h1, if_neg (fun x => h ⟨i_nl.mp h1, x⟩)]; exact x_ens.so ⟨rfl, F⟩
theorem m_next {C : Nat → Nat → Int32} {σ : xS} {v w : Int32} (B : x_B C σ) : x_ens (f_Mo_next_60 v w σ) (fun q => x_an x_k1 (A_next (σ.1 35 8).toNatClampNeg (σ.1 41) v w) q.1 q.2 ∧ x_B C q.2) := by
  unfold f_Mo_next_60 A_next
  dsimp only
  obtain ⟨n16, e8, e76, hb⟩ := B.2.2.2.1.bn'
  generalize (σ.1 35 8).toNatClampNeg = n at n16 e8 e76 hb
  rw [e_Mo_isWhat x_60]
  dsimp only [Option.bind_some]
  by_cases h : 0 ≤ w ∧ w ≤ 1
  · simp only [if_pos h]
    rw [if_neg (by decide)]
    refine x_ens.bi (e_nextL (n := n) (σ := x_pI σ 60 0 0) e76 n16) ?_
    rintro b ⟨b1, b2⟩
    have ec : sp_ct ((x_pI σ 60 0 0).1 91) v n = sp_ct (σ.1 41) v n := by
      rw [y_pI_ne (by omega)]; exact sp_ct_c (fun i hi => (hb i hi).1)
    rw [b2, b1, ec, show (x_pI σ 60 0 0).1 60 76 = Int32.ofNat n from e76]
    have := @sp_ct_le (σ.1 41) v n
    have key := @e_Mo_part (x_pI σ 60 0 0) (sp_ct (σ.1 41) v n) n w (by omega) n16 (fun hz => by omega)
    by_cases hz : n = 0
    · rw [if_pos hz] at key
      rw [if_pos (show Int32.ofNat n = 0 by rw [hz]; rfl), key]
      exact x_ens.so ⟨⟨x_60, rfl⟩, B.t0⟩
    · rw [if_neg hz] at key
      rw [if_neg (show ¬ Int32.ofNat n = 0 by rw [i_ne0 (by omega)]; exact hz), key]
      exact x_ens.so ⟨⟨x_60, rfl⟩, B.t0⟩
  · simp only [if_neg h]
    rw [if_pos trivial, x_pI_pI]; exact x_ens.so ⟨x_60, B.t0⟩
theorem o_next (v w : Int32) : x_OP (w_next v w) (f_Mo_next_60 v w) := by
  refine x_OPq (f := f_RH_next_0 v w) (κ := x_k1) (A := fun C g => A_next (g 35 8).toNatClampNeg (g 41) v w) (fun C σ B F => c_next B F) (fun σ q e => fr_RH_next_0 e) rfl (fun C g g' h h55 h01 h59 => by simp only [h 35 (by simp), h 36 (by simp), h 39 (by simp), h 40 (by simp), h 41 (by simp), h 58 (by simp), h55, h01, h59]) (fun C σ B => m_next B) (fun σ q e => fr_Mo_next_60 e) rfl ?_ ?_
  · intro σ u τ e; unfold w_next; rw [e]; rfl
  · intro C σ B k τ e hk
    unfold A_next at hk
    (repeat' split at hk) <;> cases hk <;> (unfold w_next; rw [e]; exact ⟨rfl, by decide⟩)
theorem sp_sum_n {g : Nat → Int32} : ∀ {n : Nat}, n ≤ 16 → (∀ i, i < n → 12 ≤ g i ∧ g i ≤ 480) → ∃ s : Nat, s ≤ 480 * n ∧ sp_sum g n = Int32.ofNat s
  | 0, _, _ => ⟨0, by omega, rfl⟩
  | n + 1, hn, h => by
    obtain ⟨s, h1, h2⟩ := @sp_sum_n g n (by omega) (fun i hi => h i (by omega))
    obtain ⟨a1, a2⟩ := h n (by omega)
    have k := i_nat (n := 480) (by omega) a2
    refine ⟨s + (g n).toNatClampNeg, by omega, ?_⟩
    rw [sp_sum, h2, Int32.ofNat_add, ← (i_ex (i_1k ⟨a1, a2⟩).1).1]
def wst_sn (g : Nat → Int32) (i : Nat) (c : Int32 × Int32) : Int32 × Int32 := (if c.1 < g (i + 1) then g (i + 1) else c.1, if g (i + 1) < c.2 then g (i + 1) else c.2)
def sp_sn (g : Nat → Int32) (n : Nat) : Int32 := if n = 0 then 0 else (sp_fo (wst_sn g) 0 (g 0, g 0) (n - 1)).1 - (sp_fo (wst_sn g) 0 (g 0, g 0) (n - 1)).2
def A_middle (n : Nat) (g : Nat → Int32) (v : Int32) : Int32 ⊕ Nat := if 0 ≤ v ∧ v ≤ 2 then .inl (if v = 2 then sp_sn g n else sp_pt (sp_sum g n).toNatClampNeg n v) else .inr 2
theorem c_middle {C : Nat → Nat → Int32} {σ : xS} {v : Int32} (B : x_B C σ) (F : y_F C σ) : x_ens (f_RH_middle_0 v σ) (fun q => q.1 = A_middle (σ.1 35 8).toNatClampNeg (σ.1 41) v ∧ y_F C q.2) := by
  unfold f_RH_middle_0 A_middle
  obtain ⟨n16, e8, -, hb⟩ := B.2.2.2.1.bn'
  generalize (σ.1 35 8).toNatClampNeg = n at n16 e8 hb
  by_cases h : 0 ≤ v ∧ v ≤ 2
  · rw [if_neg (i_nl.mpr h.1), if_pos h.2, if_pos h]
    by_cases h2 : v = 2
    · rw [if_pos h2, if_pos h2]
      have : f_Se_span_35 σ = some (sp_sn (σ.1 41) n, σ) := by
        apply x_ens.eq
        unfold f_Se_span_35 sp_sn
        rw [e8]
        by_cases hz : n = 0
        · rw [if_pos hz, hz, if_neg (by decide)]; exact x_ens.so rfl
        · rw [if_neg hz, if_pos (show (1 : Int32) ≤ Int32.ofNat n from (i_le (j := 1) (by omega) (by omega)).mpr (by omega))]
          dsimp only
          refine x_ens.bi (P := fun b => (b.1, b.2.1) = sp_fo (wst_sn (σ.1 41)) 0 (σ.1 41 0, σ.1 41 0) (n - 1) ∧ b.2.2.2 = σ) ?_ ?_
          · refine x_scI (fun i (c : Int32 × Int32) τ => (c.1, c.2, Int32.ofNat (i + 1), τ)) (wst_sn (σ.1 41)) (fun i c τ => τ = σ) (n - 1) (c0 := (σ.1 41 0, σ.1 41 0)) (by omega) rfl ?_ ?_
            · rintro i ⟨c1, c2⟩ τ hi rfl
              unfold f_Se_span_35_L26
              dsimp only
              rw [e8, if_neg (fun h => by have := (i_le (by omega) (by omega)).mp h; omega), if_neg (show ¬ (16 : Int32) ≤ Int32.ofNat (i + 1) from fun h => by have := (i_le (j := 16) (by omega) (by omega)).mp h; omega), i_cl (by omega), i_s]
              refine x_ens.gr (by rintro (h | h) <;> first | exact i_ge (by omega) h | omega | (rw [i_cl (by omega)] at h; omega)) ?_
              refine x_ens.gr (by rintro (h | h) <;> first | exact i_ge (by omega) h | omega | (rw [i_cl (by omega)] at h; omega)) ?_
              exact x_ens.so ⟨_, rfl, rfl⟩
            · rintro c τ hc rfl
              unfold f_Se_span_35_L26
              dsimp only
              rw [e8, show n - 1 + 1 = n by omega, if_pos i_lr]
              exact x_ens.so ⟨_, rfl, hc, rfl⟩
          · rintro b ⟨h1, h3⟩
            rw [← h1, h3]; exact x_ens.so rfl
      rw [this]; exact x_ens.so ⟨rfl, F⟩
    · rw [if_neg h2, if_neg h2]
      have : f_Se_together_35 σ = some (sp_sum (σ.1 41) n, σ) := by
        apply x_ens.eq
        unfold f_Se_together_35
        refine x_ens.bi (P := fun b => b.1 = sp_sum (σ.1 41) n ∧ b.2.2 = σ) ?_ (fun b hb => x_ens.so (by rw [hb.1, hb.2]))
        refine x_iv.go (fun i a => a = (sp_sum (σ.1 41) i, Int32.ofNat i, σ)) n (by omega) rfl ?_
        rintro i a hi rfl
        unfold f_Se_together_35_L4
        dsimp only
        rw [e8]
        by_cases hx : i = n
        · subst hx
          rw [if_pos i_lr]
          exact x_iv.l ⟨rfl, rfl⟩
        · rw [if_neg (fun h => by have := (i_le (by omega) (by omega)).mp h; omega), if_neg (show ¬ (16 : Int32) ≤ Int32.ofNat i from fun h => by have := (i_le (j := 16) (by omega) (by omega)).mp h; omega), i_cl (by omega), i_s]
          refine x_ens.gr (by rintro (h | h) <;> first | exact i_ge (by omega) h | omega | (rw [i_cl (by omega)] at h; omega)) ?_
          exact x_iv.r (by omega) rfl
      rw [this]
      dsimp only [Option.bind_some]
      obtain ⟨s, s1, s2⟩ := sp_sum_n n16 (fun i hi => (hb i hi).2)
      rw [e8, s2, i_cl (by omega), e_RH_part (by omega) n16 (fun hz => by rw [hz] at s1; omega)]
      exact x_ens.so ⟨rfl, F⟩
  · rw [if_neg h]
    by_cases h1 : v < 0
    · rw [if_pos h1]; exact x_ens.so ⟨rfl, F⟩
    · rw [if_neg h1, if_neg (fun x => h ⟨i_nl.mp h1, x⟩)]; exact x_ens.so ⟨rfl, F⟩
def wst_m3 (g : Nat → Int32) (i : Nat) (c : Int32 × Int32 × Int32) : Int32 × Int32 × Int32 := (c.1 + g i, if i = 0 then g i else if g i ≤ c.2.1 then c.2.1 else g i, if i = 0 then g i else if c.2.2 ≤ g i then c.2.2 else g i)
theorem wst_m3_e {g : Nat → Int32} {i : Nat} {c : Int32 × Int32 × Int32} : wst_m3 g i c = (c.1 + g i, if i = 0 then g i else if g i ≤ c.2.1 then c.2.1 else g i, if i = 0 then g i else if c.2.2 ≤ g i then c.2.2 else g i) := rfl
theorem sp_m3_1 {g : Nat → Int32} : ∀ {n : Nat}, (sp_fo (wst_m3 g) 0 (0, 0, 0) n).1 = sp_sum g n
  | 0 => rfl
  | n + 1 => by rw [sp_fo_1, sp_sum, ← @sp_m3_1 g n]; rfl
theorem sp_m3_2 {g : Nat → Int32} : ∀ {n : Nat}, (sp_fo (wst_m3 g) 0 (0, 0, 0) (n + 1)).2 = sp_fo (wst_sn g) 0 (g 0, g 0) n
  | 0 => by
    rw [sp_fo_1, wst_m3_e, if_pos rfl, if_pos rfl]; rfl
  | n + 1 => by
    have e1 := sp_fo_1 (st := wst_m3 g) (c := (0, 0, 0)) (i := n + 1)
    have e2 := sp_fo_1 (st := wst_sn g) (c := (g 0, g 0)) (i := n)
    rw [e1, e2, ← @sp_m3_2 g n, wst_m3_e]
    generalize sp_fo (wst_m3 g) 0 (0, 0, 0) (n + 1) = c
    unfold wst_sn
    dsimp only
    rw [if_neg (show ¬ n + 1 = 0 by omega), if_neg (show ¬ n + 1 = 0 by omega)]
    refine Prod.ext ?_ ?_
    · dsimp only
      by_cases h : g (n + 1) ≤ c.2.1
      · rw [if_pos h, if_neg (i_nl.mpr h)]
      · rw [if_neg h, if_pos (i_nle.mp h)]
    · dsimp only
      by_cases h : c.2.2 ≤ g (n + 1)
      · rw [if_pos h, if_neg (i_nl.mpr h)]
      · rw [if_neg h, if_pos (i_nle.mp h)]
theorem wst_m3_c {g g' : Nat → Int32} {n : Nat} (h : ∀ i, i < n → g i = g' i) : sp_fo (wst_m3 g) 0 (0, 0, 0) n = sp_fo (wst_m3 g') 0 (0, 0, 0) n :=
  sp_fo_congr (fun j _ h2 x => by rw [wst_m3_e, wst_m3_e, h j (by omega)])
theorem m_middle {C : Nat → Nat → Int32} {σ : xS} {v : Int32} (B : x_B C σ) : x_ens (f_Mo_middle_60 v σ) (fun q => x_an x_k1 (A_middle (σ.1 35 8).toNatClampNeg (σ.1 41) v) q.1 q.2 ∧ x_B C q.2) := by
  unfold f_Mo_middle_60 A_middle
  dsimp only
  obtain ⟨n16, e8, e76, hb⟩ := B.2.2.2.1.bn'
  generalize (σ.1 35 8).toNatClampNeg = n at n16 e8 e76 hb
  rw [e_Mo_isWhat x_60]
  dsimp only [Option.bind_some]
  by_cases h : 0 ≤ v ∧ v ≤ 2
  · simp only [if_pos h]
    rw [if_neg (by decide)]
    refine x_ens.bi (P := fun b => (b.1, b.2.1, b.2.2.1) = sp_fo (wst_m3 (σ.1 41)) 0 (0, 0, 0) n ∧ b.2.2.2.2 = x_pI σ 60 0 0) ?_ ?_
    · rw [← wst_m3_c (fun i hi => (hb i hi).1)]
      refine x_scI (fun i (c : Int32 × Int32 × Int32) τ => (c.1, c.2.1, c.2.2, Int32.ofNat i, τ)) (wst_m3 (σ.1 91)) (fun i c τ => τ = x_pI σ 60 0 0) n (c0 := (0, 0, 0)) (by omega) rfl ?_ ?_
      · rintro i ⟨c1, c2, c3⟩ τ hi rfl
        unfold f_Mo_middle_60_L26 f_Mo_middle_60_J61 f_Mo_middle_60_J72
        dsimp only
        rw [show (x_pI σ 60 0 0).1 60 76 = Int32.ofNat n from e76, if_neg (fun h => by have := (i_le (by omega) (by omega)).mp h; omega), i_cl (by omega), i_s, show (x_pI σ 60 0 0).1 91 = σ.1 91 from y_pI_ne (by omega), wst_m3_e]
        refine x_ens.gr (by rintro (h | h) <;> first | exact i_ge (by omega) h | omega | (rw [i_cl (by omega)] at h; omega)) ?_
        have ix : ¬ (Int32.ofNat i < 0 ∨ 16 ≤ i) := by rintro (h | h); exact i_ge (by omega) h; omega
        by_cases h0 : i = 0
        · rw [if_pos (show Int32.ofNat i = 0 by rw [h0]; rfl), if_neg ix, if_pos (show Int32.ofNat i = 0 by rw [h0]; rfl), if_neg ix]
          dsimp only
          rw [if_pos h0, if_pos h0]
          exact x_ens.so ⟨_, rfl, rfl⟩
        · have hz : ¬ Int32.ofNat i = 0 := by rw [i_ne0 (by omega)]; exact h0
          rw [if_neg hz, if_neg ix]
          dsimp only
          rw [if_neg h0, if_neg h0]
          by_cases h1 : σ.1 91 i ≤ c2
          · rw [if_pos h1, if_neg hz, if_neg ix, if_pos h1]
            by_cases h2 : c3 ≤ σ.1 91 i
            · rw [if_pos h2, if_pos h2]; exact x_ens.so ⟨_, rfl, rfl⟩
            · rw [if_neg h2, if_neg ix, if_neg h2]; exact x_ens.so ⟨_, rfl, rfl⟩
          · rw [if_neg h1, if_neg ix, if_neg hz, if_neg ix, if_neg h1]
            by_cases h2 : c3 ≤ σ.1 91 i
            · rw [if_pos h2, if_pos h2]; exact x_ens.so ⟨_, rfl, rfl⟩
            · rw [if_neg h2, if_neg ix, if_neg h2]; exact x_ens.so ⟨_, rfl, rfl⟩
      · rintro c τ hc rfl
        unfold f_Mo_middle_60_L26
        dsimp only
        rw [show (x_pI σ 60 0 0).1 60 76 = Int32.ofNat n from e76, if_pos i_lr]
        exact x_ens.so ⟨_, rfl, hc, rfl⟩
    · rintro b ⟨hb1, hb2⟩
      have q1 : b.1 = sp_sum (σ.1 41) n := by rw [← sp_m3_1, ← hb1]
      rw [hb2, show (x_pI σ 60 0 0).1 60 76 = Int32.ofNat n from e76]
      by_cases h2 : v = 2
      · rw [if_pos h2, if_pos h2]
        refine x_ens.so ⟨⟨x_60, ?_⟩, B.t0⟩
        dsimp only
        unfold sp_sn
        by_cases hz : n = 0
        · rw [if_pos hz]
          rw [hz] at hb1
          have e := congrArg Prod.snd hb1
          dsimp only [sp_fo] at e
          have e1 := congrArg Prod.fst e
          have e2 := congrArg Prod.snd e
          dsimp only at e1 e2
          rw [e1, e2]; decide
        · obtain ⟨m, rfl⟩ : ∃ m, n = m + 1 := ⟨n - 1, by omega⟩
          have e := (congrArg Prod.snd hb1).trans sp_m3_2
          dsimp only at e
          rw [if_neg hz, show m + 1 - 1 = m by omega, ← e]
      · rw [if_neg h2, if_neg h2, q1]
        obtain ⟨s, s1, s2⟩ := sp_sum_n n16 (fun i hi => (hb i hi).2)
        rw [s2, i_cl (by omega)]
        have key := @e_Mo_part (x_pI σ 60 0 0) s n v (by omega) n16 (fun hz => by rw [hz] at s1; omega)
        by_cases hz : n = 0
        · rw [if_pos hz] at key
          rw [if_pos (show Int32.ofNat n = 0 by rw [hz]; rfl), key]
          exact x_ens.so ⟨⟨x_60, rfl⟩, B.t0⟩
        · rw [if_neg hz] at key
          rw [if_neg (show ¬ Int32.ofNat n = 0 by rw [i_ne0 (by omega)]; exact hz), key]
          exact x_ens.so ⟨⟨x_60, rfl⟩, B.t0⟩
  · simp only [if_neg h]
    rw [if_pos trivial, x_pI_pI]; exact x_ens.so ⟨x_60, B.t0⟩
theorem o_middle (v : Int32) : x_OP (w_middle v) (f_Mo_middle_60 v) := by
  refine x_OPq (f := f_RH_middle_0 v) (κ := x_k1) (A := fun C g => A_middle (g 35 8).toNatClampNeg (g 41) v) (fun C σ B F => c_middle B F) (fun σ q e => fr_RH_middle_0 e) rfl (fun C g g' h h55 h01 h59 => by simp only [h 35 (by simp), h 36 (by simp), h 39 (by simp), h 40 (by simp), h 41 (by simp), h 58 (by simp), h55, h01, h59]) (fun C σ B => m_middle B) (fun σ q e => fr_Mo_middle_60 e) rfl ?_ ?_
  · intro σ u τ e; unfold w_middle; rw [e]; rfl
  · intro C σ B k τ e hk
    unfold A_middle at hk
    (repeat' split at hk) <;> cases hk <;> (unfold w_middle; rw [e]; exact ⟨rfl, by decide⟩)
