section LW
variable {σ : xS} {nx : Int32}
theorem lv_P {w m : xS → Option (Int32 × xS)} (o : x_OP w m) (R : x_Rel σ) : ∃ σ', ((w σ).bind fun q4 => (m q4.2).bind fun q6 => (f_Mo_thrown_60 q6.2).bind fun q8 => if q8.1 = q4.1 then (if q4.1 = 0 then (if lg_cmp (q8.2.2 96 0) q6.1.toInt64 = 0 then some ((Sum.inr (nx, q8.2)) : (Int32 × xS) ⊕ (Int32 × xS)) else none) else some (Sum.inr (nx, q8.2))) else none) = some (Sum.inr (nx, σ')) ∧ x_Rel σ' := by
  obtain ⟨k, σ1, b, σ2, e1, e2, h0, h1, R2⟩ := o σ R
  refine ⟨σ2, ?_, R2⟩
  rw [e1]
  dsimp only [Option.bind_some]
  rw [e2]
  dsimp only [Option.bind_some]
  unfold f_Mo_thrown_60
  dsimp only [Option.bind_some]
  rw [if_pos h0]
  by_cases hk : k = 0
  · rw [if_pos hk, if_pos (lg_0.mpr (h1 hk))]
  · rw [if_neg hk]
theorem lv_S {f m : xS → Option (Int32 × xS)} (o : x_OS f m) (R : x_Rel σ) : ∃ σ', ((f σ).bind fun q4 => (m q4.2).bind fun q6 => if q4.1 = q6.1 then some ((Sum.inr (nx, q6.2)) : (Int32 × xS) ⊕ (Int32 × xS)) else none) = some (Sum.inr (nx, σ')) ∧ x_Rel σ' := by
  obtain ⟨a, σ1, σ2, e1, e2, R2⟩ := o σ R
  refine ⟨σ2, ?_, R2⟩
  rw [e1]
  dsimp only [Option.bind_some]
  rw [e2]
  dsimp only [Option.bind_some]
  rw [if_pos rfl]
theorem lv_U {f m : xS → Option (Unit × xS)} (o : x_OU f m) (R : x_Rel σ) : ∃ σ', ((f σ).bind fun q4 => (m q4.2).bind fun q6 => some ((Sum.inr (nx, q6.2)) : (Int32 × xS) ⊕ (Int32 × xS))) = some (Sum.inr (nx, σ')) ∧ x_Rel σ' := by
  obtain ⟨σ1, σ2, e1, e2, R2⟩ := o σ R
  refine ⟨σ2, ?_, R2⟩
  rw [e1]
  dsimp only [Option.bind_some]
  rw [e2]
  rfl
end LW
set_option maxHeartbeats 8000000 in
set_option maxRecDepth 100000 in
theorem law_step {xs : Nat → Int32} {L i : Nat} {σ : xS} (hi : i + 6 ≤ L) (hL : L ≤ 3072) (R : x_Rel σ) : ∃ σ', f_law xs L (Int32.ofNat i, σ) = some (.inr (Int32.ofNat (i + 6), σ')) ∧ x_Rel σ' := by
  have a1 : Int32.ofNat i + (1 : Int32) = Int32.ofNat (i + 1) := (Int32.ofNat_add i 1).symm
  have a2 : Int32.ofNat i + (2 : Int32) = Int32.ofNat (i + 2) := (Int32.ofNat_add i 2).symm
  have a3 : Int32.ofNat i + (3 : Int32) = Int32.ofNat (i + 3) := (Int32.ofNat_add i 3).symm
  have a4 : Int32.ofNat i + (4 : Int32) = Int32.ofNat (i + 4) := (Int32.ofNat_add i 4).symm
  have a5 : Int32.ofNat i + (5 : Int32) = Int32.ofNat (i + 5) := (Int32.ofNat_add i 5).symm
  have a6 : Int32.ofNat i + (6 : Int32) = Int32.ofNat (i + 6) := (Int32.ofNat_add i 6).symm
  have c1 : (Int32.ofNat (i + 1)).toNatClampNeg = i + 1 := i_cl (by omega)
  have g1 : ¬ (Int32.ofNat (i + 1) < 0 ∨ L ≤ i + 1) := by rintro (x | x); exact i_ge (by omega) x; omega
  have c2 : (Int32.ofNat (i + 2)).toNatClampNeg = i + 2 := i_cl (by omega)
  have g2 : ¬ (Int32.ofNat (i + 2) < 0 ∨ L ≤ i + 2) := by rintro (x | x); exact i_ge (by omega) x; omega
  have c3 : (Int32.ofNat (i + 3)).toNatClampNeg = i + 3 := i_cl (by omega)
  have g3 : ¬ (Int32.ofNat (i + 3) < 0 ∨ L ≤ i + 3) := by rintro (x | x); exact i_ge (by omega) x; omega
  have c4 : (Int32.ofNat (i + 4)).toNatClampNeg = i + 4 := i_cl (by omega)
  have g4 : ¬ (Int32.ofNat (i + 4) < 0 ∨ L ≤ i + 4) := by rintro (x | x); exact i_ge (by omega) x; omega
  have c5 : (Int32.ofNat (i + 5)).toNatClampNeg = i + 5 := i_cl (by omega)
  have g5 : ¬ (Int32.ofNat (i + 5) < 0 ∨ L ≤ i + 5) := by rintro (x | x); exact i_ge (by omega) x; omega
  have s6 : Int32.ofNat L - 6 = Int32.ofNat (L - 6) := by
    rw [show L = (L - 6) + 6 by omega, Int32.ofNat_add, Nat.add_sub_cancel]
    exact Int32.add_sub_cancel _ _
  unfold f_law
  dsimp only
  rw [s6, if_neg (show ¬ Int32.ofNat (L - 6) < Int32.ofNat i from fun x => by have := (i_lt (by omega) (by omega)).mp x; omega), i_cl (show i < 2147483648 by omega), if_neg (show ¬ (Int32.ofNat i < 0 ∨ L ≤ i) by rintro (x | x); exact i_ge (by omega) x; omega)]
  generalize (xs i) &&& (63 : Int32) = op
  by_cases h0 : op = 0
  · rw [if_pos h0]
    simp only [a1, a2, a3, a4, a5, a6, c1, c2, c3, c4, c5, if_neg g1, if_neg g2, if_neg g3, if_neg g4, if_neg g5]
    exact lv_S (o_feed _ _ _ _ _) R
  rw [if_neg h0]
  by_cases h1 : op = 1
  · rw [if_pos h1]
    simp only [a1, a6, c1, if_neg g1]
    exact lv_P (o_scene _) R
  rw [if_neg h1]
  by_cases h2 : op = 2
  · rw [if_pos h2]
    simp only [a6]
    exact lv_S (o_fault) R
  rw [if_neg h2]
  by_cases h3 : op = 3
  · rw [if_pos h3]
    simp only [a1, a6, c1, if_neg g1]
    exact lv_P (o_count _) R
  rw [if_neg h3]
  by_cases h4 : op = 4
  · rw [if_pos h4]
    simp only [a1, a6, c1, if_neg g1]
    exact lv_P (o_mark _) R
  rw [if_neg h4]
  by_cases h5 : op = 5
  · rw [if_pos h5]
    simp only [a1, a2, a6, c1, c2, if_neg g1, if_neg g2]
    exact lv_P (o_inches _ _) R
  rw [if_neg h5]
  by_cases h6 : op = 6
  · rw [if_pos h6]
    simp only [a1, a6, c1, if_neg g1]
    exact lv_P (o_turn _) R
  rw [if_neg h6]
  by_cases h7 : op = 7
  · rw [if_pos h7]
    simp only [a1, a2, a6, c1, c2, if_neg g1, if_neg g2]
    exact lv_P (o_tenth _ _) R
  rw [if_neg h7]
  by_cases h8 : op = 8
  · rw [if_pos h8]
    simp only [a1, a6, c1, if_neg g1]
    exact lv_P (o_all _) R
  rw [if_neg h8]
  by_cases h9 : op = 9
  · rw [if_pos h9]
    simp only [a1, a6, c1, if_neg g1]
    exact lv_S (o_hole _) R
  rw [if_neg h9]
  by_cases h10 : op = 10
  · rw [if_pos h10]
    simp only [a1, a6, c1, if_neg g1]
    exact lv_S (o_lag _) R
  rw [if_neg h10]
  by_cases h11 : op = 11
  · rw [if_pos h11]
    simp only [a1, a6, c1, if_neg g1]
    exact lv_S (o_wrist _) R
  rw [if_neg h11]
  by_cases h12 : op = 12
  · rw [if_pos h12]
    simp only [a1, a6, c1, if_neg g1]
    exact lv_S (o_eye _) R
  rw [if_neg h12]
  by_cases h13 : op = 13
  · rw [if_pos h13]
    simp only [a1, a6, c1, if_neg g1]
    exact lv_S (o_hand _) R
  rw [if_neg h13]
  by_cases h14 : op = 14
  · rw [if_pos h14]
    simp only [a1, a6, c1, if_neg g1]
    exact lv_S (o_behind _) R
  rw [if_neg h14]
  by_cases h15 : op = 15
  · rw [if_pos h15]
    simp only [a1, a2, a6, c1, c2, if_neg g1, if_neg g2]
    exact lv_P (o_chalk _ _) R
  rw [if_neg h15]
  by_cases h16 : op = 16
  · rw [if_pos h16]
    simp only [a6]
    exact lv_S (o_undo) R
  rw [if_neg h16]
  by_cases h17 : op = 17
  · rw [if_pos h17]
    simp only [a1, a6, c1, if_neg g1]
    exact lv_P (o_best _) R
  rw [if_neg h17]
  by_cases h18 : op = 18
  · rw [if_pos h18]
    simp only [a1, a6, c1, if_neg g1]
    exact lv_P (o_foretell _) R
  rw [if_neg h18]
  by_cases h19 : op = 19
  · rw [if_pos h19]
    simp only [a1, a6, c1, if_neg g1]
    exact lv_P (o_holes _) R
  rw [if_neg h19]
  by_cases h20 : op = 20
  · rw [if_pos h20]
    simp only [a1, a2, a6, c1, c2, if_neg g1, if_neg g2]
    exact lv_P (o_light _ _) R
  rw [if_neg h20]
  by_cases h21 : op = 21
  · rw [if_pos h21]
    simp only [a6]
    exact lv_S (o_both) R
  rw [if_neg h21]
  by_cases h22 : op = 22
  · rw [if_pos h22]
    simp only [a1, a6, c1, if_neg g1]
    exact lv_P (o_marks _) R
  rw [if_neg h22]
  by_cases h23 : op = 23
  · rw [if_pos h23]
    simp only [a1, a6, c1, if_neg g1]
    exact lv_P (o_kept _) R
  rw [if_neg h23]
  by_cases h24 : op = 24
  · rw [if_pos h24]
    simp only [a1, a2, a3, a4, a5, a6, c1, c2, c3, c4, c5, if_neg g1, if_neg g2, if_neg g3, if_neg g4, if_neg g5]
    exact lv_P (o_takes _ _ _ _ _) R
  rw [if_neg h24]
  by_cases h25 : op = 25
  · rw [if_pos h25]
    simp only [a1, a2, a6, c1, c2, if_neg g1, if_neg g2]
    by_cases hs : xs (i + 2) = 0
    · simp only [if_pos hs]
      exact lv_P (o_see _ _) R
    · simp only [if_neg hs]
      exact lv_P (o_see _ _) R
  rw [if_neg h25]
  by_cases h26 : op = 26
  · rw [if_pos h26]
    simp only [a1, a6, c1, if_neg g1]
    exact lv_P (o_fits _) R
  rw [if_neg h26]
  by_cases h27 : op = 27
  · rw [if_pos h27]
    simp only [a1, a6, c1, if_neg g1]
    exact lv_S (o_book _) R
  rw [if_neg h27]
  by_cases h28 : op = 28
  · rw [if_pos h28]
    simp only [a1, a2, a6, c1, c2, if_neg g1, if_neg g2]
    exact lv_P (o_next _ _) R
  rw [if_neg h28]
  by_cases h29 : op = 29
  · rw [if_pos h29]
    simp only [a1, a6, c1, if_neg g1]
    exact lv_P (o_middle _) R
  rw [if_neg h29]
  by_cases h30 : op = 30
  · rw [if_pos h30]
    simp only [a6]
    exact lv_U (o_forget) R
  rw [if_neg h30]
  by_cases h31 : op = 31
  · rw [if_pos h31]
    simp only [a1, a2, a6, c1, c2, if_neg g1, if_neg g2]
    exact lv_P (o_runs _ _) R
  rw [if_neg h31]
  by_cases h32 : op = 32
  · rw [if_pos h32]
    simp only [a6]
    exact lv_S (o_cure) R
  rw [if_neg h32]
  by_cases h33 : op = 33
  · rw [if_pos h33]
    simp only [a6]
    exact lv_S (o_wrists) R
  rw [if_neg h33]
  by_cases h34 : op = 34
  · rw [if_pos h34]
    simp only [a6]
    exact lv_S (o_learn) R
  rw [if_neg h34]
  by_cases h35 : op = 35
  · rw [if_pos h35]
    simp only [a1, a6, c1, if_neg g1]
    exact lv_P (o_shift _) R
  rw [if_neg h35]
  by_cases h36 : op = 36
  · rw [if_pos h36]
    simp only [a1, a6, c1, if_neg g1]
    exact lv_P (o_slip _) R
  rw [if_neg h36]
  by_cases h37 : op = 37
  · rw [if_pos h37]
    simp only [a1, a6, c1, if_neg g1]
    exact lv_P (o_lags _) R
  rw [if_neg h37]
  by_cases h38 : op = 38
  · rw [if_pos h38]
    simp only [a1, a2, a6, c1, c2, if_neg g1, if_neg g2]
    exact lv_P (o_depth _ _) R
  rw [if_neg h38]
  by_cases h39 : op = 39
  · rw [if_pos h39]
    simp only [a1, a6, c1, if_neg g1]
    exact lv_P (o_shots _) R
  rw [if_neg h39]
  by_cases h40 : op = 40
  · rw [if_pos h40]
    simp only [a1, a6, c1, if_neg g1]
    exact lv_P (o_quickest _) R
  rw [if_neg h40]
  by_cases h41 : op = 41
  · rw [if_pos h41]
    simp only [a6]
    exact lv_U (o_image) R
  rw [if_neg h41]
  by_cases h42 : op = 42
  · rw [if_pos h42]
    simp only [a6]
    exact lv_S (o_restore) R
  rw [if_neg h42]
  rw [a6]
  exact ⟨σ, rfl, R⟩
theorem law_out {xs : Nat → Int32} {L i fu : Nat} {σ : xS} (hL : L ≤ 3072) (hi : i ≤ L) (h : L < i + 6) : x_ens (x_it (f_law xs L) (fu + 1) (Int32.ofNat i, σ)) (fun _ => True) := by
  have hlt : Int32.ofNat L - 6 < Int32.ofNat i := by
    by_cases h6 : 6 ≤ L
    · rw [show L = (L - 6) + 6 by omega, Int32.ofNat_add, show Int32.ofNat (L - 6) + Int32.ofNat 6 - 6 = Int32.ofNat (L - 6) from Int32.add_sub_cancel _ _]
      exact (i_lt (by omega) (by omega)).mpr (by omega)
    · have h0 : Int32.ofNat L - 6 < 0 := by
        rcases (show L = 0 ∨ L = 1 ∨ L = 2 ∨ L = 3 ∨ L = 4 ∨ L = 5 by omega) with rfl | rfl | rfl | rfl | rfl | rfl <;> decide
      have h1 : 0 ≤ Int32.ofNat i := i_0k (by omega)
      rw [Int32.lt_iff_toInt_lt] at h0 ⊢
      rw [Int32.le_iff_toInt_le] at h1
      omega
  refine x_nx fun P kL kR => ?_
  unfold f_law
  dsimp only
  rw [if_pos hlt]
  exact kL _ trivial
theorem law_run {xs : Nat → Int32} {L : Nat} (hL : L ≤ 3072) : ∀ (d i fu : Nat) (σ : xS), x_Rel σ → i ≤ L → L - i ≤ 6 * d → d < fu → x_ens (x_it (f_law xs L) fu (Int32.ofNat i, σ)) (fun _ => True) := by
  intro d
  induction d with
  | zero =>
    intro i fu σ R hi hd hf
    obtain ⟨fu, rfl⟩ : ∃ x, fu = x + 1 := ⟨fu - 1, by omega⟩
    exact law_out (by omega) (by omega) (by omega)
  | succ d ih =>
    intro i fu σ R hi hd hf
    obtain ⟨fu, rfl⟩ : ∃ x, fu = x + 1 := ⟨fu - 1, by omega⟩
    by_cases h6 : i + 6 ≤ L
    · obtain ⟨σ', e, R'⟩ := law_step (xs := xs) h6 hL R
      refine x_nx fun P kL kR => ?_
      rw [e]
      exact kR _ (ih (i + 6) fu σ' R' (by omega) (by omega) (by omega))
    · exact law_out (by omega) (by omega) (by omega)
