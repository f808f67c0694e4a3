theorem x_d4.fr {W V : List (Nat × Nat)} {τ τ' υ υ' : xS} (h : x_d4 τ υ) (f : x_fr W τ τ') (f' : x_fr V υ υ') (h6 : (W.all fun w => w.1 != 6) = true) (h0 : x_in W 26 0 = false) (h1 : x_in W 26 1 = false) (h2 : x_in W 26 2 = false) (h3 : x_in W 26 3 = false) (h4 : x_in W 26 4 = false) (h5 : x_in W 26 5 = false) (k74 : (V.all fun w => w.1 != 74) = true) (kb : ∀ b, b < 32 → ¬ b = 2 → ¬ b = 17 → x_bt (υ'.1 60 37) b = x_bt (υ.1 60 37) b) : x_d4 τ' υ' := by
  unfold x_d4
  rw [f.ce 6 h6, f.ck 26 0 h0, f.ck 26 1 h1, f.ck 26 2 h2, f.ck 26 3 h3, f.ck 26 4 h4, f.ck 26 5 h5, f'.ce 74 k74, kb 7 (by omega) (by omega) (by omega), kb 14 (by omega) (by omega) (by omega), kb 15 (by omega) (by omega) (by omega), kb 16 (by omega) (by omega) (by omega), kb 11 (by omega) (by omega) (by omega)]
  exact h
theorem x_d5.fr {W V : List (Nat × Nat)} {τ τ' υ υ' : xS} {c P : List Int32} {i i' : Nat} (h : x_d5 c P i τ υ) (hi : i ≤ i') (f : x_fr W τ τ') (f' : x_fr V υ υ') (h29 : (W.all fun w => w.1 != 29) = true) (h30 : (W.all fun w => w.1 != 30) = true) (h9 : x_in W 21 9 = false) (k40 : x_in V 60 40 = false) (k76 : (V.all fun w => w.1 != 76) = true) (k31 : x_in V 60 31 = false) (k32 : x_in V 60 32 = false) (k33 : x_in V 60 33 = false) (k75 : (V.all fun w => w.1 != 75) = true) (kb2 : x_bt (υ'.1 60 37) 2 = x_bt (υ.1 60 37) 2) (kb17 : x_bt (υ'.1 60 37) 17 = x_bt (υ.1 60 37) 17) : x_d5 c P i' τ' υ' := by
  unfold x_d5 at h ⊢
  rw [f.ce 29 h29, f.ce 30 h30, f.ck 21 9 h9, f'.ck 60 40 k40, f'.ce 76 k76, f'.ck 60 31 k31, f'.ck 60 32 k32, f'.ck 60 33 k33, f'.ce 75 k75, kb2, kb17]
  exact ⟨h.1, by have := h.2.1; omega, h.2.2⟩
def x_DR (g : Nat → Int32) (n m i : Nat) (c P : List Int32) (τ υ : xS) : Prop := x_kh (tk_i g n) m τ i c ∧ x_mh g n m υ i ∧ x_d1 τ υ ∧ x_d2 τ υ ∧ x_d3 τ υ ∧ x_d4 τ υ ∧ x_d5 c P i τ υ
def x_lo5 (g : Nat → Int32) (n m i : Nat) (qc : Int32 × xS) (υ : xS) : Prop :=
  (qc.1 = 0 ∧ ∃ k e, qc.2.1 2 6 = k ∧ qc.2.1 2 7 = Int32.ofNat (tk_i g n e).2.2.1 ∧ x_bad g n υ k e) ∨ (qc.1 = 1 ∧ ∃ i' c P, i < i' ∧ x_DR g n m i' c P qc.2 υ)
theorem d3_26 {W : List (Nat × Nat)} (h : (W.all fun w => w.1 != 26) = true) : ∀ j, x_in W 26 j = false := by
  intro j
  unfold x_in
  rw [List.any_eq_false]
  intro w hw h2
  have := List.all_eq_true.mp h w hw
  simp only [Bool.and_eq_true, beq_iff_eq] at h2
  rw [h2.1] at this
  simp at this
