def x_r5 (g : Nat → Int32) (n m i : Nat) (D : xS → xS → Prop) (qc : Int32 × xS) (υ : xS) : Prop :=
  (qc.1 = 0 ∧ ∃ k e, qc.2.1 2 6 = k ∧ qc.2.1 2 7 = Int32.ofNat (tk_i g n e).2.2.1 ∧ x_bad g n υ k e) ∨ (qc.1 = 1 ∧ ∃ i' c P, i < i' ∧ x_kh (tk_i g n) m qc.2 i' c ∧ x_mh g n m υ i' ∧ x_d5 c P i' qc.2 υ ∧ D qc.2 υ)
section LY
variable {g : Nat → Int32} {n m i i0 : Nat} {c P : List Int32} {τ υ : xS} {D : xS → xS → Prop}
theorem rs_end5 (h : x_kh (tk_i g n) m τ i c) (k : x_mh g n m υ i) (hi : i0 < i) (hD : ∀ τ' υ', x_fr [(2, 4)] τ τ' → x_fr x_WT υ υ' → x_d5 c P (tk_ad m i) τ' υ' ∧ D τ' υ') : x_ens (f_Re_readEnd_2 τ) (fun qc => (qc.1 = 0 ∨ qc.1 = 1) ∧ x_ens (l_fin υ) (fun qm => x_r5 g n m i0 D qc qm.2)) := by
  refine (k_end h).im ?_
  intro qc hc
  have hle := (tk_ad_b k.2.2.2).2
  by_cases hs : (tk_i g n i).1 = 3 ∧ (tk_i g n i).2.1 = 59
  · rw [if_pos hs] at hc
    refine ⟨Or.inr hc.1, (l_end k).im ?_⟩
    rintro qm ⟨f, hm⟩
    rw [if_pos hs] at hm
    exact Or.inr ⟨hc.1, _, c, P, by omega, hc.2.1, hm, (hD _ _ hc.2.2 f).1, (hD _ _ hc.2.2 f).2⟩
  · rw [if_neg hs] at hc
    refine ⟨Or.inl hc.1, (l_end k).im ?_⟩
    rintro qm ⟨f, hm⟩
    rw [if_neg hs] at hm
    exact Or.inl ⟨hc.1, 1, i, hc.2.1, hc.2.2, hm⟩
theorem rs_bad5 {qc : Int32 × xS} {k : Int32} {e : Nat} (h0 : qc.1 = 0) (h6 : qc.2.1 2 6 = k) (h7 : qc.2.1 2 7 = Int32.ofNat (tk_i g n e).2.2.1) (hb : x_bad g n υ k e) : x_ens (l_fin υ) (fun qm => x_r5 g n m i0 D qc qm.2) := by
  refine (l_endb hb).im ?_
  intro qm hm
  rw [hm]
  exact Or.inl ⟨h0, k, e, h6, h7, hb⟩
theorem k_has {r : Nat} (hr : r < 6) : f_Ru_has_27 (Int32.ofNat r) τ = some (if τ.1 30 r ≤ τ.1 29 r then 0 else 1, τ) := by
  unfold f_Ru_has_27
  rw [if_neg (i_ge (by omega)), if_neg (show ¬ (6 : Int32) ≤ Int32.ofNat r from fun x => by have := (i_le (j := 6) (by omega) (by omega)).mp x; omega), i_cl (by omega)]
  have ix : ¬ (Int32.ofNat r < 0 ∨ 6 ≤ r) := by rintro (x | x); exact i_ge (by omega) x; omega
  rw [if_neg ix, if_neg ix]
  split <;> rfl
theorem k_open {r : Nat} (hr : r < 6) (h : τ.1 27 1 = Int32.ofNat c.length) : f_Ru_open_27 (Int32.ofNat r) τ = some ((), x_pI (x_pI τ 29 r (Int32.ofNat c.length)) 30 r (Int32.ofNat c.length)) := by
  unfold f_Ru_open_27
  rw [if_neg (i_ge (by omega)), if_neg (show ¬ (6 : Int32) ≤ Int32.ofNat r from fun x => by have := (i_le (j := 6) (by omega) (by omega)).mp x; omega), i_cl (by omega)]
  have ix : ¬ (Int32.ofNat r < 0 ∨ 6 ≤ r) := by rintro (x | x); exact i_ge (by omega) x; omega
  rw [if_neg ix, if_neg ix]
  dsimp only
  rw [y_pI_ne (show 27 ≠ 29 by omega), h]
theorem k_close {r : Nat} {v : Int32} (hr : r < 6) (h : τ.1 27 1 = v) : f_Ru_close_27 (Int32.ofNat r) τ = some ((), x_pI τ 30 r v) := by
  unfold f_Ru_close_27
  rw [if_neg (i_ge (by omega)), if_neg (show ¬ (6 : Int32) ≤ Int32.ofNat r from fun x => by have := (i_le (j := 6) (by omega) (by omega)).mp x; omega), i_cl (by omega)]
  have ix : ¬ (Int32.ofNat r < 0 ∨ 6 ≤ r) := by rintro (x | x); exact i_ge (by omega) x; omega
  rw [if_neg ix, h]
theorem t_ocr {r : Nat} {rule lo hi : Int32} (hr : r < 6) (h : x_kh (tk_i g n) m τ i c) (k : x_mh g n m υ i) (hp : x_li (υ.1 60 40) (υ.1 76) P) (hb : P.length ≤ 2 * i + 20) (hru : x_ru rule lo hi) (hR : rd_expr (tk_i g n) m (Int32.ofNat r) 8 0 = rd_expr (tk_i g n) m rule 8 0) {β : Type} {kk : xS → Option β} {Q : β → Prop} {z : xS → Option β} (bad : ∀ (q : xS) (qm : Unit × xS) (f : Int32) (e : Nat), f_Mo_expression_60 lo hi υ = some qm → q.1 2 6 = f → q.1 2 7 = Int32.ofNat (tk_i g n e).2.2.1 → x_bad g n qm.2 f e → x_ens (z q) Q) (good : ∀ (q : xS) (qm : Unit × xS) (j' : Nat) (w : List Int32), f_Mo_expression_60 lo hi υ = some qm → x_fr x_WR (x_pI (x_pI τ 29 r (Int32.ofNat c.length)) 30 r (Int32.ofNat c.length)) q → i ≤ j' → w.length + i ≤ j' → x_kh (tk_i g n) m q j' (c ++ w) → x_mh g n m qm.2 j' → x_li (qm.2.1 60 40) (qm.2.1 76) (P ++ (w.flatMap sp_wr ++ [0])) → sp_hg w 0 ∧ sp_us (ht_lo rule) (ht_hi rule) w → x_ens (kk (x_pI q 30 r (Int32.ofNat (c.length + w.length)))) Q) : x_ens ((f_Ru_open_27 (Int32.ofNat r) τ).bind fun q3 => (f_Re_readExpr_2_27 (Int32.ofNat r) 0 q3.2).bind fun q4 => if q4.1 = 0 then z q4.2 else (f_Ru_close_27 (Int32.ofNat r) q4.2).bind fun q5 => kk q5.2) Q := by
  rw [k_open hr h.2.2.2.2.1.1]
  dsimp only [Option.bind_some]
  have h' : x_kh (tk_i g n) m (x_pI (x_pI τ 29 r (Int32.ofNat c.length)) 30 r (Int32.ofNat c.length)) i c := h.fr (W := [(29, 99999), (30, 99999)]) (x_frI (p := 30) rfl (x_frI (p := 29) rfl x_fr.rf)) rfl rfl rfl rfl rfl rfl rfl
  obtain ⟨q4, e4, h4⟩ := t_expr h' k hp hb hru hR
  have f4 := fr_Re_readExpr_2_27 e4
  rw [e4]
  dsimp only [Option.bind_some]
  obtain ⟨qm, em, h5⟩ := h4
  rcases h5 with ⟨a, f, e, b1, b2, b3⟩ | ⟨a, j', w, b1, b2, b3, b4, b5, b6, b7⟩
  · rw [if_pos a]; exact bad _ qm f e em b1 b2 b3
  · rw [if_neg (by rw [a]; decide), k_close hr b3.2.2.2.2.1.1, List.length_append]
    exact good _ qm j' w em f4 b1 b2 b3 b4 b5 ⟨b6, b7⟩
end LY
