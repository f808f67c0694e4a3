def x_kh (T : tT) (m : Nat) (τ : xS) (i : Nat) (c : List Int32) : Prop := x_H T m τ ∧ x_cs m τ τ i c
theorem x_H.fr {T : tT} {m : Nat} {τ τ' : xS} {W : List (Nat × Nat)} (H : x_H T m τ) (f : x_fr W τ τ') (h2 : x_in W 2 3 = false) (h3 : (W.all fun w => w.1 != 3) = true) (h4 : (W.all fun w => w.1 != 4) = true) (h5 : (W.all fun w => w.1 != 5) = true) : x_H T m τ' := by
  obtain ⟨a, b, c, d, e, g⟩ := H
  exact ⟨a, b, c, d, (f.ck 2 3 h2).trans e, by rw [f.ce 3 h3, f.ce 4 h4, f.ce 5 h5]; exact g⟩
section LC
variable {T : tT} {m : Nat} {τ : xS} {i : Nat} {c : List Int32}
theorem x_kh.re {q : xS} {j : Nat} {c' : List Int32} (H : x_H T m τ) (h : x_cs m τ q j c') : x_kh T m q j c' := ⟨H.fr h.1 rfl rfl rfl rfl, x_fr.rf, h.2⟩
theorem x_kh.fr {W : List (Nat × Nat)} {τ' : xS} (h : x_kh T m τ i c) (f : x_fr W τ τ') (h2 : x_in W 2 3 = false) (h2' : x_in W 2 4 = false) (h3 : (W.all fun w => w.1 != 3) = true) (h4 : (W.all fun w => w.1 != 4) = true) (h5 : (W.all fun w => w.1 != 5) = true) (h27 : x_in W 27 1 = false) (h28 : (W.all fun w => w.1 != 28) = true) : x_kh T m τ' i c := by
  obtain ⟨H, -, a, b, d, e⟩ := h
  exact ⟨H.fr f h2 h3 h4 h5, x_fr.rf, (f.ck 2 4 h2').trans a, b, by rw [f.ck 27 1 h27, f.ce 28 h28]; exact d, e⟩
theorem k_adv (h : x_kh T m τ i c) : x_ens (f_Re_advance_2 τ) (fun q => x_kh T m q.2 (tk_ad m i) c ∧ x_fr [(2, 4)] τ q.2) := by
  obtain ⟨q, e, k⟩ := r_adv h.1 h.2
  exact ⟨q, e, x_kh.re h.1 k, fr_Re_advance_2 e⟩
theorem k_ref (h : x_kh T m τ i c) (k : Int32) : x_ens (f_Re_refuse_2 k τ) (fun q => q.1 = 0 ∧ q.2.1 2 6 = k ∧ q.2.1 2 7 = Int32.ofNat (T i).2.2.1) := by
  refine (r_ref h.1 h.2 k).im ?_
  rintro q ⟨a, b⟩
  exact ⟨a, b.2⟩
theorem k_nt {β : Type} {lo hi : Int32} (h : x_kh T m τ i c) {k : Int32 × xS → Option β} {z : xS → Option β} {Q : β → Prop} (good : (T i).1 = 2 → lo ≤ (T i).2.1 → (T i).2.1 ≤ hi → ∀ q : Int32 × xS, q.1 = (T i).2.1 → x_kh T m q.2 (tk_ad m i) c → x_fr [(2, 4)] τ q.2 → x_ens (k q) Q) (bad : ∀ (kk : Int32) (q : xS), (if (T i).1 = 2 then ¬ (lo ≤ (T i).2.1 ∧ (T i).2.1 ≤ hi) ∧ kk = 2 else kk = 1) → q.1 2 6 = kk → q.1 2 7 = Int32.ofNat (T i).2.2.1 → x_ens (z q) Q) : x_ens ((f_Re_isNumber_2 lo hi τ).bind fun q2 => if q2.1 = 0 then z q2.2 else (f_Re_takeNumber_2 q2.2).bind k) Q := by
  refine x_ens.bi (r_num h.1 h.2 lo hi) ?_
  intro q hq
  by_cases h2 : (T i).1 = 2
  · rw [if_pos h2] at hq
    by_cases h3 : lo ≤ (T i).2.1 ∧ (T i).2.1 ≤ hi
    · rw [if_pos h3] at hq
      rw [if_neg (by rw [hq.1]; decide), hq.2]
      obtain ⟨q4, e4, k4⟩ := r_take h.1 h.2
      rw [e4]
      exact good h2 h3.1 h3.2 q4 k4.1 (x_kh.re h.1 k4.2) (fr_Re_takeNumber_2 e4)
    · rw [if_neg h3] at hq
      rw [if_pos hq.1]
      exact bad 2 _ (by rw [if_pos h2]; exact ⟨h3, rfl⟩) hq.2.2.1 hq.2.2.2
  · rw [if_neg h2] at hq
    rw [if_pos hq.1]
    exact bad 1 _ (by rw [if_neg h2]) hq.2.2.1 hq.2.2.2
theorem k_end (h : x_kh T m τ i c) : x_ens (f_Re_readEnd_2 τ) (fun q => if (T i).1 = 3 ∧ (T i).2.1 = 59 then q.1 = 1 ∧ x_kh T m q.2 (tk_ad m i) c ∧ x_fr [(2, 4)] τ q.2 else q.1 = 0 ∧ q.2.1 2 6 = 1 ∧ q.2.1 2 7 = Int32.ofNat (T i).2.2.1) := by
  unfold f_Re_readEnd_2
  rw [r_sign h.1 h.2]
  dsimp only [Option.bind_some]
  by_cases hs : (T i).1 = 3 ∧ (T i).2.1 = 59
  · simp only [if_pos hs]
    rw [if_neg (show ¬ (1 : Int32) = 0 by decide)]
    refine x_ens.bi (k_adv h) ?_
    rintro q ⟨a, b⟩
    exact x_ens.so ⟨rfl, a, b⟩
  · simp only [if_neg hs]
    rw [if_pos trivial]
    refine x_ens.bi (k_ref h 1) ?_
    rintro q ⟨a, b, d⟩
    exact x_ens.ok (Or.inl a) (x_ens.so ⟨a, b, d⟩)
end LC
def x_rs (g : Nat → Int32) (n m i : Nat) (c : List Int32) (D : xS → xS → Prop) (qc : Int32 × xS) (υ : xS) : Prop :=
  (qc.1 = 0 ∧ ∃ k e, qc.2.1 2 6 = k ∧ qc.2.1 2 7 = Int32.ofNat (tk_i g n e).2.2.1 ∧ x_bad g n υ k e) ∨ (qc.1 = 1 ∧ ∃ i', i < i' ∧ x_kh (tk_i g n) m qc.2 i' c ∧ x_mh g n m υ i' ∧ D qc.2 υ)
section LR
variable {g : Nat → Int32} {n m i : Nat} {c : List Int32} {D : xS → xS → Prop} {i0 : Nat}
theorem rs_end {τ υ : xS} (h : x_kh (tk_i g n) m τ i c) (k : x_mh g n m υ i) (hi : i0 < i) (hD : ∀ τ' υ', x_fr [(2, 4)] τ τ' → x_fr x_WT υ υ' → D τ' υ') : x_ens (f_Re_readEnd_2 τ) (fun qc => (qc.1 = 0 ∨ qc.1 = 1) ∧ x_ens (l_fin υ) (fun qm => x_rs g n m i0 c D qc qm.2)) := by
  refine (k_end h).im ?_
  intro qc hc
  have hle := (tk_ad_b k.2.2.2).2
  by_cases hs : (tk_i g n i).1 = 3 ∧ (tk_i g n i).2.1 = 59
  · rw [if_pos hs] at hc
    refine ⟨Or.inr hc.1, (l_end k).im ?_⟩
    rintro qm ⟨f, hm⟩
    rw [if_pos hs] at hm
    exact Or.inr ⟨hc.1, _, by omega, hc.2.1, hm, hD _ _ hc.2.2 f⟩
  · rw [if_neg hs] at hc
    refine ⟨Or.inl hc.1, (l_end k).im ?_⟩
    rintro qm ⟨f, hm⟩
    rw [if_neg hs] at hm
    exact Or.inl ⟨hc.1, 1, i, hc.2.1, hc.2.2, hm⟩
theorem rs_bad {qc : Int32 × xS} {υ : xS} {k : Int32} {e : Nat} (h0 : qc.1 = 0) (h6 : qc.2.1 2 6 = k) (h7 : qc.2.1 2 7 = Int32.ofNat (tk_i g n e).2.2.1) (hb : x_bad g n υ k e) : x_ens (l_fin υ) (fun qm => x_rs g n m i0 c D qc qm.2) := by
  refine (l_endb hb).im ?_
  intro qm hm
  rw [hm]
  exact Or.inl ⟨h0, k, e, h6, h7, hb⟩
end LR
def x_d1 (τ υ : xS) : Prop := τ.1 21 0 = υ.1 60 27 ∧ (12 ≤ τ.1 21 0 ∧ τ.1 21 0 ≤ 480) ∧ ∃ k s : Nat, k ≤ 12 ∧ s ≤ 600 ∧ τ.1 21 1 = Int32.ofNat k ∧ υ.1 60 28 = Int32.ofNat k ∧ τ.1 21 4 = Int32.ofNat s ∧ υ.1 60 34 = Int32.ofNat s ∧ sp_sum (τ.1 23) k = Int32.ofNat s ∧ (∀ j, j < k → υ.1 69 j = τ.1 22 j ∧ υ.1 70 j = τ.1 23 j ∧ (12 ≤ τ.1 22 j ∧ τ.1 22 j ≤ 480) ∧ 1 ≤ τ.1 23 j ∧ τ.1 23 j ≤ 99) ∧ υ.1 60 35 = (if k = 0 then τ.1 21 0 else τ.1 22 (k - 1))
theorem x_d1.fr {W V : List (Nat × Nat)} {τ τ' υ υ' : xS} (h : x_d1 τ υ) (f : x_fr W τ τ') (f' : x_fr V υ υ') (h0 : x_in W 21 0 = false) (h1 : x_in W 21 1 = false) (h4 : x_in W 21 4 = false) (h22 : (W.all fun w => w.1 != 22) = true) (h23 : (W.all fun w => w.1 != 23) = true) (k27 : x_in V 60 27 = false) (k28 : x_in V 60 28 = false) (k34 : x_in V 60 34 = false) (k35 : x_in V 60 35 = false) (k69 : (V.all fun w => w.1 != 69) = true) (k70 : (V.all fun w => w.1 != 70) = true) : x_d1 τ' υ' := by
  unfold x_d1
  rw [f.ck 21 0 h0, f.ck 21 1 h1, f.ck 21 4 h4, f.ce 22 h22, f.ce 23 h23, f'.ck 60 27 k27, f'.ck 60 28 k28, f'.ck 60 34 k34, f'.ck 60 35 k35, f'.ce 69 k69, f'.ce 70 k70]
  exact h
