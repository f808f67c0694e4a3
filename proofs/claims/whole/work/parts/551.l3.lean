section MJ
variable {g : Nat → Int32} {n m : Nat} {σ τ : xS} {i : Nat} {W D P : List Int32} {Q : Int32 × xS → Prop} {f4 fu : Nat} {k : Int32} {e : Nat}
theorem s_deep (H : x_HM g n m σ) (K : x_ms g n m σ τ i W D P) : x_ens (f_Mo_deeper_60 τ) (fun q => if D.length < 6 then x_ms g n m σ q.2 i W (0 :: D) P else x_mf g n m σ q.2 (if (tk_i g n i).1 = 2 ∨ (tk_i g n i).1 = 1 ∨ ((tk_i g n i).1 = 3 ∧ (tk_i g n i).2.1 = 40) then 2 else 1) i) := by
  obtain ⟨f, h16, ht, hi, hw, hd, hp, b1, b2, b3⟩ := id K
  unfold f_Mo_deeper_60
  rw [hd.1]
  by_cases h : D.length < 6
  · simp only [if_pos h]
    rw [if_neg (show ¬ (6 : Int32) ≤ Int32.ofNat D.length from fun x => by have := (i_le (j := 6) (by omega) (by omega)).mp x; omega), i_s, x_pI_kk, i_cl (by omega)]
    refine x_ens.gr (by rintro (h | h) <;> first | exact i_ge (by omega) h | omega | (rw [i_cl (by omega)] at h; omega)) ?_
    refine x_ens.so ⟨x_frI (p := 78) rfl (x_frI (p := 60) (k := 42) rfl f), by rw [y_pI_ne (by omega), x_pI_kn (by omega)]; exact h16, ?_, hi, ?_, ⟨?_, ?_⟩, ?_, b1, by show D.length + 1 ≤ 6; omega, b3⟩
    · unfold x_mt
      rw [y_pI_ne (q := 60) (by omega), x_pI_kn (by omega), x_pI_kn (by omega), x_pI_kn (by omega), x_pI_kn (by omega), x_pI_kn (by omega), x_pI_kn (by omega)]
      exact ht
    · rw [y_pI_ne (by omega), x_pI_kn (by omega), y_pI_ne (by omega), y_pI_ne (by omega)]; exact hw
    · rw [y_pI_ne (by omega), x_pI_kk]; rfl
    · intro j hj
      have hj' : j < D.length + 1 := hj
      rw [x_pI_up, List.reverse_cons, y_pI_ne (by omega)]
      by_cases e : j = D.length
      · subst e
        rw [sp_up_eq, List.getD_eq_getElem?_getD, List.getElem?_append_right (by rw [List.length_reverse]; omega), List.length_reverse, Nat.sub_self]; rfl
      · rw [sp_up_ne (by omega), hd.2 j (by omega), List.getD_eq_getElem?_getD, List.getD_eq_getElem?_getD, List.getElem?_append_left (by rw [List.length_reverse]; omega)]
    · rw [y_pI_ne (by omega), x_pI_kn (by omega), y_pI_ne (by omega), y_pI_ne (by omega)]; exact hp
  · simp only [if_neg h]
    rw [if_pos (show (6 : Int32) ≤ Int32.ofNat D.length from (i_le (j := 6) (by omega) (by omega)).mpr (by omega)), ht.2.1]
    have w2 : x_ens ((f_Mo_wrong_60 2 τ).bind fun q1 => some ((), q1.2)) (fun q => x_mf g n m σ q.2 2 i) := by
      refine x_ens.bi (s_wrong H K (k := 2) (by decide)) ?_
      rintro q ⟨hq, -⟩; exact x_ens.so hq
    have w1 : x_ens ((f_Mo_wrong_60 1 τ).bind fun q1 => some ((), q1.2)) (fun q => x_mf g n m σ q.2 1 i) := by
      refine x_ens.bi (s_wrong H K (k := 1) (by decide)) ?_
      rintro q ⟨hq, -⟩; exact x_ens.so hq
    by_cases h2 : (tk_i g n i).1 = 2
    · rw [if_pos h2, if_pos (Or.inl h2)]; exact w2
    · rw [if_neg h2]
      by_cases h1 : (tk_i g n i).1 = 1
      · rw [if_pos h1, if_pos (Or.inr (Or.inl h1))]; exact w2
      · rw [if_neg h1, s_sign K]
        dsimp only [Option.bind_some]
        by_cases h3 : (tk_i g n i).1 = 3 ∧ (tk_i g n i).2.1 = 40
        · rw [if_pos h3, if_neg (show ¬ (1 : Int32) = 0 by decide), if_pos (Or.inr (Or.inr h3))]; exact w2
        · rw [if_neg h3, if_pos rfl, if_neg (by rintro (x | x | x); exact h2 x; exact h1 x; exact h3 x)]; exact w1
theorem j7_n (H : x_HM g n m σ) (K : x_ms g n m σ τ i W D P) (hn : ¬ ((tk_i g n i).1 = 3 ∧ (tk_i g n i).2.1 = 40)) (h4 : 0 < f4) (h : x_pt fu Q τ) : x_j7 f4 fu Q τ := by
  intro v2 R kL kR
  unfold f_Mo_operand_60_J75
  rw [s_good K]
  dsimp only [Option.bind_some]
  rw [if_neg (show ¬ (1 : Int32) = 0 by decide), s_sign K, if_neg hn]
  dsimp only [Option.bind_some]
  rw [if_pos rfl]
  unfold f_Mo_operand_60_J95 f_Mo_operand_60_J96
  rw [if_pos rfl]
  exact kR _ (l4_0 h h4)
theorem j7_p (H : x_HM g n m σ) (K : x_ms g n m σ τ i W D P) (hn : (tk_i g n i).1 = 3 ∧ (tk_i g n i).2.1 = 40) (h4 : 0 < f4) (hfu : 0 < fu) (h : if D.length < 6 then ∀ τ, x_ms g n m σ τ (i + 1) (14 :: W) (0 :: D) P → x_op f4 fu Q 1 τ else x_QF g n m σ Q (if (tk_i g n (i + 1)).1 = 2 ∨ (tk_i g n (i + 1)).1 = 1 ∨ ((tk_i g n (i + 1)).1 = 3 ∧ (tk_i g n (i + 1)).2.1 = 40) then 2 else 1) (i + 1)) : x_j7 f4 fu Q τ := by
  intro v2 R kL kR
  have hl : i < m := H.lt K.2.2.2.1 (by rw [hn.1]; decide)
  unfold f_Mo_operand_60_J75
  rw [s_good K]
  dsimp only [Option.bind_some]
  rw [if_neg (show ¬ (1 : Int32) = 0 by decide), s_sign K, if_pos hn]
  dsimp only [Option.bind_some]
  rw [if_neg (show ¬ (1 : Int32) = 0 by decide)]
  unfold f_Mo_operand_60_J96
  rw [if_neg (show ¬ (1 : Int32) = 0 by decide)]
  refine K.pg H hl ?_
  intro q hq
  refine x_ens.bi (s_deep H hq) ?_
  intro q2 h2
  refine kR _ ?_
  by_cases hd : D.length < 6
  · rw [if_pos hd] at h h2; exact h _ h2
  · rw [if_neg hd] at h h2; exact q_opf h2 h hfu h4
theorem s_drop (H : x_HM g n m σ) {l : Int32} (hu : x_und l W) {w : List Int32} (hw : ∀ a, a ∈ w → a < 14 ∧ ¬ sp_st a < l) (K : x_ms g n m σ τ i (w ++ W) D P) : x_ens (f_Mo_drops_60 l τ) (fun q => x_ms g n m σ q.2 i W D (P ++ w)) := by
  have h1 := K.2.2.2.2.2.2.2.1
  have h2 := K.2.2.2.1
  have := H.1
  have := H.2.1
  rw [List.length_append] at h1
  unfold f_Mo_drops_60
  refine x_ens.bi (s_drops H hu w 10000 τ P hw (by omega) K) ?_
  intro b hb
  exact x_ens.so hb
theorem s_opd {b : Int32} {R : (Int32 × xS) ⊕ (Int32 × xS) → Prop} (h : x_op 10000 fu Q b τ) (kR : ∀ a', x_ens (x_it f_Mo_expression_60_L39 fu a') Q → x_ens (some (.inr a')) R) : x_ens ((f_Mo_operand_60 b τ).bind fun q => some (.inr ((1 : Int32), q.2))) R := by
  unfold f_Mo_operand_60
  refine x_ens.bi (P := fun q => x_hd fu Q q.2) ?_ (fun q hq => kR _ hq)
  refine x_ens.bi h ?_
  intro b hb
  refine x_ens.bi hb ?_
  intro q hq
  exact x_ens.so hq
theorem hd_ao (H : x_HM g n m σ) {t : Int32} {D' w : List Int32} {l a : Int32} (hl : (tk_wd (tk_i g n) i = 16 ∧ l = 2 ∧ a = 4) ∨ (tk_wd (tk_i g n) i = 15 ∧ l = 1 ∧ a = 5)) (hu : x_und l W) (hw : ∀ a, a ∈ w → a < 14 ∧ ¬ sp_st a < l) (K : x_ms g n m σ τ i (w ++ W) (t :: D') P) (h : ∀ τ, x_ms g n m σ τ (i + 1) (a :: W) (0 :: D') (P ++ w) → x_op 10000 fu Q 1 τ) : x_hd (fu + 1) Q τ := by
  have hk : f_Mo_knownWord_60 τ = some (x_kw (tk_i g n) i, τ) := s_known H K
  have hi : i < m := H.lt K.2.2.2.1 (by intro x; have e : tk_wd (tk_i g n) i = 0 := by { unfold tk_wd; rw [if_neg (by rw [x]; decide)] }; omega)
  refine x_nx fun R kL kR => ?_
  unfold f_Mo_expression_60_L39
  dsimp only
  rw [if_neg (show ¬ (1 : Int32) = 0 by decide), s_good K]
  dsimp only [Option.bind_some]
  rw [if_neg (show ¬ (1 : Int32) = 0 by decide), hk]
  dsimp only [Option.bind_some]
  rcases hl with ⟨e, rfl, rfl⟩ | ⟨e, rfl, rfl⟩
  · rw [if_pos (kw_is.1.mpr e)]
    unfold f_Mo_expression_60_J70
    rw [if_pos (kw_is.1.mpr e)]
    unfold f_Mo_expression_60_J83
    refine x_ens.bi (s_drop H hu hw K) ?_
    intro q hq
    rw [if_pos (kw_is.1.mpr e)]
    unfold f_Mo_expression_60_J99
    dsimp only
    refine x_ms.pt H hq hi ?_
    intro q2 hq2
    exact s_opd (h _ hq2) kR
  · have e' : ¬ x_kw (tk_i g n) i = 19 := fun x => by have := kw_is.1.mp x; omega
    rw [if_neg e', if_pos (kw_is.2.1.mpr e)]
    unfold f_Mo_expression_60_J70
    rw [if_neg e']
    unfold f_Mo_expression_60_J83
    refine x_ens.bi (s_drop H hu hw K) ?_
    intro q hq
    rw [if_neg e']
    unfold f_Mo_expression_60_J99
    dsimp only
    refine x_ms.pt H hq hi ?_
    intro q2 hq2
    exact s_opd (h _ hq2) kR
end MJ
