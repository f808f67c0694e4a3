section TIE
variable {T : tT} {m : Nat} {σ : xS} {rule : Int32}
theorem r_AndL (H : x_H T m σ) {rec' : Int32 → Int32 → xS → Option (Int32 × xS)} {v2 v3 : Int32} {sub : Nat → tR} (hg : x_gr m sub) (ht : x_tie T m σ (f_Re_readNot_2_27 rec' v2 v3) sub) : x_tie T m σ (fun τ => (f_Re_readNot_2_27 rec' v2 v3 τ).bind fun q8 => if q8.1 = 0 then some ((0 : Int32), q8.2) else (x_it (f_Re_readAnd_2_27_L15 rec' v2 v3) 10000 ((0 : Int32), q8.2)).bind fun b9 => match b9 with | .inl b9r => some b9r | .inr b9e => some ((1 : Int32), b9e.2)) (rd_lev m (op_2 T) (m + 1) sub) := by
  have hm := H.1
  refine r_lev (B := f_Re_readAnd_2_27_L15 rec' v2 v3) H ht ?_ ?_
  · intro τ i c K
    unfold f_Re_readAnd_2_27_L15
    dsimp only
    rw [(K.rows H).1, if_pos i_lr]
    exact ⟨_, rfl⟩
  · intro τ i c v hv K
    have hi := K.2.2.1
    unfold f_Re_readAnd_2_27_L15 op_2
    dsimp only
    rw [(K.rows H).1, if_neg (by rw [i_le (by omega) (by omega)]; omega), show (1016 : Nat) = 1000 + 16 from rfl, r_isWord H K (by omega)]
    dsimp only [Option.bind_some]
    by_cases h1 : tk_wd T i = 16
    · rw [if_pos h1, if_neg (by decide), if_pos h1]
      exact r_right H hg ht K (H.wd hi (by omega))
    · rw [if_neg h1, if_pos rfl, if_neg h1]
      exact x_ens.so rfl
theorem r_ExprBL (H : x_H T m σ) {rec' : Int32 → Int32 → xS → Option (Int32 × xS)} {v2 v3 : Int32} {sub : Nat → tR} (hg : x_gr m sub) (ht : x_tie T m σ (f_Re_readAnd_2_27 rec' v2 v3) sub) : x_tie T m σ (fun τ => (f_Re_readAnd_2_27 rec' v2 v3 τ).bind fun q8 => if q8.1 = 0 then some ((0 : Int32), q8.2) else (x_it (f_Re_readExprB_2_27_L67 rec' v2 v3) 10000 ((0 : Int32), q8.2)).bind fun b9 => match b9 with | .inl b9r => some b9r | .inr b9e => some ((1 : Int32), b9e.2)) (rd_lev m (op_1 T) (m + 1) sub) := by
  have hm := H.1
  refine r_lev (B := f_Re_readExprB_2_27_L67 rec' v2 v3) H ht ?_ ?_
  · intro τ i c K
    unfold f_Re_readExprB_2_27_L67
    dsimp only
    rw [(K.rows H).1, if_pos i_lr]
    exact ⟨_, rfl⟩
  · intro τ i c v hv K
    have hi := K.2.2.1
    unfold f_Re_readExprB_2_27_L67 op_1
    dsimp only
    rw [(K.rows H).1, if_neg (by rw [i_le (by omega) (by omega)]; omega), show (1015 : Nat) = 1000 + 15 from rfl, r_isWord H K (by omega)]
    dsimp only [Option.bind_some]
    by_cases h1 : tk_wd T i = 15
    · rw [if_pos h1, if_neg (by decide), if_pos h1]
      exact r_right H hg ht K (H.wd hi (by omega))
    · rw [if_neg h1, if_pos rfl, if_neg h1]
      exact x_ens.so rfl
theorem r_And (H : x_H T m σ) {rec' : Int32 → Int32 → xS → Option (Int32 × xS)} {v2 v3 : Int32} {sub : Nat → tR} (hg : x_gr m sub) (ht : x_tie T m σ (f_Re_readNot_2_27 rec' v2 v3) sub) : x_tie T m σ (f_Re_readAnd_2_27 rec' v2 v3) (rd_lev m (op_2 T) (m + 1) sub) := fun τ i c K => r_AndL H hg ht τ i c K
theorem r_Test (H : x_H T m σ) {rec' : Int32 → Int32 → xS → Option (Int32 × xS)} {v2 v3 : Int32} {sub : Nat → tR} (hg : x_gr m sub) (ht : x_tie T m σ (f_Re_readSum_2_27 rec' v2 v3) sub) : x_tie T m σ (f_Re_readTest_2_27 rec' v2 v3) (rd_lev m (op_4 T) 1 sub) := by
  intro τ i c K
  unfold f_Re_readTest_2_27 f_Re_readTest_2_27_J32 f_Re_readTest_2_27_J48 rd_lev
  refine x_ens.bi (ht τ i c K) ?_
  intro q hq
  cases hx : sub i with
  | inr e =>
    rw [hx] at hq
    rw [if_pos hq.1]
    exact x_ens.so ⟨rfl, hq.2⟩
  | inl s =>
    rw [hx] at hq
    obtain ⟨q1, K1⟩ := hq
    have hi := K1.2.2.1
    rw [if_neg (by rw [q1]; decide), r_sign H K1]
    dsimp only [Option.bind_some]
    -- the right side
    have right : ∀ k, op_4 T s.1 = some k → s.1 < m → x_ens ((f_Re_advance_2 q.2).bind fun q1 => (f_Re_readSum_2_27 rec' v2 v3 q1.2).bind fun q2 => if q2.1 = 0 then some ((0 : Int32), q2.2) else (f_Ru_add_27 k q2.2).bind fun q3 => some ((1 : Int32), q3.2)) (x_rr T m σ (rd_bin m (op_4 T) sub 1 s) c) := by
      intro k hk hl
      refine x_ens.bi (r_adv H K1) ?_
      intro q3 K3
      refine x_ens.bi (ht _ _ _ K3) ?_
      intro q4 h4
      rw [rd_bin, hk]
      dsimp only
      rw [tk_ad_lt hl] at h4 ⊢
      cases hy : sub (s.1 + 1) with
      | inr e =>
        rw [hy] at h4
        rw [if_pos h4.1]
        exact x_ens.so ⟨rfl, h4.2⟩
      | inl s2 =>
        rw [hy] at h4
        obtain ⟨p1, p2⟩ := h4
        rw [if_neg (by rw [p1]; decide)]
        obtain ⟨a, b, d⟩ := hg (s.1 + 1) (by omega) s2 hy
        have hc := K1.2.2.2.2
        refine x_ens.bi (r_add H p2 (by rw [List.length_append, List.length_append]; omega) k) ?_
        intro q5 h5
        refine x_ens.so ⟨rfl, ?_⟩
        dsimp only
        have : c ++ (s.2.1 ++ s.2.2 ++ s2.2.1) ++ (s2.2.2 ++ [k]) = c ++ s.2.1 ++ s.2.2 ++ s2.2.1 ++ s2.2.2 ++ [k] := by simp only [List.append_assoc]
        rw [this]; exact h5
    by_cases h1 : (T s.1).1 = 3 ∧ (T s.1).2.1 = 60
    · rw [if_pos h1, if_neg (by decide), r_sign H K1, if_pos h1]
      dsimp only [Option.bind_some]
      rw [if_neg (by decide)]
      exact right (-5) (by unfold op_4; rw [if_pos h1]) (H.sg hi h1.1 (by decide))
    · rw [if_neg h1, if_pos rfl, r_sign H K1]
      dsimp only [Option.bind_some]
      by_cases h2 : (T s.1).1 = 3 ∧ (T s.1).2.1 = 61
      · rw [if_pos h2, if_neg (by decide), r_sign H K1, if_neg h1]
        dsimp only [Option.bind_some]
        rw [if_pos rfl]
        exact right (-6) (by unfold op_4; rw [if_neg h1, if_pos h2]) (H.sg hi h2.1 (by decide))
      · rw [if_neg h2, if_pos rfl]
        refine x_ens.so (show x_rr T m σ (rd_bin m (op_4 T) sub 1 s) c _ from ?_)
        have : op_4 T s.1 = none := by unfold op_4; rw [if_neg h1, if_neg h2]
        rw [rd_bin, this]
        exact ⟨rfl, K1⟩
theorem r_nots (H : x_H T m σ) {rec' : Int32 → Int32 → xS → Option (Int32 × xS)} {v2 v3 : Int32} : ∀ (f k v fu : Nat) (τ : xS) (i : Nat) (c : List Int32), v + f = m + 1 → f < fu → k ≤ 6 → x_cs m σ τ i c → x_ens (x_it (f_Re_readNot_2_27_L6 rec' v2 v3) fu (Int32.ofNat k, Int32.ofNat v, τ)) (fun b => match rd_nots T m f k i with
      | .inl p => ∃ u τ', b = .inr (Int32.ofNat p.1, u, τ') ∧ x_cs m σ τ' p.2 c ∧ p.1 ≤ 6
      | .inr e => ∃ τ', b = .inl (0, τ') ∧ x_er T σ τ' e.1 e.2)
  | f, k, v, 0, τ, i, c, _, h, _, _ => by omega
  | 0, k, v, fu + 1, τ, i, c, h1, _, hk, K => by
    have hm := H.1
    refine x_nx fun P kL kR => ?_
    unfold f_Re_readNot_2_27_L6
    dsimp only
    rw [(K.rows H).1, if_pos (by rw [i_le (by omega) (by omega)]; omega)]
    exact kL _ ⟨_, τ, rfl, K, hk⟩
  | f + 1, k, v, fu + 1, τ, i, c, h1, h2, hk, K => by
    have hm := H.1
    refine x_nx fun P kL kR => ?_
    unfold f_Re_readNot_2_27_L6
    dsimp only
    rw [(K.rows H).1, if_neg (by rw [i_le (by omega) (by omega)]; omega), show (1017 : Nat) = 1000 + 17 from rfl, r_isWord H K (by omega)]
    dsimp only [Option.bind_some]
    by_cases hw : tk_wd T i = 17
    · rw [if_pos hw, if_neg (by decide)]
      by_cases h6 : k < 6
      · rw [if_pos (show Int32.ofNat k < (6 : Int32) from (i_lt (k := 6) (by omega) (by omega)).mpr h6), i_s]
        refine x_ens.bi (r_adv H K) ?_
        intro q hq
        rw [i_s]
        refine kR _ ?_
        rw [rd_nots, if_pos hw, if_pos h6]
        exact r_nots H f (k + 1) (v + 1) fu q.2 _ c (by omega) (by omega) (by omega) hq
      · rw [if_neg (show ¬ Int32.ofNat k < (6 : Int32) from fun x => h6 ((i_lt (k := 6) (by omega) (by omega)).mp x))]
        refine x_ens.bi (r_ref H K 2) ?_
        rintro q ⟨q1, q2⟩
        refine x_ens.ok (Or.inl q1) ?_
        refine kL _ ?_
        rw [rd_nots, if_pos hw, if_neg h6]
        exact ⟨q.2, by rw [q1], q2⟩
    · rw [if_neg hw, if_pos rfl]
      refine kL _ ?_
      rw [rd_nots, if_neg hw]
      exact ⟨_, τ, rfl, K, hk⟩
theorem r_Not (H : x_H T m σ) {rec' : Int32 → Int32 → xS → Option (Int32 × xS)} {v2 v3 : Int32} {sub : Nat → tR} (hg : x_gr m sub) (ht : x_tie T m σ (f_Re_readTest_2_27 rec' v2 v3) sub) : x_tie T m σ (f_Re_readNot_2_27 rec' v2 v3) (rd_not T m sub) := by
  intro τ i c K
  have hm := H.1
  unfold f_Re_readNot_2_27 rd_not
  refine x_ens.bi (r_nots H (m + 1) 0 0 10000 τ i c (by omega) (by omega) (by omega) K) ?_
  intro b hb
  cases hx : rd_nots T m (m + 1) 0 i with
  | inr e =>
    rw [hx] at hb
    obtain ⟨τ', rfl, he⟩ := hb
    exact x_ens.so ⟨rfl, he⟩
  | inl p =>
    rw [hx] at hb
    obtain ⟨u, τ', rfl, K1, hp6⟩ := hb
    dsimp only
    unfold f_Re_readNot_2_27_J51
    obtain ⟨n1, n2, n3⟩ := g_nots H _ _ _ _ K.2.2.1 hx
    refine x_ens.bi (ht _ _ _ K1) ?_
    intro q hq
    cases hy : sub p.2 with
    | inr e =>
      rw [hy] at hq
      rw [if_pos hq.1]
      exact x_ens.so ⟨rfl, hq.2⟩
    | inl s =>
      rw [hy] at hq
      obtain ⟨q1, K2⟩ := hq
      rw [if_neg (by rw [q1]; decide)]
      obtain ⟨a, b, d⟩ := hg p.2 n2 s hy
      have hc := K.2.2.2.2
      refine x_ens.bi (P := fun b => x_cs m σ b.2 s.1 (c ++ s.2.1 ++ s.2.2 ++ List.replicate p.1 (-7))) ?_ ?_
      · refine x_iv.go (fun j a => a.1 = Int32.ofNat j ∧ x_cs m σ a.2 s.1 (c ++ s.2.1 ++ s.2.2 ++ List.replicate j (-7))) p.1 (by omega) ⟨rfl, by rw [List.replicate_zero, List.append_nil]; exact K2⟩ ?_
        rintro j ⟨w, υ⟩ hj ⟨e1, K3⟩
        dsimp only at e1 K3
        subst e1
        unfold f_Re_readNot_2_27_L66
        dsimp only
        by_cases hx2 : j = p.1
        · rw [if_pos (by rw [i_le (by omega) (by omega)]; omega)]
          subst hx2
          exact x_iv.l K3
        · rw [if_neg (by rw [i_le (by omega) (by omega)]; omega)]
          refine x_ens.bi (r_add H K3 (by rw [List.length_append, List.length_append, List.length_append, List.length_replicate]; omega) (-7)) ?_
          intro q5 h5
          refine x_iv.r (by omega) ⟨i_s, ?_⟩
          rw [List.replicate_succ', ← List.append_assoc]
          exact h5
      · intro b hb
        refine x_ens.so ⟨rfl, ?_⟩
        dsimp only
        rw [← List.append_assoc]
        exact hb
theorem e_valueOf {w : Nat} (hw : w < 23) {υ : xS} : f_Re_valueOf (1000 + w) rule υ = some (sp_vo w rule, υ) := by
  have hc : w = 0 ∨ w = 1 ∨ w = 2 ∨ w = 3 ∨ w = 4 ∨ w = 5 ∨ w = 6 ∨ w = 7 ∨ w = 8 ∨ w = 9 ∨ w = 10 ∨ w = 11 ∨ w = 12 ∨ w = 13 ∨ w = 14 ∨ w = 15 ∨ w = 16 ∨ w = 17 ∨ w = 18 ∨ w = 19 ∨ w = 20 ∨ w = 21 ∨ w = 22 := by omega
  unfold f_Re_valueOf sp_vo
  by_cases h0 : rule = 0
  · rw [if_pos h0, if_pos h0]
    rcases hc with rfl | rfl | rfl | rfl | rfl | rfl | rfl | rfl | rfl | rfl | rfl | rfl | rfl | rfl | rfl | rfl | rfl | rfl | rfl | rfl | rfl | rfl | rfl <;> rfl
  · rw [if_neg h0, if_neg h0]
    by_cases h1 : rule = 1
    · rw [if_pos h1, if_pos h1]
      rcases hc with rfl | rfl | rfl | rfl | rfl | rfl | rfl | rfl | rfl | rfl | rfl | rfl | rfl | rfl | rfl | rfl | rfl | rfl | rfl | rfl | rfl | rfl | rfl <;> rfl
    · rw [if_neg h1, if_neg h1]
      rcases hc with rfl | rfl | rfl | rfl | rfl | rfl | rfl | rfl | rfl | rfl | rfl | rfl | rfl | rfl | rfl | rfl | rfl | rfl | rfl | rfl | rfl | rfl | rfl <;> rfl
theorem r_addadv (H : x_H T m σ) {τ : xS} {i : Nat} {c : List Int32} (K : x_cs m σ τ i c) (hi : i < m) (v : Int32) : x_ens ((f_Ru_add_27 v τ).bind fun q7 => (f_Re_advance_2 q7.2).bind fun q8 => some ((1 : Int32), q8.2)) (fun q => q.1 = 1 ∧ x_cs m σ q.2 (i + 1) (c ++ [v])) := by
  obtain ⟨r1, -, -, -⟩ := K.rows H
  obtain ⟨f, e4, -, hl, hc⟩ := K
  have hm := H.1
  unfold f_Ru_add_27 f_Re_advance_2
  have e : (x_pI τ 28 c.length v).1 27 1 = Int32.ofNat c.length := by rw [y_pI_ne (by omega)]; exact hl.1
  rw [hl.1, if_neg (by rw [i_le (by omega) (by omega)]; omega), i_cl (by omega), if_neg (by rintro (h | h); exact i_ge (by omega) h; omega)]
  dsimp only [Option.bind_some]
  rw [e, i_s, y_pI_ne (q := 2) (by omega), y_pI_ne (q := 2) (by omega), r1, e4, i_m1', if_neg (by rw [i_le (by omega) (by omega)]; omega), i_s]
  refine x_ens.so ⟨rfl, x_frI (p := 2) (k := 4) rfl (x_frI (p := 27) (k := 1) rfl (x_frI (p := 28) rfl f)), x_pI_kk, by omega, ?_, by rw [List.length_append]; show c.length + 1 ≤ i + 1; omega⟩
  have := hl.app (v := v)
  rw [hl.1, i_s] at this
  rw [y_pI_ne (q := 27) (by omega), x_pI_kk, y_pI_ne (q := 28) (by omega), y_pI_ne (q := 28) (by omega), x_pI_up]
  exact this
theorem r_Part (H : x_H T m σ) {rec' : Int32 → Int32 → xS → Option (Int32 × xS)} {v3 : Int32} {rc : Nat → tR} (hg : x_gr m rc) (ht : x_tie T m σ (rec' rule (v3 + 1)) rc) : x_tie T m σ (f_Re_readPart_2_27 rec' rule v3) (rd_part T m rule rc) := by
  intro τ i c K
  have hm := H.1
  have hi := K.2.2.1
  unfold f_Re_readPart_2_27 rd_part
  rw [r_kind H K]
  dsimp only [Option.bind_some]
  by_cases h2 : (T i).1 = 2
  · have hl := H.sg hi h2 (by decide)
    rw [if_pos h2, if_neg (by decide), if_pos h2]
    refine x_ens.bi (r_num H K 0 9999) ?_
    intro q hq
    simp only [if_pos h2] at hq
    by_cases h : 0 ≤ (T i).2.1 ∧ (T i).2.1 ≤ 9999
    · rw [if_pos h] at hq
      rw [if_neg (by rw [hq.1]; decide), hq.2, if_pos h]
      refine x_ens.bi (r_take H K) ?_
      rintro q11 ⟨p1, K1⟩
      rw [tk_ad_lt hl] at K1
      refine x_ens.bi (r_add H K1 (by have := K.2.2.2.2; omega) q11.1) ?_
      intro q12 h12
      refine x_ens.so ⟨rfl, ?_⟩
      dsimp only
      rw [tk_ad_lt hl, List.append_nil, ← p1]
      exact h12
    · rw [if_neg h] at hq
      rw [if_pos hq.1, if_neg h]
      exact x_ens.so ⟨rfl, hq.2⟩
  · rw [if_neg h2, if_pos rfl, if_neg h2, r_kind H K]
    dsimp only [Option.bind_some]
    by_cases h1 : (T i).1 = 1
    · have hl := H.sg hi h1 (by decide)
      obtain ⟨ew, hw⟩ := r_word H K
      rw [if_pos h1, if_neg (by decide), if_pos h1, ew]
      dsimp only [Option.bind_some]
      rw [e_valueOf hw]
      dsimp only [Option.bind_some]
      by_cases hv : sp_vo (tk_wd T i) rule = -1
      · rw [if_pos hv, if_pos hv]
        refine x_ens.bi (r_ref H K 3) ?_
        rintro q ⟨q1, q2⟩
        exact x_ens.ok (Or.inl q1) (x_ens.so ⟨q1, q2⟩)
      · rw [if_neg hv, if_neg hv]
        refine (r_addadv H K hl _).im ?_
        rintro q ⟨q1, q2⟩
        refine ⟨q1, ?_⟩
        dsimp only
        rw [tk_ad_lt hl, List.append_nil]
        exact q2
    · rw [if_neg h1, if_pos rfl, if_neg h1]
      unfold f_Re_readInner_2_27
      rw [r_sign H K]
      dsimp only [Option.bind_some]
      by_cases h3 : (T i).1 = 3 ∧ (T i).2.1 = 40
      · have hl := H.sg hi h3.1 (by decide)
        rw [if_pos h3, if_neg (by decide), if_pos h3, Option.bind_assoc]
        refine x_ens.bi (r_adv H K) ?_
        intro q2 K2
        rw [Option.bind_assoc]
        refine x_ens.bi (ht _ _ _ K2) ?_
        intro q3 h3'
        cases hx : rc (tk_ad m i) with
        | inr e =>
          rw [hx] at h3'
          rw [if_pos h3'.1]
          dsimp only [Option.bind_some]
          exact x_ens.ok (Or.inl rfl) (x_ens.so (show x_rr T m σ (.inr e) c _ from ⟨rfl, h3'.2⟩))
        | inl s =>
          rw [hx] at h3'
          obtain ⟨p1, K3⟩ := h3'
          have hs := K3.2.2.1
          rw [if_neg (by rw [p1]; decide), r_sign H K3]
          dsimp only [Option.bind_some]
          by_cases h4 : (T s.1).1 = 3 ∧ (T s.1).2.1 = 41
          · rw [if_pos h4, if_neg (by decide), Option.bind_assoc]
            refine x_ens.bi (r_adv H K3) ?_
            intro q5 K5
            dsimp only [Option.bind_some]
            refine x_ens.ok (Or.inr rfl) (x_ens.so ?_)
            simp only [if_pos h4]
            refine ⟨rfl, ?_⟩
            dsimp only
            rw [List.append_nil, ← List.append_assoc]
            exact K5
          · rw [if_neg h4, if_pos rfl, Option.bind_assoc]
            refine x_ens.bi (r_ref H K3 1) ?_
            rintro q6 ⟨q1, q2⟩
            unfold x_ok
            rw [if_pos (Or.inl q1)]
            dsimp only [Option.bind_some]
            rw [if_pos (Or.inl q1)]
            refine x_ens.so ?_
            simp only [if_neg h4]
            exact ⟨q1, q2⟩
      · rw [if_neg h3, if_pos rfl, if_neg h3, Option.bind_assoc]
        refine x_ens.bi (r_ref H K 1) ?_
        rintro q6 ⟨q1, q2⟩
        unfold x_ok
        rw [if_pos (Or.inl q1)]
        dsimp only [Option.bind_some]
        rw [if_pos (Or.inl q1)]
        exact x_ens.so ⟨q1, q2⟩
theorem r_Expr (H : x_H T m σ) : ∀ (f d : Nat), d ≤ 6 → 7 ≤ d + f → x_tie T m σ (g_Re_readExpr_2_27 f rule (Int32.ofNat d)) (rd_expr T m rule f d)
  | 0, d, h1, h2 => by omega
  | f + 1, d, h1, h2 => by
    intro τ i c K
    have hi := K.2.2.1
    show x_ens (f_Re_readExprB_2_27 (g_Re_readExpr_2_27 f) rule (Int32.ofNat d) τ) _
    unfold f_Re_readExprB_2_27 rd_expr
    by_cases h5 : d ≤ 5
    · rw [if_pos (show Int32.ofNat d ≤ (5 : Int32) from (i_le (k := 5) (by omega) (by omega)).mpr h5), if_pos h5]
      have ih := r_Expr H f (d + 1) (by omega) (by omega)
      rw [← i_s] at ih
      have gp := g_part (rule := rule) H (g_expr H (rule := rule) f (d + 1))
      have g6 := g_lev (F := m + 1) (h_op6 H) gp
      have g5 := g_lev (F := m + 1) (h_op5 H) g6
      have g4 := g_lev (F := 1) (h_op4 H) g5
      have gn := g_not H g4
      have g2 := g_lev (F := m + 1) (h_op2 H) gn
      have tp := r_Part H (g_expr H (rule := rule) f (d + 1)) ih
      have t6 := r_Product H gp tp
      have t5 := r_Sum H g6 t6
      have t4 := r_Test H g5 t5
      have tn := r_Not H g4 t4
      have t2 := r_And H gn tn
      exact r_ExprBL H g2 t2 τ i c K
    · rw [if_neg (show ¬ Int32.ofNat d ≤ (5 : Int32) from fun x => h5 ((i_le (k := 5) (by omega) (by omega)).mp x)), if_neg h5]
      have fin : ∀ y k : Int32, (if y = 0 then (1 : Int32) else 2) = k → x_ens (f_Re_readExprB_2_27_J35 (g_Re_readExpr_2_27 f) y τ) (x_rr T m σ (.inr (k, i)) c) := by
        intro y k hk
        unfold f_Re_readExprB_2_27_J35
        by_cases hy : y = 0
        · rw [if_pos hy] at hk ⊢
          subst hk
          refine x_ens.bi (r_ref H K 1) ?_
          rintro q ⟨q1, q2⟩
          exact x_ens.ok (Or.inl q1) (x_ens.so ⟨q1, q2⟩)
        · rw [if_neg hy] at hk ⊢
          subst hk
          refine x_ens.bi (r_ref H K 2) ?_
          rintro q ⟨q1, q2⟩
          exact x_ens.ok (Or.inl q1) (x_ens.so ⟨q1, q2⟩)
      unfold f_Re_readExprB_2_27_J30
      rw [r_kind H K]
      dsimp only [Option.bind_some]
      by_cases k2 : (T i).1 = 2
      · rw [if_pos k2, if_neg (by decide), if_pos (Or.inl k2)]; exact fin 1 2 rfl
      · rw [if_neg k2, if_pos rfl, r_kind H K]
        dsimp only [Option.bind_some]
        by_cases k1 : (T i).1 = 1
        · rw [if_pos k1, if_neg (by decide), if_pos (Or.inr (Or.inl k1))]; exact fin 1 2 rfl
        · rw [if_neg k1, if_pos rfl, r_sign H K]
          dsimp only [Option.bind_some]
          by_cases k3 : (T i).1 = 3 ∧ (T i).2.1 = 40
          · rw [if_pos k3, if_neg (by decide), if_pos (Or.inr (Or.inr k3))]; exact fin 1 2 rfl
          · rw [if_neg k3, if_pos rfl, if_neg (by rintro (x | x | x); exact k2 x; exact k1 x; exact k3 x)]; exact fin 0 1 rfl
end TIE
