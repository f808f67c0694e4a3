def x_gr (m : Nat) (X : Nat → tR) : Prop := ∀ i, i ≤ m → ∀ s, X i = .inl s → i ≤ s.1 ∧ s.1 ≤ m ∧ s.2.1.length + s.2.2.length + i ≤ s.1
theorem tk_ad_lt {m i : Nat} (h : i < m) : tk_ad m i = i + 1 := if_pos h
theorem g_bin {m : Nat} {op : Nat → Option Int32} {sub : Nat → tR} (hop : ∀ i c, i ≤ m → op i = some c → i < m) (hs : x_gr m sub) : ∀ (f : Nat) (s s' : Nat × List Int32 × List Int32) (i : Nat), s.1 ≤ m → i ≤ s.1 → s.2.1.length + s.2.2.length + i ≤ s.1 → rd_bin m op sub f s = .inl s' → s.1 ≤ s'.1 ∧ s'.1 ≤ m ∧ s'.2.1.length + s'.2.2.length + i ≤ s'.1
  | 0, s, s', i, h1, h2, h3, e => by cases e; exact ⟨Nat.le_refl _, h1, h3⟩
  | f + 1, s, s', i, h1, h2, h3, e => by
    unfold rd_bin at e
    cases ho : op s.1 with
    | none => rw [ho] at e; cases e; exact ⟨Nat.le_refl _, h1, h3⟩
    | some c =>
      rw [ho] at e
      dsimp only at e
      have hlt := hop _ _ h1 ho
      rw [tk_ad_lt hlt] at e
      cases hx : sub (s.1 + 1) with
      | inr er => rw [hx] at e; cases e
      | inl s2 =>
        rw [hx] at e
        dsimp only at e
        obtain ⟨a, b, d⟩ := hs (s.1 + 1) (by omega) s2 hx
        have := g_bin hop hs f (s2.1, s.2.1 ++ s.2.2 ++ s2.2.1, s2.2.2 ++ [c]) s' i b (by dsimp only; omega) (by
          dsimp only
          rw [List.length_append, List.length_append, List.length_append]
          show s.2.1.length + s.2.2.length + s2.2.1.length + (s2.2.2.length + 1) + i ≤ s2.1
          omega) e
        exact ⟨by have := this.1; dsimp only at this; omega, this.2⟩
theorem g_lev {m : Nat} {op : Nat → Option Int32} {sub : Nat → tR} {F : Nat} (hop : ∀ i c, i ≤ m → op i = some c → i < m) (hs : x_gr m sub) : x_gr m (rd_lev m op F sub) := by
  intro i hi s e
  unfold rd_lev at e
  cases hx : sub i with
  | inr er => rw [hx] at e; cases e
  | inl s2 =>
    rw [hx] at e
    obtain ⟨a, b, d⟩ := hs i hi s2 hx
    have := g_bin hop hs F s2 s i b a d e
    exact ⟨by omega, this.2⟩
section GR
variable {T : tT} {m : Nat} {σ : xS}
theorem x_H.lt (H : x_H T m σ) {i : Nat} (hi : i ≤ m) (h : ¬ (T i).1 = 0) : i < m := by
  by_cases e : i = m
  · subst e; exact absurd H.2.1 h
  · omega
theorem x_H.sg (H : x_H T m σ) {i : Nat} {k : Int32} (hi : i ≤ m) (h : (T i).1 = k) (hk : k ≠ 0) : i < m := H.lt hi (by rw [h]; exact hk)
theorem x_H.wd (H : x_H T m σ) {i : Nat} (hi : i ≤ m) (h : tk_wd T i ≠ 0) : i < m := by
  unfold tk_wd at h
  by_cases e : (T i).1 = 1
  · exact H.sg hi e (by decide)
  · rw [if_neg e] at h; exact absurd rfl h
theorem h_op6 (H : x_H T m σ) : ∀ i c, i ≤ m → op_6 T i = some c → i < m := by
  intro i c hi e
  unfold op_6 at e
  split at e
  · rename_i h; exact H.sg hi h.1 (by decide)
  · split at e
    · rename_i h; exact H.sg hi h.1 (by decide)
    · cases e
theorem h_op5 (H : x_H T m σ) : ∀ i c, i ≤ m → op_5 T i = some c → i < m := by
  intro i c hi e
  unfold op_5 at e
  split at e
  · rename_i h; exact H.sg hi h.1 (by decide)
  · split at e
    · rename_i h; exact H.sg hi h.1 (by decide)
    · cases e
theorem h_op4 (H : x_H T m σ) : ∀ i c, i ≤ m → op_4 T i = some c → i < m := by
  intro i c hi e
  unfold op_4 at e
  split at e
  · rename_i h; exact H.sg hi h.1 (by decide)
  · split at e
    · rename_i h; exact H.sg hi h.1 (by decide)
    · cases e
theorem h_op2 (H : x_H T m σ) : ∀ i c, i ≤ m → op_2 T i = some c → i < m := by
  intro i c hi e
  unfold op_2 at e
  split at e
  · rename_i h; exact H.wd hi (by omega)
  · cases e
theorem h_op1 (H : x_H T m σ) : ∀ i c, i ≤ m → op_1 T i = some c → i < m := by
  intro i c hi e
  unfold op_1 at e
  split at e
  · rename_i h; exact H.wd hi (by omega)
  · cases e
theorem g_part (H : x_H T m σ) {rule : Int32} {rc : Nat → tR} (hr : x_gr m rc) : x_gr m (rd_part T m rule rc) := by
  intro i hi s e
  unfold rd_part at e
  by_cases h2 : (T i).1 = 2
  · have hl := H.sg hi h2 (by decide)
    rw [if_pos h2] at e
    split at e
    · cases e; rw [tk_ad_lt hl]; exact ⟨by omega, by omega, by show 1 + 0 + i ≤ i + 1; omega⟩
    · cases e
  · rw [if_neg h2] at e
    by_cases h1 : (T i).1 = 1
    · have hl := H.sg hi h1 (by decide)
      rw [if_pos h1] at e
      split at e
      · cases e
      · cases e; rw [tk_ad_lt hl]; exact ⟨by omega, by omega, by show 1 + 0 + i ≤ i + 1; omega⟩
    · rw [if_neg h1] at e
      by_cases h3 : (T i).1 = 3 ∧ (T i).2.1 = 40
      · have hl := H.sg hi h3.1 (by decide)
        rw [if_pos h3, tk_ad_lt hl] at e
        cases hx : rc (i + 1) with
        | inr er => rw [hx] at e; cases e
        | inl s2 =>
          rw [hx] at e
          dsimp only at e
          obtain ⟨a, b, d⟩ := hr (i + 1) (by omega) s2 hx
          split at e
          · rename_i h4
            have hl2 := H.sg b h4.1 (by decide)
            cases e
            rw [tk_ad_lt hl2]
            refine ⟨by omega, by omega, ?_⟩
            show (s2.2.1 ++ s2.2.2).length + 0 + i ≤ s2.1 + 1
            rw [List.length_append]; omega
          · cases e
      · rw [if_neg h3] at e; cases e
theorem g_nots (H : x_H T m σ) : ∀ (f k i : Nat) (p : Nat × Nat), i ≤ m → rd_nots T m f k i = .inl p → i ≤ p.2 ∧ p.2 ≤ m ∧ p.1 + i = k + p.2
  | 0, k, i, p, hi, e => by cases e; exact ⟨Nat.le_refl _, hi, rfl⟩
  | f + 1, k, i, p, hi, e => by
    unfold rd_nots at e
    by_cases h : tk_wd T i = 17
    · have hl := H.wd hi (by omega)
      rw [if_pos h, tk_ad_lt hl] at e
      split at e
      · obtain ⟨a, b, d⟩ := g_nots H f (k + 1) (i + 1) p (by omega) e
        exact ⟨by omega, b, by omega⟩
      · cases e
    · rw [if_neg h] at e; cases e; exact ⟨Nat.le_refl _, hi, rfl⟩
theorem g_not (H : x_H T m σ) {test : Nat → tR} (ht : x_gr m test) : x_gr m (rd_not T m test) := by
  intro i hi s e
  unfold rd_not at e
  cases hx : rd_nots T m (m + 1) 0 i with
  | inr er => rw [hx] at e; cases e
  | inl p =>
    rw [hx] at e
    dsimp only at e
    obtain ⟨a, b, d⟩ := g_nots H _ _ _ _ hi hx
    cases hy : test p.2 with
    | inr er => rw [hy] at e; cases e
    | inl s2 =>
      rw [hy] at e
      cases e
      obtain ⟨a2, b2, d2⟩ := ht p.2 b s2 hy
      refine ⟨by dsimp only; omega, b2, ?_⟩
      dsimp only
      rw [List.length_append, List.length_replicate]; omega
theorem g_expr (H : x_H T m σ) {rule : Int32} : ∀ (f d : Nat), x_gr m (rd_expr T m rule f d)
  | 0, d => fun i hi s e => by cases e
  | f + 1, d => by
    intro i hi s e
    unfold rd_expr at e
    split at e
    · refine g_lev (h_op1 H) ?_ i hi s e
      exact g_lev (h_op2 H) (g_not H (g_lev (h_op4 H) (g_lev (h_op5 H) (g_lev (h_op6 H) (g_part H (g_expr H f (d + 1)))))))
    · cases e
end GR
def x_rr (T : tT) (m : Nat) (σ : xS) (r : tR) (c : List Int32) (q : Int32 × xS) : Prop := match r with
  | .inl s => q.1 = 1 ∧ x_cs m σ q.2 s.1 (c ++ s.2.1 ++ s.2.2)
  | .inr e => q.1 = 0 ∧ x_er T σ q.2 e.1 e.2
def x_tie (T : tT) (m : Nat) (σ : xS) (f : xS → Option (Int32 × xS)) (X : Nat → tR) : Prop := ∀ τ i c, x_cs m σ τ i c → x_ens (f τ) (x_rr T m σ (X i) c)
section TIE
variable {T : tT} {m : Nat} {σ : xS} {rule : Int32}
theorem r_bin (H : x_H T m σ) {op : Nat → Option Int32} {sub : Nat → tR} {B : Int32 × xS → Option (((Int32 × xS) ⊕ (Int32 × xS)) ⊕ (Int32 × xS))}
    (h0 : ∀ τ i c, x_cs m σ τ i c → ∃ u, B (Int32.ofNat (m + 1), τ) = some (.inl (.inr (u, τ))))
    (hB : ∀ τ i c v, v < m + 1 → x_cs m σ τ i c → x_ens (B (Int32.ofNat v, τ)) (fun o => match op i with
      | none => o = .inl (.inr (Int32.ofNat v, τ))
      | some k => match sub (tk_ad m i) with
        | .inr e => ∃ τ', o = .inl (.inl (0, τ')) ∧ x_er T σ τ' e.1 e.2
        | .inl s2 => ∃ τ', o = .inr (Int32.ofNat (v + 1), τ') ∧ x_cs m σ τ' s2.1 (c ++ s2.2.1 ++ s2.2.2 ++ [k]))) :
    ∀ (f v fu : Nat) (τ : xS) (s : Nat × List Int32 × List Int32) (c : List Int32), v + f = m + 1 → f < fu → x_cs m σ τ s.1 (c ++ s.2.1 ++ s.2.2) →
      x_ens (x_it B fu (Int32.ofNat v, τ)) (fun b => match rd_bin m op sub f s with
        | .inl s' => ∃ u τ', b = .inr (u, τ') ∧ x_cs m σ τ' s'.1 (c ++ s'.2.1 ++ s'.2.2)
        | .inr e => ∃ τ', b = .inl (0, τ') ∧ x_er T σ τ' e.1 e.2)
  | f, v, 0, τ, s, c, _, h, _ => by omega
  | 0, v, fu + 1, τ, s, c, h1, _, K => by
    refine x_nx fun P kL kR => ?_
    obtain ⟨u, e⟩ := h0 τ _ _ K
    rw [show v = m + 1 by omega, e]
    exact kL _ ⟨u, τ, rfl, K⟩
  | f + 1, v, fu + 1, τ, s, c, h1, h2, K => by
    refine x_nx fun P kL kR => ?_
    obtain ⟨o, e, ho⟩ := hB τ _ _ v (by omega) K
    rw [e]
    cases hop : op s.1 with
    | none =>
      rw [hop] at ho
      dsimp only at ho
      subst ho
      refine kL _ ?_
      rw [rd_bin, hop]
      exact ⟨_, τ, rfl, K⟩
    | some k =>
      rw [hop] at ho
      dsimp only at ho
      cases hx : sub (tk_ad m s.1) with
      | inr er =>
        rw [hx] at ho
        obtain ⟨τ', rfl, he⟩ := ho
        refine kL _ ?_
        rw [rd_bin, hop]
        dsimp only
        rw [hx]
        exact ⟨τ', rfl, he⟩
      | inl s2 =>
        rw [hx] at ho
        obtain ⟨τ', rfl, hk⟩ := ho
        refine kR _ ?_
        rw [rd_bin, hop]
        dsimp only
        rw [hx]
        refine r_bin H h0 hB f (v + 1) fu τ' (s2.1, s.2.1 ++ s.2.2 ++ s2.2.1, s2.2.2 ++ [k]) c (by omega) (by omega) ?_
        dsimp only
        have : c ++ (s.2.1 ++ s.2.2 ++ s2.2.1) ++ (s2.2.2 ++ [k]) = c ++ s.2.1 ++ s.2.2 ++ s2.2.1 ++ s2.2.2 ++ [k] := by simp only [List.append_assoc]
        rw [this]; exact hk
theorem r_lev (H : x_H T m σ) {op : Nat → Option Int32} {sub : Nat → tR} {fs : xS → Option (Int32 × xS)} {B : Int32 × xS → Option (((Int32 × xS) ⊕ (Int32 × xS)) ⊕ (Int32 × xS))} (ht : x_tie T m σ fs sub)
    (h0 : ∀ τ i c, x_cs m σ τ i c → ∃ u, B (Int32.ofNat (m + 1), τ) = some (.inl (.inr (u, τ))))
    (hB : ∀ τ i c v, v < m + 1 → x_cs m σ τ i c → x_ens (B (Int32.ofNat v, τ)) (fun o => match op i with
      | none => o = .inl (.inr (Int32.ofNat v, τ))
      | some k => match sub (tk_ad m i) with
        | .inr e => ∃ τ', o = .inl (.inl (0, τ')) ∧ x_er T σ τ' e.1 e.2
        | .inl s2 => ∃ τ', o = .inr (Int32.ofNat (v + 1), τ') ∧ x_cs m σ τ' s2.1 (c ++ s2.2.1 ++ s2.2.2 ++ [k]))) :
    x_tie T m σ (fun τ => (fs τ).bind fun q8 => if q8.1 = 0 then some ((0 : Int32), q8.2) else (x_it B 10000 ((0 : Int32), q8.2)).bind fun b9 => match b9 with | .inl b9r => some b9r | .inr b9e => some ((1 : Int32), b9e.2)) (rd_lev m op (m + 1) sub) := by
  intro τ i c K
  have hm := H.1
  refine x_ens.bi (ht τ i c K) ?_
  intro q hq
  unfold rd_lev
  cases hx : sub i with
  | inr e =>
    rw [hx] at hq
    rw [if_pos hq.1]
    exact x_ens.so ⟨rfl, hq.2⟩
  | inl s =>
    rw [hx] at hq
    obtain ⟨q1, q2⟩ := hq
    rw [if_neg (by rw [q1]; decide)]
    refine x_ens.bi (r_bin H h0 hB (m + 1) 0 10000 q.2 s c (by omega) (by omega) q2) ?_
    intro b hb
    cases hy : rd_bin m op sub (m + 1) s with
    | inr e =>
      rw [hy] at hb
      obtain ⟨τ', rfl, he⟩ := hb
      exact x_ens.so (show x_rr T m σ (rd_bin m op sub (m + 1) s) c _ by rw [hy]; exact ⟨rfl, he⟩)
    | inl s' =>
      rw [hy] at hb
      obtain ⟨u, τ', rfl, hk⟩ := hb
      exact x_ens.so (show x_rr T m σ (rd_bin m op sub (m + 1) s) c _ by rw [hy]; exact ⟨rfl, hk⟩)
theorem r_right (H : x_H T m σ) {sub : Nat → tR} {fs : xS → Option (Int32 × xS)} (hg : x_gr m sub) (ht : x_tie T m σ fs sub) {β : Type} {τ : xS} {i v : Nat} {c : List Int32} {k : Int32} (K : x_cs m σ τ i c) (hi : i < m) :
    x_ens ((f_Re_advance_2 τ).bind fun q1 => (fs q1.2).bind fun q2 => if q2.1 = 0 then some (Sum.inl (Sum.inl ((0 : Int32), q2.2)) : ((Int32 × xS) ⊕ β) ⊕ (Int32 × xS)) else (f_Ru_add_27 k q2.2).bind fun q3 => some (.inr (Int32.ofNat v + 1, q3.2))) (fun o => match sub (tk_ad m i) with
        | .inr e => ∃ τ', o = .inl (.inl (0, τ')) ∧ x_er T σ τ' e.1 e.2
        | .inl s2 => ∃ τ', o = .inr (Int32.ofNat (v + 1), τ') ∧ x_cs m σ τ' s2.1 (c ++ s2.2.1 ++ s2.2.2 ++ [k])) := by
  refine x_ens.bi (r_adv H K) ?_
  intro q1 K1
  refine x_ens.bi (ht _ _ _ K1) ?_
  intro q2 h2
  rw [tk_ad_lt hi] at h2 K1 ⊢
  cases hx : sub (i + 1) with
  | inr e =>
    rw [hx] at h2
    rw [if_pos h2.1]
    exact x_ens.so ⟨q2.2, rfl, h2.2⟩
  | inl s2 =>
    rw [hx] at h2
    obtain ⟨p1, p2⟩ := h2
    rw [if_neg (by rw [p1]; decide)]
    obtain ⟨a, b, d⟩ := hg (i + 1) (by omega) s2 hx
    have hc := K.2.2.2.2
    refine x_ens.bi (r_add H p2 (by rw [List.length_append, List.length_append]; omega) k) ?_
    intro q3 h3
    refine x_ens.so ⟨q3.2, by rw [i_s], ?_⟩
    exact h3
theorem r_Product (H : x_H T m σ) {rec' : Int32 → Int32 → xS → Option (Int32 × xS)} {v2 v3 : Int32} {sub : Nat → tR} (hg : x_gr m sub) (ht : x_tie T m σ (f_Re_readPart_2_27 rec' v2 v3) sub) : x_tie T m σ (f_Re_readProduct_2_27 rec' v2 v3) (rd_lev m (op_6 T) (m + 1) sub) := by
  have hm := H.1
  refine r_lev (B := f_Re_readProduct_2_27_L15 rec' v2 v3) H ht ?_ ?_
  · intro τ i c K
    unfold f_Re_readProduct_2_27_L15
    dsimp only
    rw [(K.rows H).1, if_pos i_lr]
    exact ⟨_, rfl⟩
  · intro τ i c v hv K
    have hi := K.2.2.1
    unfold f_Re_readProduct_2_27_L15 f_Re_readProduct_2_27_J42 f_Re_readProduct_2_27_J58 op_6
    dsimp only
    rw [(K.rows H).1, if_neg (by rw [i_le (by omega) (by omega)]; omega), r_sign H K]
    dsimp only [Option.bind_some]
    by_cases h1 : (T i).1 = 3 ∧ (T i).2.1 = 42
    · rw [if_pos h1, if_neg (by decide), r_sign H K, if_pos h1]
      dsimp only [Option.bind_some]
      rw [if_neg (by decide), if_pos h1]
      exact r_right H hg ht K (H.sg hi h1.1 (by decide))
    · rw [if_neg h1, if_pos rfl, r_sign H K, if_neg h1]
      dsimp only [Option.bind_some]
      by_cases h2 : (T i).1 = 3 ∧ (T i).2.1 = 47
      · rw [if_pos h2, if_neg (by decide), r_sign H K, if_neg h1]
        dsimp only [Option.bind_some]
        rw [if_pos rfl, if_pos h2]
        exact r_right H hg ht K (H.sg hi h2.1 (by decide))
      · rw [if_neg h2, if_pos rfl, if_neg h2]
        exact x_ens.so rfl
theorem r_Sum (H : x_H T m σ) {rec' : Int32 → Int32 → xS → Option (Int32 × xS)} {v2 v3 : Int32} {sub : Nat → tR} (hg : x_gr m sub) (ht : x_tie T m σ (f_Re_readProduct_2_27 rec' v2 v3) sub) : x_tie T m σ (f_Re_readSum_2_27 rec' v2 v3) (rd_lev m (op_5 T) (m + 1) sub) := by
  have hm := H.1
  refine r_lev (B := f_Re_readSum_2_27_L15 rec' v2 v3) H ht ?_ ?_
  · intro τ i c K
    unfold f_Re_readSum_2_27_L15
    dsimp only
    rw [(K.rows H).1, if_pos i_lr]
    exact ⟨_, rfl⟩
  · intro τ i c v hv K
    have hi := K.2.2.1
    unfold f_Re_readSum_2_27_L15 f_Re_readSum_2_27_J42 f_Re_readSum_2_27_J57 op_5
    dsimp only
    rw [(K.rows H).1, if_neg (by rw [i_le (by omega) (by omega)]; omega), r_sign H K]
    dsimp only [Option.bind_some]
    by_cases h1 : (T i).1 = 3 ∧ (T i).2.1 = 43
    · rw [if_pos h1, if_neg (by decide), r_sign H K, if_pos h1]
      dsimp only [Option.bind_some]
      rw [if_neg (by decide), if_pos h1]
      exact r_right H hg ht K (H.sg hi h1.1 (by decide))
    · rw [if_neg h1, if_pos rfl, r_sign H K, if_neg h1]
      dsimp only [Option.bind_some]
      by_cases h2 : (T i).1 = 3 ∧ (T i).2.1 = 45
      · rw [if_pos h2, if_neg (by decide), r_sign H K, if_neg h1]
        dsimp only [Option.bind_some]
        rw [if_pos rfl, if_pos h2]
        exact r_right H hg ht K (H.sg hi h2.1 (by decide))
      · rw [if_neg h2, if_pos rfl, if_neg h2]
        exact x_ens.so rfl
end TIE
