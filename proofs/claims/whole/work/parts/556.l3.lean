def x_ht (B lo hi : Nat) (c : List Int32) : Prop := (∀ cs h, h + B ≤ 64 → sp_hg cs (h + 1) → sp_hg (c ++ cs) h) ∧ sp_us lo hi c
def x_hr (B lo hi : Nat) (X : Nat → tR) : Prop := ∀ i s, X i = .inl s → x_ht B lo hi (s.2.1 ++ s.2.2)
theorem x_ht.up {B B' lo hi : Nat} {c : List Int32} (h : x_ht B lo hi c) (hb : B ≤ B') : x_ht B' lo hi c := ⟨fun cs k hk => h.1 cs k (by omega), h.2⟩
theorem sp_us.ap {lo hi : Nat} {a b : List Int32} (h : sp_us lo hi a) (k : sp_us lo hi b) : sp_us lo hi (a ++ b) := fun c hc => (List.mem_append.mp hc).elim (h c) (k c)
theorem x_ht.bin {B lo hi : Nat} {a b : List Int32} {c : Int32} (h1 : x_ht (B + 1) lo hi a) (h2 : x_ht B lo hi b) (o1 : ¬ 0 ≤ c) (o2 : ¬ c ≤ -10) (o3 : ¬ c = -7) : x_ht (B + 1) lo hi (a ++ b ++ [c]) := by
  refine ⟨fun cs h hb hc => ?_, (h1.2.ap h2.2).ap (fun d hd hx => ?_)⟩
  · rw [List.append_assoc, List.append_assoc]
    refine h1.1 _ h (by omega) (h2.1 _ (h + 1) (by omega) ?_)
    show sp_hg (c :: cs) (h + 1 + 1)
    rw [sp_hg, if_neg o1, if_neg o2, if_neg o3]
    exact ⟨by omega, hc⟩
  · rw [List.mem_singleton.mp hd] at hx; exact absurd hx o2
theorem ht_bin {m B lo hi : Nat} {op : Nat → Option Int32} {sub : Nat → tR} (hop : ∀ i c, op i = some c → ¬ 0 ≤ c ∧ ¬ c ≤ -10 ∧ ¬ c = -7) (hs : x_hr B lo hi sub) : ∀ (f : Nat) (s s' : Nat × List Int32 × List Int32), x_ht (B + 1) lo hi (s.2.1 ++ s.2.2) → rd_bin m op sub f s = .inl s' → x_ht (B + 1) lo hi (s'.2.1 ++ s'.2.2)
  | 0, s, s', h, e => by cases e; exact h
  | f + 1, s, s', h, e => by
    unfold rd_bin at e
    cases ho : op s.1 with
    | none => rw [ho] at e; cases e; exact h
    | some c =>
      rw [ho] at e
      dsimp only at e
      cases hx : sub (tk_ad m s.1) with
      | inr er => rw [hx] at e; cases e
      | inl s2 =>
        rw [hx] at e
        dsimp only at e
        obtain ⟨o1, o2, o3⟩ := hop _ _ ho
        refine ht_bin hop hs f (s2.1, s.2.1 ++ s.2.2 ++ s2.2.1, s2.2.2 ++ [c]) s' ?_ e
        dsimp only
        have := h.bin (hs _ _ hx) o1 o2 o3
        rw [show s.2.1 ++ s.2.2 ++ s2.2.1 ++ (s2.2.2 ++ [c]) = s.2.1 ++ s.2.2 ++ (s2.2.1 ++ s2.2.2) ++ [c] by simp only [List.append_assoc]]
        exact this
theorem ht_lev {m B lo hi F : Nat} {op : Nat → Option Int32} {sub : Nat → tR} (hop : ∀ i c, op i = some c → ¬ 0 ≤ c ∧ ¬ c ≤ -10 ∧ ¬ c = -7) (hs : x_hr B lo hi sub) : x_hr (B + 1) lo hi (rd_lev m op F sub) := by
  intro i s e
  unfold rd_lev at e
  cases hx : sub i with
  | inr er => rw [hx] at e; cases e
  | inl s2 =>
    rw [hx] at e
    exact ht_bin hop hs F s2 s ((hs _ _ hx).up (by omega)) e
theorem ht_o2 {p q : Prop} [Decidable p] [Decidable q] {a b : Int32} (ha : ¬ 0 ≤ a ∧ ¬ a ≤ -10 ∧ ¬ a = -7) (hb : ¬ 0 ≤ b ∧ ¬ b ≤ -10 ∧ ¬ b = -7) {c : Int32} (h : (if p then some a else if q then some b else none) = some c) : ¬ 0 ≤ c ∧ ¬ c ≤ -10 ∧ ¬ c = -7 := by
  split at h
  · cases h; exact ha
  · split at h
    · cases h; exact hb
    · cases h
theorem ht_o1 {p : Prop} [Decidable p] {a : Int32} (ha : ¬ 0 ≤ a ∧ ¬ a ≤ -10 ∧ ¬ a = -7) {c : Int32} (h : (if p then some a else none) = some c) : ¬ 0 ≤ c ∧ ¬ c ≤ -10 ∧ ¬ c = -7 := by
  split at h
  · cases h; exact ha
  · cases h
def ht_lo (rule : Int32) : Nat := if rule = 0 then 0 else if rule = 1 then 0 else 3
def ht_hi (rule : Int32) : Nat := if rule = 0 then 0 else if rule = 1 then 2 else 7
theorem vo_ht {w : Nat} {rule : Int32} (h : ¬ sp_vo w rule = -1) : ∃ v : Int32, sp_vo w rule = v ∧ 0 ≤ v ∧ v ≤ 7 ∧ ht_lo rule ≤ v.toNatClampNeg ∧ v.toNatClampNeg ≤ ht_hi rule := by
  refine ⟨_, rfl, ?_⟩
  revert h
  unfold sp_vo ht_lo ht_hi
  by_cases h0 : rule = 0
  · rw [if_pos h0, if_pos h0, if_pos h0]; (repeat' split) <;> decide
  · rw [if_neg h0, if_neg h0, if_neg h0]
    by_cases h1 : rule = 1
    · rw [if_pos h1, if_pos h1, if_pos h1]; (repeat' split) <;> decide
    · rw [if_neg h1, if_neg h1, if_neg h1]; (repeat' split) <;> decide
theorem i_vv {v : Int32} (h : 0 ≤ v) (g : v ≤ 7) : ¬ (0 : Int32) ≤ -10 - v ∧ -10 - v ≤ -10 ∧ (-10 : Int32) - (-10 - v) = v ∧ -18 < -10 - v := by
  refine ⟨?_, ?_, ?_, ?_⟩ <;> grind
theorem ht_1 {lo hi : Nat} {c : Int32} (h : 0 ≤ c) : x_ht 1 lo hi [c] := by
  refine ⟨fun cs k hk hc => ?_, fun d hd hx => ?_⟩
  · show sp_hg (c :: cs) k
    rw [sp_hg, if_pos h]; exact ⟨by omega, hc⟩
  · rw [List.mem_singleton.mp hd] at hx; grind
theorem ht_v {lo hi : Nat} {v : Int32} (h0 : 0 ≤ v) (h7 : v ≤ 7) (hl : lo ≤ v.toNatClampNeg) (hh : v.toNatClampNeg ≤ hi) : x_ht 1 lo hi [-10 - v] := by
  obtain ⟨a, b, c, d⟩ := i_vv h0 h7
  refine ⟨fun cs k hk hc => ?_, fun e he hx => ?_⟩
  · show sp_hg ((-10 - v) :: cs) k
    rw [sp_hg, if_neg a, if_pos b, c]
    exact ⟨by have := i_nat (n := 7) (by omega) h7; omega, d, by omega, hc⟩
  · rw [List.mem_singleton.mp he, c]; exact ⟨hl, hh⟩
section HT
variable {T : tT} {m : Nat} {rule : Int32} {rc : Nat → tR}
theorem ht_part {B : Nat} (hB : 1 ≤ B) (hr : x_hr B (ht_lo rule) (ht_hi rule) rc) : x_hr B (ht_lo rule) (ht_hi rule) (rd_part T m rule rc) := by
  intro i s e
  unfold rd_part at e
  by_cases h2 : (T i).1 = 2
  · rw [if_pos h2] at e
    split at e
    · rename_i h; cases e; exact (ht_1 h.1).up hB
    · cases e
  · rw [if_neg h2] at e
    by_cases h1 : (T i).1 = 1
    · rw [if_pos h1] at e
      split at e
      · cases e
      · rename_i h
        cases e
        obtain ⟨v, ev, a, b, c, d⟩ := vo_ht h
        rw [ev]
        exact (ht_v a b c d).up hB
    · rw [if_neg h1] at e
      by_cases h3 : (T i).1 = 3 ∧ (T i).2.1 = 40
      · rw [if_pos h3] at e
        cases hx : rc (tk_ad m i) with
        | inr er => rw [hx] at e; cases e
        | inl s2 =>
          rw [hx] at e
          dsimp only at e
          split at e
          · cases e
            dsimp only
            rw [List.append_nil]
            exact hr _ _ hx
          · cases e
      · rw [if_neg h3] at e; cases e
theorem ht_not {B lo hi : Nat} {test : Nat → tR} (hB : 1 ≤ B) (hr : x_hr B lo hi test) : x_hr B lo hi (rd_not T m test) := by
  intro i s e
  unfold rd_not at e
  cases hn : rd_nots T m (m + 1) 0 i with
  | inr er => rw [hn] at e; cases e
  | inl ki =>
    rw [hn] at e
    dsimp only at e
    cases hx : test ki.2 with
    | inr er => rw [hx] at e; cases e
    | inl s2 =>
      rw [hx] at e
      dsimp only at e
      cases e
      dsimp only
      have h0 := hr _ _ hx
      rw [← List.append_assoc]
      refine ⟨fun cs h hb hc => ?_, h0.2.ap (fun d hd hx => ?_)⟩
      · rw [List.append_assoc]
        refine h0.1 _ h hb ?_
        have : ∀ k, sp_hg (List.replicate k (-7) ++ cs) (h + 1) := by
          intro k
          induction k with
          | zero => exact hc
          | succ k ih =>
            rw [List.replicate_succ]
            show sp_hg ((-7) :: (List.replicate k (-7) ++ cs)) (h + 1)
            rw [sp_hg, if_neg (by decide), if_neg (by decide), if_pos rfl]
            exact ⟨by omega, ih⟩
        exact this _
      · rw [(List.mem_replicate.mp hd).2] at hx; exact absurd hx (by decide)
theorem ht_expr : ∀ (f d : Nat), x_hr (31 - 5 * d) (ht_lo rule) (ht_hi rule) (rd_expr T m rule f d)
  | 0, d => fun i s e => by cases e
  | f + 1, d => by
    intro i s e
    rw [rd_expr] at e
    split at e
    · rename_i hd
      have hr : x_hr (26 - 5 * d) (ht_lo rule) (ht_hi rule) (rd_expr T m rule f (d + 1)) := by
        have := @ht_expr f (d + 1)
        rw [show 31 - 5 * (d + 1) = 26 - 5 * d by omega] at this
        exact this
      have hp := ht_part (T := T) (m := m) (by omega) hr
      have h6 := ht_lev (m := m) (F := m + 1) (op := op_6 T) (fun i c h => ht_o2 (by decide) (by decide) h) hp
      have h5 := ht_lev (m := m) (F := m + 1) (op := op_5 T) (fun i c h => ht_o2 (by decide) (by decide) h) h6
      have h4 := ht_lev (m := m) (F := 1) (op := op_4 T) (fun i c h => ht_o2 (by decide) (by decide) h) h5
      have h3 := ht_not (T := T) (m := m) (by omega) h4
      have h2 := ht_lev (m := m) (F := m + 1) (op := op_2 T) (fun i c h => ht_o1 (by decide) h) h3
      have h1 := ht_lev (m := m) (F := m + 1) (op := op_1 T) (fun i c h => ht_o1 (by decide) h) h2
      have := h1 i s e
      rw [show 26 - 5 * d + 1 + 1 + 1 + 1 + 1 = 31 - 5 * d by omega] at this
      exact this
    · cases e
theorem ht_top {i : Nat} {s : Nat × List Int32 × List Int32} (h : rd_expr T m rule 8 0 i = .inl s) : sp_hg (s.2.1 ++ s.2.2) 0 ∧ sp_us (ht_lo rule) (ht_hi rule) (s.2.1 ++ s.2.2) := by
  have := ht_expr 8 0 i s h
  refine ⟨?_, this.2⟩
  have := this.1 [] 0 (by omega) (show 0 + 1 = 1 by rfl)
  rw [List.append_nil] at this
  exact this
end HT
