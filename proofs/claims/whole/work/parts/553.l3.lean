def x_wo (l c : Int32) : Prop := ¬ 0 ≤ c ∧ ¬ c ≤ -10 ∧ ¬ sp_st (sp_om c) < l
def x_ct (g : Nat → Int32) (n m : Nat) (σ : xS) (Q : Int32 × xS → Prop) (i : Nat) (W D' P : List Int32) (E : Nat → Int32 → Prop) (l : Int32) : tR → Prop
  | .inl s => i ≤ s.1 → (∀ c, c ∈ s.2.2 → x_wo l c) → ∀ (fu : Nat) (τ : xS) (t : Int32), x_ms g n m σ τ s.1 (s.2.2.map sp_om ++ W) (t :: D') (P ++ s.2.1.flatMap sp_wr) → E s.1 t → m + 3 ≤ fu + s.1 → x_hd fu Q τ
  | .inr e => x_QF g n m σ Q e.1 e.2
def x_St (f4 fu : Nat) (Q : Int32 × xS → Prop) (τ : xS) : Bool → Prop
  | true => x_op (f4 + 1) fu Q 1 τ
  | false => x_j7 f4 fu Q τ
def x_sub (g : Nat → Int32) (n m : Nat) (σ : xS) (d : Nat) (b : Bool) (l : Int32) (pre : Int32 → Prop) (E : Nat → Int32 → Prop) (X : Nat → tR) : Prop :=
  ∀ (i : Nat) (W : List Int32) (t : Int32) (D' P : List Int32) (τ : xS) (fu f4 : Nat) (Q : Int32 × xS → Prop), D'.length = d → x_ms g n m σ τ i W (t :: D') P → x_und l W → m + 3 ≤ f4 + i → m + 3 ≤ fu + i → pre t → x_ct g n m σ Q i W D' P E l (X i) → x_St f4 fu Q τ b
def x_stp (g : Nat → Int32) (n m : Nat) (σ : xS) (op : Nat → Option Int32) (l : Int32) (b : Bool) (mk : Int32 → Int32) : Prop :=
  ∀ (i : Nat) (c : Int32) (W w : List Int32) (t : Int32) (D' P : List Int32) (τ : xS) (fu : Nat) (Q : Int32 × xS → Prop), op i = some c → x_und l W → (∀ a, a ∈ w → a < 14 ∧ ¬ sp_st a < l) → x_ms g n m σ τ i (w ++ W) (t :: D') P → (∀ τ, x_ms g n m σ τ (i + 1) (sp_om c :: W) (mk t :: D') (P ++ w) → x_op 10000 fu Q (if b = true then 1 else 0) τ) → x_hd (fu + 1) Q τ
theorem om_14 {c : Int32} : sp_om c < 14 := by unfold sp_om; (repeat' split) <;> decide
theorem wr_op {l c : Int32} (h : x_wo l c) : sp_wr c = [sp_om c] := by unfold sp_wr; rw [if_neg h.1, if_neg h.2.1]
theorem wr_ops {l : Int32} : ∀ {w : List Int32}, (∀ c, c ∈ w → x_wo l c) → w.flatMap sp_wr = w.map sp_om
  | [], _ => rfl
  | c :: w, h => by
    rw [List.flatMap_cons, List.map_cons, wr_op (h c (List.mem_cons_self ..)), wr_ops (fun a ha => h a (List.mem_cons_of_mem _ ha))]; rfl
theorem wo_all {l : Int32} {w : List Int32} (h : ∀ c, c ∈ w → x_wo l c) : ∀ a, a ∈ w.map sp_om → a < 14 ∧ ¬ sp_st a < l := by
  intro a ha
  obtain ⟨c, hc, rfl⟩ := List.mem_map.mp ha
  exact ⟨om_14, (h c hc).2.2⟩
theorem x_und.up {l l' : Int32} (hl : l < l') {W : List Int32} (h : x_und l W) : x_und l' W := by
  rcases h with h | ⟨a, W', e, h⟩
  · exact Or.inl h
  · exact Or.inr ⟨a, W', e, h.imp id (fun x => by grind)⟩
section ML
variable {g : Nat → Int32} {n m : Nat} {σ τ : xS} {d : Nat} {b : Bool} {l l' : Int32} {pre : Int32 → Prop} {E : Nat → Int32 → Prop} {op : Nat → Option Int32} {sub : Nat → tR} {mk : Int32 → Int32}
theorem q_St {fu : Nat} {Q : Int32 × xS → Prop} {i : Nat} {W D P : List Int32} (K : x_ms g n m σ τ i W D P) (h : x_St 9999 fu Q τ b) : x_op 10000 fu Q (if b = true then 1 else 0) τ := by
  cases b with
  | true => exact h
  | false => exact q_op0 K h
theorem q_bin (H : x_HM g n m σ) (hl : l < l') (hs : x_sub g n m σ d b l' pre E sub) (hp : x_stp g n m σ op l b mk) (hop : ∀ i c, i ≤ m → op i = some c → i < m ∧ x_wo l c ∧ sp_st (sp_om c) < l') (hmk : ∀ j t, E j t → pre (mk t)) : ∀ (f : Nat) (s : Nat × List Int32 × List Int32) (W : List Int32) (t : Int32) (D' P : List Int32) (τ : xS) (fu : Nat) (Q : Int32 × xS → Prop) (i0 : Nat), m + 1 ≤ f + s.1 → x_und l W → D'.length = d → (∀ c, c ∈ s.2.2 → x_wo l c) → x_ms g n m σ τ s.1 (s.2.2.map sp_om ++ W) (t :: D') (P ++ s.2.1.flatMap sp_wr) → E s.1 t → m + 3 ≤ fu + s.1 → i0 ≤ s.1 → x_ct g n m σ Q i0 W D' P (fun j t => E j t ∧ op j = none) l (rd_bin m op sub f s) → x_hd fu Q τ
  | 0, s, W, t, D', P, τ, fu, Q, i0, h1, hu, hd, hw, K, hE, hf, hi, hct => by have := K.2.2.2.1; omega
  | f + 1, s, W, t, D', P, τ, fu, Q, i0, h1, hu, hd, hw, K, hE, hf, hi, hct => by
    have hsm := K.2.2.2.1
    have hm7 := H.1
    have hmn := H.2.1
    rw [rd_bin] at hct
    cases ho : op s.1 with
    | none =>
      rw [ho] at hct
      exact hct hi hw fu τ t K ⟨hE, ho⟩ hf
    | some c =>
      rw [ho] at hct
      dsimp only at hct
      obtain ⟨o1, o2, o3⟩ := hop s.1 c hsm ho
      rw [tk_ad_lt o1] at hct
      obtain ⟨fu', rfl⟩ : ∃ fu', fu = fu' + 1 := ⟨fu - 1, by omega⟩
      refine hp s.1 c W _ t D' _ τ fu' Q ho hu (wo_all hw) K ?_
      intro τ1 K1
      refine q_St K1 ?_
      have eP : P ++ s.2.1.flatMap sp_wr ++ s.2.2.map sp_om = P ++ (s.2.1 ++ s.2.2).flatMap sp_wr := by
        rw [List.flatMap_append, wr_ops hw, List.append_assoc]
      rw [eP] at K1
      refine hs (s.1 + 1) (sp_om c :: W) (mk t) D' _ τ1 fu' 9999 Q hd K1 (Or.inr ⟨_, _, rfl, Or.inr o3⟩) (by omega) (by omega) (hmk _ _ hE) ?_
      revert hct
      cases hx : sub (s.1 + 1) with
      | inr e => exact fun x => x
      | inl s2 =>
        intro hct i1 w1 fu2 τ2 t2 K2 E2 f2
        refine q_bin H hl hs hp hop hmk f (s2.1, s.2.1 ++ s.2.2 ++ s2.2.1, s2.2.2 ++ [c]) W t2 D' P τ2 fu2 Q i0 (by dsimp only; omega) hu hd ?_ ?_ E2 f2 (by dsimp only; omega) hct
        · intro a ha
          rcases List.mem_append.mp ha with ha | ha
          · obtain ⟨z1, z2, z3⟩ := w1 a ha
            exact ⟨z1, z2, fun x => z3 (by grind)⟩
          · rw [List.mem_singleton.mp ha]; exact o2
        · dsimp only
          rw [List.map_append, List.append_assoc, List.flatMap_append (xs := s.2.1 ++ s.2.2), ← List.append_assoc P]
          exact K2
theorem q_lev (H : x_HM g n m σ) (hl : l < l') (hs : x_sub g n m σ d b l' pre E sub) (hp : x_stp g n m σ op l b mk) (hop : ∀ i c, i ≤ m → op i = some c → i < m ∧ x_wo l c ∧ sp_st (sp_om c) < l') (hmk : ∀ j t, E j t → pre (mk t)) : x_sub g n m σ d b l pre (fun j t => E j t ∧ op j = none) (rd_lev m op (m + 1) sub) := by
  intro i W t D' P τ fu f4 Q hd K hu h4 hf hpre hct
  refine hs i W t D' P τ fu f4 Q hd K (hu.up hl) h4 hf hpre ?_
  unfold rd_lev at hct
  revert hct
  cases hx : sub i with
  | inr e => exact fun x => x
  | inl s =>
    intro hct i1 w1 fu2 τ2 t2 K2 E2 f2
    exact q_bin H hl hs hp hop hmk (m + 1) s W t2 D' P τ2 fu2 Q i (by omega) hu hd (fun c hc => ⟨(w1 c hc).1, (w1 c hc).2.1, fun x => (w1 c hc).2.2 (by grind)⟩) K2 E2 f2 i1 hct
theorem p_6 (H : x_HM g n m σ) : x_stp g n m σ (op_6 (tk_i g n)) 6 false (fun t => t) := by
  intro i c W w t D' P τ fu Q ho hu hw K h
  unfold op_6 at ho
  split at ho
  · rename_i hs; cases ho; exact hd_sp H hs (a := 10) (l := 6) (Or.inr (Or.inr (Or.inl ⟨rfl, rfl, rfl⟩))) hu hw K h
  · split at ho
    · rename_i hs; cases ho; exact hd_sp H hs (a := 11) (l := 6) (Or.inr (Or.inr (Or.inr ⟨rfl, rfl, rfl⟩))) hu hw K h
    · cases ho
theorem p_5 (H : x_HM g n m σ) : x_stp g n m σ (op_5 (tk_i g n)) 5 false (fun t => t) := by
  intro i c W w t D' P τ fu Q ho hu hw K h
  unfold op_5 at ho
  split at ho
  · rename_i hs; cases ho; exact hd_sp H hs (a := 8) (l := 5) (Or.inl ⟨rfl, rfl, rfl⟩) hu hw K h
  · split at ho
    · rename_i hs; cases ho; exact hd_sp H hs (a := 9) (l := 5) (Or.inr (Or.inl ⟨rfl, rfl, rfl⟩)) hu hw K h
    · cases ho
theorem p_2 (H : x_HM g n m σ) : x_stp g n m σ (op_2 (tk_i g n)) 2 true (fun _ => 0) := by
  intro i c W w t D' P τ fu Q ho hu hw K h
  unfold op_2 at ho
  split at ho
  · rename_i hs; cases ho; exact hd_ao H (a := 4) (l := 2) (Or.inl ⟨hs, rfl, rfl⟩) hu hw K h
  · cases ho
theorem p_1 (H : x_HM g n m σ) : x_stp g n m σ (op_1 (tk_i g n)) 1 true (fun _ => 0) := by
  intro i c W w t D' P τ fu Q ho hu hw K h
  unfold op_1 at ho
  split at ho
  · rename_i hs; cases ho; exact hd_ao H (a := 5) (l := 1) (Or.inr ⟨hs, rfl, rfl⟩) hu hw K h
  · cases ho
theorem o_6 (H : x_HM g n m σ) : ∀ i c, i ≤ m → op_6 (tk_i g n) i = some c → i < m ∧ x_wo 6 c ∧ sp_st (sp_om c) < 7 := by
  intro i c hi ho
  unfold op_6 at ho
  split at ho
  · rename_i hs; cases ho; exact ⟨H.lt hi (by rw [hs.1]; decide), by unfold x_wo; decide, by decide⟩
  · split at ho
    · rename_i hs; cases ho; exact ⟨H.lt hi (by rw [hs.1]; decide), by unfold x_wo; decide, by decide⟩
    · cases ho
theorem o_5 (H : x_HM g n m σ) : ∀ i c, i ≤ m → op_5 (tk_i g n) i = some c → i < m ∧ x_wo 5 c ∧ sp_st (sp_om c) < 6 := by
  intro i c hi ho
  unfold op_5 at ho
  split at ho
  · rename_i hs; cases ho; exact ⟨H.lt hi (by rw [hs.1]; decide), by unfold x_wo; decide, by decide⟩
  · split at ho
    · rename_i hs; cases ho; exact ⟨H.lt hi (by rw [hs.1]; decide), by unfold x_wo; decide, by decide⟩
    · cases ho
theorem wd_lt (H : x_HM g n m σ) {i : Nat} (hi : i ≤ m) (h : ¬ tk_wd (tk_i g n) i = 0) : i < m := H.lt hi (by intro x; apply h; unfold tk_wd; rw [if_neg (by rw [x]; decide)])
theorem o_2 (H : x_HM g n m σ) : ∀ i c, i ≤ m → op_2 (tk_i g n) i = some c → i < m ∧ x_wo 2 c ∧ sp_st (sp_om c) < 3 := by
  intro i c hi ho
  unfold op_2 at ho
  split at ho
  · rename_i hs; cases ho; exact ⟨wd_lt H hi (by omega), by unfold x_wo; decide, by decide⟩
  · cases ho
theorem o_1 (H : x_HM g n m σ) : ∀ i c, i ≤ m → op_1 (tk_i g n) i = some c → i < m ∧ x_wo 1 c ∧ sp_st (sp_om c) < 2 := by
  intro i c hi ho
  unfold op_1 at ho
  split at ho
  · rename_i hs; cases ho; exact ⟨wd_lt H hi (by omega), by unfold x_wo; decide, by decide⟩
  · cases ho
end ML
