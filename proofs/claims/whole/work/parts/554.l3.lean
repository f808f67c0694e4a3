section MM
variable {g : Nat → Int32} {n m : Nat} {σ τ : xS} {d : Nat} {t0 : Int32} {rule : Int32} {rc : Nat → tR}
theorem q_part (H : x_HM g n m σ) (hr : x_ru rule (σ.1 60 38) (σ.1 60 39)) (hd5 : d ≤ 5) (h1 : d < 5 → x_sub g n m σ (d + 1) true 1 (fun t => t = 0) (fun j t => x_no (tk_i g n) j t) rc) (h2 : d = 5 → ∀ i, rc i = .inr (if (tk_i g n i).1 = 2 ∨ (tk_i g n i).1 = 1 ∨ ((tk_i g n i).1 = 3 ∧ (tk_i g n i).2.1 = 40) then 2 else 1, i)) : x_sub g n m σ d false 7 (fun t => t = t0) (fun _ t => t = t0) (rd_part (tk_i g n) m rule rc) := by
  intro i W t D' P τ fu f4 Q hd K hu h4 hf hpre hct
  subst hpre
  have him := K.2.2.2.1
  by_cases hp : (tk_i g n i).1 = 3 ∧ (tk_i g n i).2.1 = 40
  · have hl : i < m := H.lt him (by rw [hp.1]; decide)
    have er : rd_part (tk_i g n) m rule rc i = (match rc (i + 1) with
        | .inr e => .inr e
        | .inl s => if (tk_i g n s.1).1 = 3 ∧ (tk_i g n s.1).2.1 = 41 then .inl (tk_ad m s.1, s.2.1 ++ s.2.2, []) else .inr (1, s.1)) := by
      unfold rd_part
      rw [if_neg (by rw [hp.1]; decide), if_neg (by rw [hp.1]; decide), if_pos hp, tk_ad_lt hl]
      cases rc (i + 1) <;> rfl
    rw [er] at hct
    refine j7_p H K hp (by omega) (by omega) ?_
    by_cases h6 : d < 5
    · rw [if_pos (show (t :: D').length < 6 by show D'.length + 1 < 6; omega)]
      intro τ1 K1
      obtain ⟨f4', rfl⟩ : ∃ f4', f4 = f4' + 1 := ⟨f4 - 1, by omega⟩
      refine h1 h6 (i + 1) (14 :: W) 0 (t :: D') P τ1 fu f4' Q (by show D'.length + 1 = d + 1; omega) K1 (Or.inr ⟨_, _, rfl, Or.inl (by decide)⟩) (by omega) (by omega) rfl ?_
      revert hct
      cases rc (i + 1) with
      | inr e => exact fun x => x
      | inl s =>
        intro hct i1 w1 fu2 τ2 t2 K2 E2 f2
        dsimp only at hct
        by_cases hc : (tk_i g n s.1).1 = 3 ∧ (tk_i g n s.1).2.1 = 41
        · have hl2 : s.1 < m := H.lt K2.2.2.2.1 (by rw [hc.1]; decide)
          rw [if_pos hc, tk_ad_lt hl2] at hct
          obtain ⟨fu3, rfl⟩ : ∃ fu3, fu2 = fu3 + 1 := ⟨fu2 - 1, by omega⟩
          refine hd_cl H hc (fun a ha => ⟨(wo_all w1 a ha).1, fun x => (wo_all w1 a ha).2 (by grind)⟩) K2 ?_
          intro τ3 K3
          refine hct (by dsimp only; omega) (fun c hc => nomatch hc) fu3 τ3 t ?_ rfl (by dsimp only; omega)
          dsimp only
          rw [List.flatMap_append, wr_ops w1, ← List.append_assoc]
          exact K3
        · rw [if_neg hc] at hct
          obtain ⟨fu3, rfl⟩ : ∃ fu3, fu2 = fu3 + 2 := ⟨fu2 - 2, by have := K2.2.2.2.1; omega⟩
          exact hd_no H E2 (Or.inl hc) K2 (hct.2 rfl _ _ _ _ _ K2 (by show 1 < D'.length + 1 + 1; omega))
    · rw [if_neg (show ¬ (t :: D').length < 6 by show ¬ D'.length + 1 < 6; omega)]
      rw [h2 (by omega)] at hct
      exact hct
  · refine j7_n H K hp (by omega) ?_
    refine (s_part H hr (rc := rc) K hp).im ?_
    intro q hq
    revert hq hct
    cases hx : rd_part (tk_i g n) m rule rc i with
    | inr e => intro hct hq; exact hd_f hq hct (by omega)
    | inl s =>
      rintro hct ⟨a1, a2, a3⟩
      have him2 := a3.2.2.2.1
      refine hct (by omega) (fun c hc => by rw [a2] at hc; exact nomatch hc) fu q.2 t ?_ rfl (by omega)
      rw [a1, a2]; exact a3
theorem q_sum (H : x_HM g n m σ) (h : x_sub g n m σ d false 7 (fun t => t = t0) (fun _ t => t = t0) (rd_part (tk_i g n) m rule rc)) : x_sub g n m σ d false 5 (fun t => t = t0) (fun j t => (t = t0 ∧ op_6 (tk_i g n) j = none) ∧ op_5 (tk_i g n) j = none) (rd_sum (tk_i g n) m rule rc) :=
  q_lev H (l := 5) (l' := 6) (by decide) (q_lev H (l := 6) (l' := 7) (by decide) h (p_6 H) (o_6 H) (fun _ _ x => x)) (p_5 H) (o_5 H) (fun _ _ x => x.1)
theorem q_test (H : x_HM g n m σ) (h : ∀ t0, x_sub g n m σ d false 5 (fun t => t = t0) (fun j t => (t = t0 ∧ op_6 (tk_i g n) j = none) ∧ op_5 (tk_i g n) j = none) (rd_sum (tk_i g n) m rule rc)) : x_sub g n m σ d false 4 (fun t => t = 0) (fun j t => op_6 (tk_i g n) j = none ∧ op_5 (tk_i g n) j = none ∧ (op_4 (tk_i g n) j = none ∨ ¬ t = 0)) (rd_test (tk_i g n) m rule rc) := by
  intro i W t D' P τ fu f4 Q hd K hu h4 hf hpre hct
  have hm7 := H.1
  have hmn := H.2.1
  refine h 0 i W t D' P τ fu f4 Q hd K (hu.up (by decide)) h4 hf hpre ?_
  unfold rd_test rd_lev at hct
  revert hct
  cases hx : rd_sum (tk_i g n) m rule rc i with
  | inr e => exact fun x => x
  | inl s =>
    intro hct i1 w1 fu2 τ2 t2 K2 E2 f2
    obtain ⟨⟨e1, e2⟩, e3⟩ := E2
    subst e1
    have w4 : ∀ c, c ∈ s.2.2 → x_wo 4 c := fun c hc => ⟨(w1 c hc).1, (w1 c hc).2.1, fun x => (w1 c hc).2.2 (by grind)⟩
    dsimp only at hct
    rw [rd_bin] at hct
    cases ho : op_4 (tk_i g n) s.1 with
    | none =>
      rw [ho] at hct
      exact hct i1 w4 fu2 τ2 0 K2 ⟨e2, e3, Or.inl ho⟩ f2
    | some c =>
      rw [ho] at hct
      dsimp only at hct
      have hsg : ∃ a, (tk_i g n s.1).1 = 3 ∧ (tk_i g n s.1).2.1 = a ∧ ((a = 60 ∧ sp_om c = 6) ∨ (a = 61 ∧ sp_om c = 7)) ∧ x_wo 4 c ∧ sp_st (sp_om c) < 5 := by
        unfold op_4 at ho
        split at ho
        · rename_i hs; cases ho; exact ⟨60, hs.1, hs.2, Or.inl ⟨rfl, rfl⟩, by unfold x_wo; decide, by decide⟩
        · split at ho
          · rename_i hs; cases ho; exact ⟨61, hs.1, hs.2, Or.inr ⟨rfl, rfl⟩, by unfold x_wo; decide, by decide⟩
          · cases ho
      obtain ⟨a, s1, s2, s3, s4, s5⟩ := hsg
      have hl : s.1 < m := H.lt K2.2.2.2.1 (by rw [s1]; decide)
      rw [tk_ad_lt hl] at hct
      obtain ⟨fu3, rfl⟩ : ∃ fu3, fu2 = fu3 + 1 := ⟨fu2 - 1, by omega⟩
      refine hd_cm H ⟨s1, s2⟩ s3 hu (wo_all w4) K2 ?_
      intro τ3 K3
      refine q_op0 (f4 := 9999) K3 ?_
      have eP : P ++ s.2.1.flatMap sp_wr ++ s.2.2.map sp_om = P ++ (s.2.1 ++ s.2.2).flatMap sp_wr := by
        rw [List.flatMap_append, wr_ops w4, List.append_assoc]
      rw [eP] at K3
      refine h 1 (s.1 + 1) (sp_om c :: W) 1 D' _ τ3 fu3 9999 Q hd K3 (Or.inr ⟨_, _, rfl, Or.inr s5⟩) (by omega) (by omega) rfl ?_
      revert hct
      cases hy : rd_sum (tk_i g n) m rule rc (s.1 + 1) with
      | inr e => exact fun x => x
      | inl s2 =>
        intro hct i2 w2 fu4 τ4 t4 K4 E4 f4
        obtain ⟨⟨u1, u2⟩, u3⟩ := E4
        subst u1
        refine hct (by dsimp only; omega) ?_ fu4 τ4 1 ?_ ⟨u2, u3, Or.inr (by decide)⟩ f4
        · intro a ha
          rcases List.mem_append.mp ha with ha | ha
          · obtain ⟨z1, z2, z3⟩ := w2 a ha
            exact ⟨z1, z2, fun x => z3 (by grind)⟩
          · rw [List.mem_singleton.mp ha]; exact s4
        · dsimp only
          rw [List.map_append, List.append_assoc, List.flatMap_append (xs := s.2.1 ++ s.2.2), ← List.append_assoc P]
          exact K4
theorem q_not (H : x_HM g n m σ) {E : Nat → Int32 → Prop} {test : Nat → tR} (h : x_sub g n m σ d false 4 (fun t => t = 0) E test) : x_sub g n m σ d true 3 (fun t => t = 0) E (rd_not (tk_i g n) m test) := by
  intro i W t D' P τ fu f4 Q hd K hu h4 hf hpre hct
  have him := K.2.2.2.1
  refine q_op1 H K (by omega) (by omega) ?_
  unfold rd_not at hct
  revert hct
  cases rd_nots (tk_i g n) m (m + 1) 0 i with
  | inr e => exact fun x => x
  | inl s =>
    intro hct his τ1 K1
    dsimp only at hct
    have hu4 : x_und 4 (List.replicate s.1 3 ++ W) := by
      cases hk : s.1 with
      | zero => exact hu.up (by decide)
      | succ k => rw [List.replicate_succ]; exact Or.inr ⟨_, _, rfl, Or.inr (by decide)⟩
    refine h s.2 _ t D' P τ1 fu f4 Q hd K1 hu4 (by omega) (by omega) hpre ?_
    revert hct
    cases test s.2 with
    | inr e => exact fun x => x
    | inl s2 =>
      intro hct i1 w1 fu2 τ2 t2 K2 E2 f2
      refine hct (by dsimp only; omega) ?_ fu2 τ2 t2 ?_ E2 f2
      · intro a ha
        rcases List.mem_append.mp ha with ha | ha
        · obtain ⟨z1, z2, z3⟩ := w1 a ha
          exact ⟨z1, z2, fun x => z3 (by grind)⟩
        · rw [(List.mem_replicate.mp ha).2]; unfold x_wo; decide
      · dsimp only
        rw [List.map_append, List.map_replicate, show sp_om (-7) = 3 by decide, List.append_assoc]
        exact K2
theorem x_sub.ex {b : Bool} {l : Int32} {pre : Int32 → Prop} {E E' : Nat → Int32 → Prop} {X : Nat → tR} (h : x_sub g n m σ d b l pre E X) (he : ∀ j t, E j t → E' j t) : x_sub g n m σ d b l pre E' X := by
  intro i W t D' P τ fu f4 Q hd K hu h4 hf hpre hct
  refine h i W t D' P τ fu f4 Q hd K hu h4 hf hpre ?_
  revert hct
  cases X i with
  | inr e => exact fun x => x
  | inl s => exact fun hct i1 w1 fu2 τ2 t2 K2 E2 f2 => hct i1 w1 fu2 τ2 t2 K2 (he _ _ E2) f2
theorem q_expr (H : x_HM g n m σ) (hr : x_ru rule (σ.1 60 38) (σ.1 60 39)) : ∀ (f d : Nat), d ≤ 5 → 7 ≤ d + f → x_sub g n m σ d true 1 (fun t => t = 0) (fun j t => x_no (tk_i g n) j t) (rd_expr (tk_i g n) m rule f d)
  | 0, d, h1, h2 => by omega
  | f + 1, d, h1, h2 => by
    have hp : ∀ t0, x_sub g n m σ d false 7 (fun t => t = t0) (fun _ t => t = t0) (rd_part (tk_i g n) m rule (rd_expr (tk_i g n) m rule f (d + 1))) := fun t0 => q_part H hr h1 (fun h => q_expr H hr f (d + 1) (by omega) (by omega)) (fun h i => by
      obtain ⟨f', rfl⟩ : ∃ f', f = f' + 1 := ⟨f - 1, by omega⟩
      rw [rd_expr, if_neg (by omega)])
    have ht := q_test H (fun t0 => q_sum H (hp t0))
    have hn := q_not H ht
    have ha := q_lev H (l := 2) (l' := 3) (by decide) hn (p_2 H) (o_2 H) (fun _ _ _ => rfl)
    have ho := q_lev H (l := 1) (l' := 2) (by decide) ha (p_1 H) (o_1 H) (fun _ _ _ => rfl)
    have e : rd_expr (tk_i g n) m rule (f + 1) d = rd_lev m (op_1 (tk_i g n)) (m + 1) (rd_and (tk_i g n) m rule (rd_expr (tk_i g n) m rule f (d + 1))) := by
      funext i
      rw [rd_expr, if_pos h1]
    rw [e]
    refine x_sub.ex ho ?_
    rintro j t ⟨⟨⟨a, b, c⟩, d⟩, e⟩
    exact ⟨a, b, c, d, e⟩
end MM
