abbrev x_hd (fu : Nat) (Q : Int32 × xS → Prop) (τ : xS) : Prop := x_ens (x_it f_Mo_expression_60_L39 fu ((1 : Int32), τ)) Q
abbrev x_pt (fu : Nat) (Q : Int32 × xS → Prop) (τ : xS) : Prop := x_ens (f_Mo_part_60 τ) (fun q => x_hd fu Q q.2)
abbrev x_op (f4 fu : Nat) (Q : Int32 × xS → Prop) (b : Int32) (τ : xS) : Prop := x_ens (x_it f_Mo_operand_60_L4 f4 (b, (1 : Int32), τ)) (fun b => x_pt fu Q b.2.2)
def x_j7 (f4 fu : Nat) (Q : Int32 × xS → Prop) (τ : xS) : Prop := ∀ (v2 : Int32) (P : (Int32 × Int32 × xS) ⊕ (Int32 × Int32 × xS) → Prop), (∀ b, x_pt fu Q b.2.2 → x_ens (some (.inl b)) P) → (∀ a', x_ens (x_it f_Mo_operand_60_L4 f4 a') (fun b => x_pt fu Q b.2.2) → x_ens (some (.inr a')) P) → x_ens (f_Mo_operand_60_J75 v2 τ) P
def x_QF (g : Nat → Int32) (n m : Nat) (σ : xS) (Q : Int32 × xS → Prop) (k : Int32) (e : Nat) : Prop := (∀ τ v, x_mf g n m σ τ k e → Q (v, τ)) ∧ (k = 1 → ∀ τ v W D P, x_ms g n m σ τ e W D P → 1 < D.length → Q (v, τ))
def x_kw (T : tT) (i : Nat) : Int32 := if (T i).1 = 1 then tk_km.getD (T i).2.1.toNatClampNeg 0 else -1
theorem km_is : ∀ w, (tk_km.getD w 0 = 19 ↔ w = 16) ∧ (tk_km.getD w 0 = 20 ↔ w = 15) ∧ (tk_km.getD w 0 = 21 ↔ w = 17) := by
  intro w
  by_cases h : w < 23
  · revert w; decide
  · have e : tk_km.getD w 0 = 0 := by rw [List.getD_eq_getElem?_getD, List.getElem?_eq_none (by show 23 ≤ w; omega)]; rfl
    rw [e]
    exact ⟨⟨fun x => absurd x (by decide), fun x => by omega⟩, ⟨fun x => absurd x (by decide), fun x => by omega⟩, ⟨fun x => absurd x (by decide), fun x => by omega⟩⟩
theorem kw_is {T : tT} {i : Nat} : (x_kw T i = 19 ↔ tk_wd T i = 16) ∧ (x_kw T i = 20 ↔ tk_wd T i = 15) ∧ (x_kw T i = 21 ↔ tk_wd T i = 17) := by
  unfold x_kw tk_wd
  by_cases h : (T i).1 = 1
  · rw [if_pos h, if_pos h]; exact km_is _
  · rw [if_neg h, if_neg h]
    exact ⟨⟨fun x => absurd x (by decide), fun x => by omega⟩, ⟨fun x => absurd x (by decide), fun x => by omega⟩, ⟨fun x => absurd x (by decide), fun x => by omega⟩⟩
theorem kw_sg {T : tT} {i : Nat} (h : (T i).1 = 3) : x_kw T i = -1 := by unfold x_kw; rw [if_neg (by rw [h]; decide)]
section MH
variable {g : Nat → Int32} {n m : Nat} {σ τ : xS} {i : Nat} {W D P : List Int32} {Q : Int32 × xS → Prop} {f4 fu : Nat} {k : Int32} {e : Nat}
theorem hd_f (K : x_mf g n m σ τ k e) (hq : x_QF g n m σ Q k e) (hf : 0 < fu) : x_hd fu Q τ := by
  obtain ⟨fu', rfl⟩ : ∃ fu', fu = fu' + 1 := ⟨fu - 1, by omega⟩
  refine x_nx fun R kL kR => ?_
  unfold f_Mo_expression_60_L39
  dsimp only
  rw [if_neg (show ¬ (1 : Int32) = 0 by decide), s_bad K]
  dsimp only [Option.bind_some]
  rw [if_pos rfl]
  exact kL _ (hq.1 _ _ K)
theorem pt_f (K : x_mf g n m σ τ k e) (hq : x_QF g n m σ Q k e) (hf : 0 < fu) : x_pt fu Q τ := by
  unfold x_pt f_Mo_part_60
  rw [s_bad K]
  dsimp only [Option.bind_some]
  rw [if_pos rfl]
  exact x_ens.so (hd_f K hq hf)
theorem q_opf {b : Int32} (K : x_mf g n m σ τ k e) (hq : x_QF g n m σ Q k e) (hf : 0 < fu) (h4 : 0 < f4) : x_op f4 fu Q b τ := by
  obtain ⟨f4', rfl⟩ : ∃ f4', f4 = f4' + 1 := ⟨f4 - 1, by omega⟩
  refine x_nx fun R kL kR => ?_
  unfold f_Mo_operand_60_L4
  dsimp only
  rw [if_neg (show ¬ (1 : Int32) = 0 by decide), s_bad K]
  dsimp only [Option.bind_some]
  rw [if_pos rfl]
  exact kL _ (pt_f K hq hf)
theorem l4_0 {b : Int32} (h : x_pt fu Q τ) (h4 : 0 < f4) : x_ens (x_it f_Mo_operand_60_L4 f4 (b, (0 : Int32), τ)) (fun b => x_pt fu Q b.2.2) := by
  obtain ⟨f4', rfl⟩ : ∃ f4', f4 = f4' + 1 := ⟨f4 - 1, by omega⟩
  refine x_nx fun R kL kR => ?_
  unfold f_Mo_operand_60_L4
  dsimp only
  rw [if_pos rfl]
  exact kL _ h
theorem j7_f (K : x_mf g n m σ τ k e) (hq : x_QF g n m σ Q k e) (hf : 0 < fu) (h4 : 0 < f4) : x_j7 f4 fu Q τ := by
  intro v2 R kL kR
  unfold f_Mo_operand_60_J75
  rw [s_bad K]
  dsimp only [Option.bind_some]
  rw [if_pos rfl]
  unfold f_Mo_operand_60_J95 f_Mo_operand_60_J96
  rw [if_pos rfl]
  exact kR _ (l4_0 (pt_f K hq hf) h4)
theorem q_op0 (K : x_ms g n m σ τ i W D P) (h : x_j7 f4 fu Q τ) : x_op (f4 + 1) fu Q 0 τ := by
  refine x_nx fun R kL kR => ?_
  unfold f_Mo_operand_60_L4
  dsimp only
  rw [if_neg (show ¬ (1 : Int32) = 0 by decide), s_good K]
  dsimp only [Option.bind_some]
  rw [if_neg (show ¬ (1 : Int32) = 0 by decide)]
  refine x_ens.bi (P := fun b => b.2 = τ) ?_ ?_
  · refine x_nx fun R kL kR => ?_
    unfold f_Mo_operand_60_L18
    dsimp only
    rw [s_good K]
    dsimp only [Option.bind_some]
    rw [if_neg (show ¬ (1 : Int32) = 0 by decide), if_pos rfl]
    exact kL _ rfl
  · intro b hb
    rw [hb]
    exact h 0 R kL kR
theorem s_nots (H : x_HM g n m σ) : ∀ (f c i fu : Nat) (τ : xS) (W : List Int32), x_ms g n m σ τ i W D P → c ≤ 6 → m + 1 ≤ f + i → m + 1 < fu + i → x_ens (x_it (f_Mo_operand_60_L18 1) fu (Int32.ofNat c, τ)) (fun b => match rd_nots (tk_i g n) m f c i with
    | .inl s => i ≤ s.2 ∧ c ≤ s.1 ∧ x_ms g n m σ b.2 s.2 (List.replicate (s.1 - c) 3 ++ W) D P
    | .inr e => x_mf g n m σ b.2 e.1 e.2)
  | f, c, i, 0, τ, W, K, _, h1, h2 => by have := K.2.2.2.1; omega
  | 0, c, i, fu + 1, τ, W, K, _, h1, _ => by have := K.2.2.2.1; omega
  | f + 1, c, i, fu + 1, τ, W, K, hc, h1, h2 => by
    have hi := K.2.2.2.1
    refine x_nx fun R kL kR => ?_
    have hk : f_Mo_knownWord_60 τ = some (x_kw (tk_i g n) i, τ) := s_known H K
    unfold f_Mo_operand_60_L18
    dsimp only
    rw [s_good K]
    dsimp only [Option.bind_some]
    rw [if_neg (show ¬ (1 : Int32) = 0 by decide), if_neg (show ¬ (1 : Int32) = 0 by decide), hk]
    dsimp only [Option.bind_some]
    by_cases hw : tk_wd (tk_i g n) i = 17
    · have hl : i < m := H.lt hi (by intro x; unfold tk_wd at hw; rw [if_neg (by rw [x]; decide)] at hw; omega)
      rw [if_pos (kw_is.2.2.mpr hw)]
      by_cases h6 : c < 6
      · rw [if_neg (show ¬ Int32.ofNat c = 6 from fun x => by have := (i_ej (k := 6) (by omega) (by omega)).mp x; omega)]
        unfold f_Mo_operand_60_J50
        dsimp only
        rw [s_good K]
        dsimp only [Option.bind_some]
        rw [if_neg (show ¬ (1 : Int32) = 0 by decide)]
        refine K.pg H hl ?_
        intro q hq
        refine kR _ ?_
        rw [i_s]
        refine (s_nots H f (c + 1) (i + 1) fu q.2 (3 :: W) hq (by omega) (by omega) (by omega)).im ?_
        intro b hb
        have er : rd_nots (tk_i g n) m (f + 1) c i = rd_nots (tk_i g n) m f (c + 1) (i + 1) := by
          rw [rd_nots, if_pos hw, if_pos h6, tk_ad_lt hl]
        rw [er]
        revert hb
        cases rd_nots (tk_i g n) m f (c + 1) (i + 1) with
        | inr e => exact fun x => x
        | inl s =>
          rintro ⟨a1, a2, a3⟩
          refine ⟨by omega, by omega, ?_⟩
          rw [show s.1 - c = (s.1 - (c + 1)) + 1 by omega, List.replicate_succ', List.append_assoc]
          exact a3
      · rw [if_pos (show Int32.ofNat c = 6 by rw [show c = 6 by omega]; rfl)]
        have er : rd_nots (tk_i g n) m (f + 1) c i = .inr (2, i) := by rw [rd_nots, if_pos hw, if_neg h6]
        refine x_ens.bi (s_wrong H K (k := 2) (by decide)) ?_
        rintro q ⟨hq, -⟩
        unfold f_Mo_operand_60_J50
        dsimp only
        rw [s_bad hq]
        dsimp only [Option.bind_some]
        rw [if_pos rfl]
        refine kR _ ?_
        obtain ⟨fu', rfl⟩ : ∃ fu', fu = fu' + 1 := ⟨fu - 1, by omega⟩
        refine x_nx fun R kL kR => ?_
        unfold f_Mo_operand_60_L18
        dsimp only
        rw [s_bad hq]
        dsimp only [Option.bind_some]
        rw [if_pos rfl]
        exact kL _ (by rw [er]; exact hq)
    · rw [if_neg (fun x => hw (kw_is.2.2.mp x))]
      refine kL _ ?_
      rw [rd_nots, if_neg hw]
      refine ⟨Nat.le_refl _, Nat.le_refl _, ?_⟩
      rw [Nat.sub_self]; exact K
theorem q_op1 (H : x_HM g n m σ) (K : x_ms g n m σ τ i W D P) (h4 : 0 < f4) (hfu : 0 < fu) (h : match rd_nots (tk_i g n) m (m + 1) 0 i with
    | .inl s => i ≤ s.2 → ∀ τ, x_ms g n m σ τ s.2 (List.replicate s.1 3 ++ W) D P → x_j7 f4 fu Q τ
    | .inr e => x_QF g n m σ Q e.1 e.2) : x_op (f4 + 1) fu Q 1 τ := by
  have := H.1
  have := H.2.1
  refine x_nx fun R kL kR => ?_
  unfold f_Mo_operand_60_L4
  dsimp only
  rw [if_neg (show ¬ (1 : Int32) = 0 by decide), s_good K]
  dsimp only [Option.bind_some]
  rw [if_neg (show ¬ (1 : Int32) = 0 by decide)]
  refine x_ens.bi (s_nots H (m + 1) 0 i 10000 τ W K (by omega) (by omega) (by omega)) ?_
  intro b hb
  revert h hb
  cases rd_nots (tk_i g n) m (m + 1) 0 i with
  | inr e => intro h hb; exact j7_f hb h hfu h4 1 R kL kR
  | inl s => rintro h ⟨a1, -, a3⟩; exact h a1 _ a3 1 R kL kR
end MH
