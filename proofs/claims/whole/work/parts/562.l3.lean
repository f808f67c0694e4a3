def x_d3 (τ υ : xS) : Prop := ∃ k : Nat, k ≤ 6 ∧ τ.1 21 8 = Int32.ofNat k ∧ υ.1 60 30 = Int32.ofNat k ∧ ∀ j, j < k → υ.1 73 j = τ.1 26 (6 + j) ∧ (12 ≤ τ.1 26 (6 + j) ∧ τ.1 26 (6 + j) ≤ 480)
theorem x_d3.fr {W V : List (Nat × Nat)} {τ τ' υ υ' : xS} (h : x_d3 τ υ) (f : x_fr W τ τ') (f' : x_fr V υ υ') (h8 : x_in W 21 8 = false) (h26 : ∀ j, j < 6 → x_in W 26 (6 + j) = false) (k30 : x_in V 60 30 = false) (k73 : (V.all fun w => w.1 != 73) = true) : x_d3 τ' υ' := by
  obtain ⟨k, a, b, d, e⟩ := h
  refine ⟨k, a, (f.ck 21 8 h8).trans b, (f'.ck 60 30 k30).trans d, fun j hj => ?_⟩
  rw [f'.ce 73 k73, f.ck 26 (6 + j) (h26 j (by omega))]
  exact e j hj
theorem i_nr {a v : Int32} (h1 : 12 ≤ a ∧ a ≤ 480) (h2 : 12 ≤ v ∧ v ≤ 480) : (0 < (if 0 ≤ a - v then a - v else 0 - (a - v))) ↔ ¬ a = v := by
  constructor
  · intro h e; subst e; grind
  · intro h; grind
theorem c_near {τ : xS} {k : Nat} {v : Int32} (hk : k ≤ 6) (hv : 12 ≤ v ∧ v ≤ 480) (h : ∀ j, j < k → 12 ≤ τ.1 26 (6 + j) ∧ τ.1 26 (6 + j) ≤ 480) : ∀ (f j fu : Nat), j + f = k → f < fu → x_ens (x_it (f_RH_isNearMark_26_L4 (Int32.ofNat k) v 0) fu (Int32.ofNat (6 + j), τ)) (fun b => ((∃ j', j ≤ j' ∧ j' < k ∧ τ.1 26 (6 + j') = v) ∧ b = .inl (1, τ)) ∨ ((∀ j', j ≤ j' → j' < k → ¬ τ.1 26 (6 + j') = v) ∧ ∃ u, b = .inr (u, τ)))
  | f, j, 0, _, h2 => by omega
  | 0, j, fu + 1, h1, h2 => by
    refine x_nx fun R kL kR => ?_
    unfold f_RH_isNearMark_26_L4
    dsimp only
    rw [i_6, if_pos ((i_le (by omega) (by omega)).mpr (by omega))]
    exact kL _ (Or.inr ⟨fun j' a b => by omega, _, rfl⟩)
  | f + 1, j, fu + 1, h1, h2 => by
    refine x_nx fun R kL kR => ?_
    unfold f_RH_isNearMark_26_L4
    dsimp only
    rw [i_6, if_neg (by rw [i_le (by omega) (by omega)]; omega), if_neg (by rw [i_le (by omega) (by omega)]; omega), i_cl (by omega)]
    refine x_ens.gr (by rintro (h | h) <;> first | exact i_ge (by omega) h | omega | (rw [i_cl (by omega)] at h; omega)) ?_
    by_cases e : τ.1 26 (6 + j) = v
    · rw [if_neg (fun x => (i_nr (h j (by omega)) hv).mp x e)]
      exact kL _ (Or.inl ⟨⟨j, by omega, by omega, e⟩, rfl⟩)
    · rw [if_pos ((i_nr (h j (by omega)) hv).mpr e), i_s]
      refine kR _ ((c_near hk hv h f (j + 1) fu (by omega) (by omega)).im ?_)
      rintro b (⟨⟨j', a1, a2, a3⟩, hb⟩ | ⟨a, hb⟩)
      · exact Or.inl ⟨⟨j', by omega, a2, a3⟩, hb⟩
      · refine Or.inr ⟨fun j' a1 a2 => ?_, hb⟩
        by_cases ej : j' = j
        · subst ej; exact e
        · exact a j' (by omega) a2
section LV4
variable {g : Nat → Int32} {n m i : Nat} {c : List Int32} {τ υ : xS}
theorem m_near {k : Nat} {v : Int32} (hk : k ≤ 6) (K : x_mh g n m υ i) (e30 : υ.1 60 30 = Int32.ofNat k) (e24 : υ.1 60 24 = v) : ∀ (f j fu : Nat), j + f = k → f + 1 < fu → x_ens (x_it f_Mo_readsMark_60_L41 fu (Int32.ofNat j, υ)) (fun b => ((∃ j', j ≤ j' ∧ j' < k ∧ υ.1 73 j' = v) ∧ x_bad g n b.2 4 i) ∨ ((∀ j', j ≤ j' → j' < k → ¬ υ.1 73 j' = v) ∧ b.2 = υ))
  | f, j, 0, _, h2 => by omega
  | 0, j, fu + 1, h1, h2 => by
    refine x_nx fun R kL kR => ?_
    unfold f_Mo_readsMark_60_L41
    dsimp only
    rw [e30, if_pos ((i_le (by omega) (by omega)).mpr (by omega))]
    exact kL _ (Or.inr ⟨fun j' a b => by omega, rfl⟩)
  | f + 1, j, fu + 1, h1, h2 => by
    refine x_nx fun R kL kR => ?_
    unfold f_Mo_readsMark_60_L41
    dsimp only
    rw [e30, if_neg (by rw [i_le (by omega) (by omega)]; omega), K.good]
    dsimp only [Option.bind_some]
    rw [if_neg (show ¬ (1 : Int32) = 0 by decide), i_cl (by omega)]
    refine x_ens.gr (by rintro (h | h) <;> first | exact i_ge (by omega) h | omega | (rw [i_cl (by omega)] at h; omega)) ?_
    rw [e24]
    by_cases e : υ.1 73 j = v
    · rw [if_pos e]
      refine x_ens.bi (l_wrong K (k := 4) (by decide)) ?_
      rintro q ⟨hq, -⟩
      refine kR _ ?_
      obtain ⟨fu', rfl⟩ : ∃ fu', fu = fu' + 1 := ⟨fu - 1, by omega⟩
      refine x_nx fun R kL kR => ?_
      have fin : ∀ w : Int32, x_ens (some (.inl (w, q.2))) R := fun w => kL _ (Or.inl ⟨⟨j, by omega, by omega, e⟩, hq⟩)
      unfold f_Mo_readsMark_60_L41
      dsimp only
      refine x_ens.it (fun _ => fin _) (fun _ => ?_)
      rw [hq.good]
      dsimp only [Option.bind_some]
      rw [if_pos rfl]
      exact fin _
    · rw [if_neg e, i_s]
      refine kR _ ((m_near hk K e30 e24 f (j + 1) fu (by omega) (by omega)).im ?_)
      rintro b (⟨⟨j', a1, a2, a3⟩, hb⟩ | ⟨a, hb⟩)
      · exact Or.inl ⟨⟨j', by omega, a2, a3⟩, hb⟩
      · refine Or.inr ⟨fun j' a1 a2 => ?_, hb⟩
        by_cases ej : j' = j
        · subst ej; exact e
        · exact a j' (by omega) a2
end LV4
