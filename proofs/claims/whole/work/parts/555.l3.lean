section MX
variable {g : Nat → Int32} {n m : Nat} {σ τ : xS} {i : Nat} {P : List Int32} {rule lo hi : Int32}
def x_ff (σ τ : xS) (k p : Int32) (b : Nat) : Prop := x_fr x_WE σ τ ∧ τ.1 60 16 = k ∧ τ.1 60 17 = p ∧ τ.1 60 40 = Int32.ofNat b
theorem x_ff.put {k p v : Int32} {b : Nat} (h : x_ff σ τ k p b) (hb : b < 4200) : x_ens (f_Mo_puts_60 v τ) (fun q => x_ff σ q.2 k p (b + 1) ∧ q.2.1 60 41 = τ.1 60 41) := by
  obtain ⟨f, h1, h2, h3⟩ := h
  unfold f_Mo_puts_60
  have e : (x_pI τ 76 b v).1 60 40 = Int32.ofNat b := by rw [y_pI_ne (by omega)]; exact h3
  rw [h3, i_cl (by omega)]
  refine x_ens.gr (by rintro (h | h) <;> first | exact i_ge (by omega) h | omega | (rw [i_cl (by omega)] at h; omega)) ?_
  dsimp only
  rw [e, i_s]
  refine x_ens.so ⟨⟨x_frI (p := 60) (k := 40) rfl (x_frI (p := 76) rfl f), ?_, ?_, x_pI_kk⟩, ?_⟩
  · rw [x_pI_kn (by omega), y_pI_ne (by omega)]; exact h1
  · rw [x_pI_kn (by omega), y_pI_ne (by omega)]; exact h2
  · dsimp only; rw [x_pI_kn (by omega), y_pI_ne (by omega)]
theorem x_ff.dr {k p : Int32} : ∀ (fu a b : Nat) (τ : xS), x_ff σ τ k p b → τ.1 60 41 = Int32.ofNat a → a ≤ 710 → a + b ≤ 2300 → a < fu → x_ens (x_it (f_Mo_drops_60_L0 0) fu τ) (fun υ => ∃ b', b' ≤ 2300 ∧ x_ff σ υ k p b')
  | 0, a, b, τ, h, e, h1, h2, h3 => by omega
  | fu + 1, 0, b, τ, h, e, h1, h2, h3 => by
    refine x_nx fun R kL kR => ?_
    unfold f_Mo_drops_60_L0
    dsimp only
    rw [e, if_pos (show Int32.ofNat 0 ≤ 0 by decide)]
    exact kL _ ⟨b, by omega, h⟩
  | fu + 1, a + 1, b, τ, h, e, h1, h2, h3 => by
    refine x_nx fun R kL kR => ?_
    unfold f_Mo_drops_60_L0
    dsimp only
    rw [e, if_neg (by rw [← i_z, i_le (by omega) (by omega)]; omega), i_m1', i_cl (by omega)]
    refine x_ens.gr (by rintro (h | h) <;> first | exact i_ge (by omega) h | omega | (rw [i_cl (by omega)] at h; omega)) ?_
    rw [e_open]
    dsimp only [Option.bind_some]
    refine x_ens.it (fun _ => ?_) (fun _ => kL _ ⟨b, by omega, h⟩)
    rw [e, i_m1', i_cl (by omega)]
    refine x_ens.gr (by rintro (h | h) <;> first | exact i_ge (by omega) h | omega | (rw [i_cl (by omega)] at h; omega)) ?_
    rw [e_st]
    dsimp only [Option.bind_some]
    refine x_ens.it (fun _ => kL _ ⟨b, by omega, h⟩) (fun _ => ?_)
    rw [e, i_m1', x_pI_kk, i_cl (by omega)]
    refine x_ens.gr (by rintro (h | h) <;> first | exact i_ge (by omega) h | omega | (rw [i_cl (by omega)] at h; omega)) ?_
    have h' : x_ff σ (x_pI τ 60 41 (Int32.ofNat a)) k p b := by
      obtain ⟨f, g1, g2, g3⟩ := h
      exact ⟨x_frI (p := 60) (k := 41) rfl f, by rw [x_pI_kn (by omega)]; exact g1, by rw [x_pI_kn (by omega)]; exact g2, by rw [x_pI_kn (by omega)]; exact g3⟩
    refine x_ens.bi (h'.put (by omega)) ?_
    rintro q ⟨hq, eq⟩
    rw [x_pI_kk] at eq
    exact kR _ (x_ff.dr fu a (b + 1) q.2 hq eq (by omega) (by omega) (by omega))
theorem s_end_f {k : Int32} {e : Nat} (K : x_mf g n m σ τ k e) : x_ens ((f_Mo_drops_60 0 τ).bind fun q41 => (f_Mo_puts_60 0 q41.2).bind fun q42 => some ((), q42.2)) (fun q => x_fr x_WE σ q.2 ∧ q.2.1 60 16 = k ∧ q.2.1 60 17 = Int32.ofNat (tk_i g n e).2.2.1) := by
  obtain ⟨f, -, h16, h17, a, b, ea, ha, eb, hb⟩ := K
  unfold f_Mo_drops_60
  refine x_ens.bi (P := fun q => ∃ b', b' ≤ 2300 ∧ x_ff σ q.2 k (Int32.ofNat (tk_i g n e).2.2.1) b') ?_ ?_
  · refine x_ens.bi (x_ff.dr 10000 a b τ ⟨f, h16, h17, eb⟩ ea ha (by omega) (by omega)) ?_
    intro υ hυ
    exact x_ens.so hυ
  · rintro q ⟨b', hb', hq⟩
    refine x_ens.bi (hq.put (by omega)) ?_
    rintro q2 ⟨⟨z1, z2, z3, -⟩, -⟩
    exact x_ens.so ⟨z1, z2, z3⟩
theorem s_run {α : Type} {Q : Int32 × xS → Prop} {fu : Nat} {b : Int32} {k : Int32 × xS → Option α} {R : α → Prop} (h : x_op 10000 fu Q b τ) (hk : ∀ b, Q b → x_ens (k b) R) : x_ens ((f_Mo_operand_60 b τ).bind fun q => (x_it f_Mo_expression_60_L39 fu ((1 : Int32), q.2)).bind k) R := by
  unfold f_Mo_operand_60
  refine x_ens.bi (P := fun q => x_hd fu Q q.2) ?_ ?_
  · refine x_ens.bi h ?_
    intro b hb
    refine x_ens.bi hb ?_
    intro q hq
    exact x_ens.so hq
  · intro q hq
    exact x_ens.bi hq hk
theorem m_expr (H : x_HM g n m σ) (e16 : σ.1 60 16 = 0) (ht : x_mt g n σ (tk_i g n i)) (hi' : i ≤ m) (hp : x_li (σ.1 60 40) (σ.1 76) P) (hb : P.length ≤ 2 * i + 20) (hr : x_ru rule lo hi) : x_ens (f_Mo_expression_60 lo hi σ) (fun q => x_fr ((60, 38) :: (60, 39) :: x_WE) σ q.2 ∧ match rd_expr (tk_i g n) m rule 8 0 i with
    | .inl s => i ≤ s.1 ∧ s.1 ≤ m ∧ q.2.1 60 16 = 0 ∧ x_mt g n q.2 (tk_i g n s.1) ∧ x_li (q.2.1 60 40) (q.2.1 76) (P ++ (s.2.1 ++ s.2.2).flatMap sp_wr ++ [0])
    | .inr e => ¬ e.1 = 0 ∧ q.2.1 60 16 = e.1 ∧ q.2.1 60 17 = Int32.ofNat (tk_i g n e.2).2.2.1) := by
  have hm7 := H.1
  have hmn := H.2.1
  unfold f_Mo_expression_60
  rw [show f_Mo_isGood_60 σ = some (1, σ) by unfold f_Mo_isGood_60; rw [if_pos e16]]
  dsimp only [Option.bind_some]
  rw [if_neg (show ¬ (1 : Int32) = 0 by decide)]
  have f0 : x_fr ((60, 38) :: (60, 39) :: x_WE) σ (x_pI (x_pI (x_pI (x_pI σ 60 38 lo) 60 39 hi) 60 41 0) 60 42 0) := x_frI (p := 60) (k := 42) rfl (x_frI (p := 60) (k := 41) rfl (x_frI (p := 60) (k := 39) rfl (x_frI (p := 60) (k := 38) rfl x_fr.rf)))
  have k38 : (x_pI (x_pI (x_pI (x_pI σ 60 38 lo) 60 39 hi) 60 41 0) 60 42 0).1 60 38 = lo := by rw [x_pI_kn (by omega), x_pI_kn (by omega), x_pI_kn (by omega), x_pI_kk]
  have k39 : (x_pI (x_pI (x_pI (x_pI σ 60 38 lo) 60 39 hi) 60 41 0) 60 42 0).1 60 39 = hi := by rw [x_pI_kn (by omega), x_pI_kn (by omega), x_pI_kk]
  have k41 : (x_pI (x_pI (x_pI (x_pI σ 60 38 lo) 60 39 hi) 60 41 0) 60 42 0).1 60 41 = 0 := by rw [x_pI_kn (by omega), x_pI_kk]
  have k42 : (x_pI (x_pI (x_pI (x_pI σ 60 38 lo) 60 39 hi) 60 41 0) 60 42 0).1 60 42 = 0 := x_pI_kk
  have kk : ∀ k, k ≠ 38 → k ≠ 39 → k ≠ 41 → k ≠ 42 → (x_pI (x_pI (x_pI (x_pI σ 60 38 lo) 60 39 hi) 60 41 0) 60 42 0).1 60 k = σ.1 60 k := fun k a b c d => by rw [x_pI_kn d, x_pI_kn c, x_pI_kn b, x_pI_kn a]
  have kr : ∀ p, p ≠ 60 → (x_pI (x_pI (x_pI (x_pI σ 60 38 lo) 60 39 hi) 60 41 0) 60 42 0).1 p = σ.1 p := fun p h => by rw [y_pI_ne h, y_pI_ne h, y_pI_ne h, y_pI_ne h]
  have k2 : (x_pI (x_pI (x_pI (x_pI σ 60 38 lo) 60 39 hi) 60 41 0) 60 42 0).2 60 26 = σ.2 60 26 := rfl
  generalize x_pI (x_pI (x_pI (x_pI σ 60 38 lo) 60 39 hi) 60 41 0) 60 42 0 = ρ at f0 k38 k39 k41 k42 kk kr k2 ⊢
  have HR : x_HM g n m ρ := ⟨H.1, H.2.1, H.2.2.1, H.2.2.2.1, (kk 19 (by omega) (by omega) (by omega) (by omega)).trans H.2.2.2.2.1, by rw [kr 67 (by omega)]; exact H.2.2.2.2.2⟩
  have K0 : x_ms g n m ρ ρ i [] [] P := by
    refine ⟨x_fr.rf, (kk 16 (by omega) (by omega) (by omega) (by omega)).trans e16, ?_, hi', ⟨k41, fun j hj => by cases hj⟩, ⟨k42, fun j hj => by cases hj⟩, ?_, Nat.zero_le _, Nat.zero_le _, by show P.length + 0 ≤ _; omega⟩
    · unfold x_mt
      rw [kk 20 (by omega) (by omega) (by omega) (by omega), kk 21 (by omega) (by omega) (by omega) (by omega), kk 22 (by omega) (by omega) (by omega) (by omega), kk 23 (by omega) (by omega) (by omega) (by omega), kk 24 (by omega) (by omega) (by omega) (by omega), kk 25 (by omega) (by omega) (by omega) (by omega), k2]
      exact ht
    · rw [kk 40 (by omega) (by omega) (by omega) (by omega), kr 76 (by omega)]; exact hp
  refine x_ens.bi (s_deep HR K0) ?_
  intro q1 K1
  rw [if_pos (show ([] : List Int32).length < 6 by decide)] at K1
  have hru : x_ru rule (ρ.1 60 38) (ρ.1 60 39) := by rw [k38, k39]; exact hr
  have hfr : ∀ {υ : xS}, x_fr x_WE ρ υ → x_fr ((60, 38) :: (60, 39) :: x_WE) σ υ := fun h => x_fr.trans f0 (x_fr.su h rfl)
  have main := q_expr HR hru 8 0 (by omega) (by omega) i [] 0 [] P q1.2 10000 9999 (fun b => x_ens (f_Mo_expression_60_J340 b.2) (fun q => x_fr ((60, 38) :: (60, 39) :: x_WE) σ q.2 ∧ match rd_expr (tk_i g n) m rule 8 0 i with
    | .inl s => i ≤ s.1 ∧ s.1 ≤ m ∧ q.2.1 60 16 = 0 ∧ x_mt g n q.2 (tk_i g n s.1) ∧ x_li (q.2.1 60 40) (q.2.1 76) (P ++ (s.2.1 ++ s.2.2).flatMap sp_wr ++ [0])
    | .inr e => ¬ e.1 = 0 ∧ q.2.1 60 16 = e.1 ∧ q.2.1 60 17 = Int32.ofNat (tk_i g n e.2).2.2.1)) rfl K1 (Or.inl rfl) (by omega) (by omega) rfl ?_
  · exact s_run main (fun b hb => hb)
  · cases rd_expr (tk_i g n) m rule 8 0 i with
    | inr e =>
      refine ⟨fun υ v K => ?_, fun ek υ v W D P' K hD => ?_⟩
      · dsimp only
        unfold f_Mo_expression_60_J340
        rw [s_bad K]
        dsimp only [Option.bind_some]
        rw [if_pos rfl]
        refine (s_end_f K).im ?_
        rintro q ⟨a, b, c⟩
        exact ⟨hfr a, K.2.1, b, c⟩
      · dsimp only
        unfold f_Mo_expression_60_J340
        rw [s_good K]
        dsimp only [Option.bind_some]
        have d42 := K.2.2.2.2.2.1.1
        have d6 := K.2.2.2.2.2.2.2.2.1
        rw [if_neg (show ¬ (1 : Int32) = 0 by decide), d42, if_neg (show ¬ Int32.ofNat D.length ≤ 1 from fun x => by have := (i_le (k := 1) (by omega) (by omega)).mp x; omega)]
        refine x_ens.bi (s_wrong HR K (k := 1) (by decide)) ?_
        rintro q ⟨hq, -⟩
        refine (s_end_f hq).im ?_
        rintro q2 ⟨a, b, c⟩
        exact ⟨hfr a, by rw [ek]; decide, by rw [ek]; exact b, c⟩
    | inl s =>
      intro i1 w1 fu2 τ2 t2 K2 E2 f2
      have hs := K2.2.2.2.1
      obtain ⟨fu3, rfl⟩ : ∃ fu3, fu2 = fu3 + 2 := ⟨fu2 - 2, by omega⟩
      refine hd_no HR E2 (Or.inr ?_) K2 ?_
      · intro a ha
        rw [List.append_nil] at ha
        exact (wo_all w1 a ha).1
      · dsimp only
        unfold f_Mo_expression_60_J340
        rw [s_good K2]
        dsimp only [Option.bind_some]
        have d42 := K2.2.2.2.2.2.1.1
        rw [if_neg (show ¬ (1 : Int32) = 0 by decide), d42, if_pos (show Int32.ofNat [t2].length ≤ 1 by show Int32.ofNat 1 ≤ 1; decide)]
        refine x_ens.bi (s_drop HR (l := 0) (Or.inl rfl) (fun a ha => ⟨(wo_all w1 a ha).1, fun x => (wo_all w1 a ha).2 (by grind)⟩) K2) ?_
        intro q3 K3
        obtain ⟨f, h16, ht3, hi3, hw3, hd3, hp3, b1, b2, b3⟩ := K3
        have b3' : (P ++ s.2.1.flatMap sp_wr ++ s.2.2.map sp_om).length + 2 * 0 ≤ 2 * s.1 + 20 := b3
        refine x_ens.bi (s_puts (v := 0) hp3 (by omega)) ?_
        rintro q4 ⟨p4, f4⟩
        refine x_ens.so ⟨hfr (x_fr.trans f (x_fr.su f4 rfl)), i1, hs, by rw [f4.ck 60 16 rfl]; exact h16, ?_, ?_⟩
        · unfold x_mt
          rw [f4.ck 60 20 rfl, f4.ck 60 21 rfl, f4.ck 60 22 rfl, f4.ck 60 23 rfl, f4.ck 60 24 rfl, f4.ck 60 25 rfl, f4.2 60 26 rfl]
          exact ht3
        · rw [List.flatMap_append, wr_ops w1, ← List.append_assoc]
          exact p4
end MX
