def x_ro (g : Nat → Int32) (n m : Nat) (b : (Int32 × xS) ⊕ (Int32 × xS)) (υ : xS) : Prop :=
  (∃ r k e, b = .inl r ∧ r.1 = 0 ∧ r.2.1 2 6 = k ∧ r.2.1 2 7 = Int32.ofNat (tk_i g n e).2.2.1 ∧ x_bad g n υ k e) ∨ ∃ r c P, b = .inr r ∧ x_DR g n m m c P r.2 υ
section LL
variable {g : Nat → Int32} {n m i : Nat} {c P : List Int32} {τ υ : xS}
theorem lb_loop {k : Int32} {e fu : Nat} {Q : xS → Prop} (h : x_bad g n υ k e) (hQ : Q υ) : x_ens (x_it f_Mo_scene_60_L115 (fu + 1) υ) Q := by
  refine x_nx fun P kL kR => ?_
  unfold f_Mo_scene_60_L115
  dsimp only
  rw [h.good]
  dsimp only [Option.bind_some]
  rw [if_pos rfl]
  exact kL _ hQ
theorem le_loop {fu : Nat} {Q : xS → Prop} (h : x_mh g n m υ m) (hQ : Q υ) : x_ens (x_it f_Mo_scene_60_L115 (fu + 1) υ) Q := by
  refine x_nx fun P kL kR => ?_
  unfold f_Mo_scene_60_L115
  dsimp only
  rw [h.good]
  dsimp only [Option.bind_some]
  rw [if_neg (show ¬ (1 : Int32) = 0 by decide), if_pos (by rw [h.2.2.1.2.1, h.1.2.2.1])]
  exact kL _ hQ
theorem ln_loop {fu : Nat} {Q : xS → Prop} (h : x_mh g n m υ i) (hi : i < m) {qm : Unit × xS} (em : f_Mo_line_60 υ = some qm) (hQ : x_ens (x_it f_Mo_scene_60_L115 fu qm.2) Q) : x_ens (x_it f_Mo_scene_60_L115 (fu + 1) υ) Q := by
  refine x_nx fun P kL kR => ?_
  unfold f_Mo_scene_60_L115
  dsimp only
  rw [h.good]
  dsimp only [Option.bind_some]
  rw [if_neg (show ¬ (1 : Int32) = 0 by decide), if_neg (by rw [h.2.2.1.2.1]; exact h.1.2.2.2.1 i hi), em]
  exact kR _ hQ
theorem t_loop : ∀ (d i u fu fu' : Nat) (c P : List Int32) (τ υ : xS), i + d = m → d < fu → d < fu' → u ≤ i → x_DR g n m i c P τ υ → x_ens (x_it f_Re_read_2_1_21_L72 fu (Int32.ofNat u, τ)) (fun b => x_ens (x_it f_Mo_scene_60_L115 fu' υ) (fun υ' => x_ro g n m b υ')) := by
  intro d
  induction d using Nat.strongRecOn with
  | ind d ih =>
    intro i u fu fu' c P τ υ h1 h2 h3 h4 D
    obtain ⟨fu, rfl⟩ : ∃ x, fu = x + 1 := ⟨fu - 1, by omega⟩
    obtain ⟨fu', rfl⟩ : ∃ x, fu' = x + 1 := ⟨fu' - 1, by omega⟩
    have h := D.1
    have k := D.2.1
    have hm := h.1.1
    refine x_nx fun Q kL kR => ?_
    unfold f_Re_read_2_1_21_L72
    dsimp only
    rw [h.1.2.2.2.2.1, if_neg (show ¬ Int32.ofNat (m + 1) ≤ Int32.ofNat u by rw [i_le (by omega) (by omega)]; omega), r_kind h.1 h.2]
    dsimp only [Option.bind_some]
    by_cases hi : i < m
    · rw [if_neg (h.1.2.2.1 i hi), if_pos rfl]
      obtain ⟨qc, ec, qm, em, ho⟩ := t_line D hi
      rw [ec]
      dsimp only [Option.bind_some]
      rcases ho with ⟨q0, kk, e, q6, q7, hb⟩ | ⟨q1, i', c', P', hi', D'⟩
      · rw [if_pos q0]
        refine kL _ (ln_loop k hi em ?_)
        obtain ⟨fu2, rfl⟩ : ∃ x, fu' = x + 1 := ⟨fu' - 1, by omega⟩
        exact lb_loop hb (Or.inl ⟨(0, qc.2), kk, e, rfl, rfl, q6, q7, hb⟩)
      · rw [if_neg (by rw [q1]; decide), i_s]
        refine kR _ ?_
        have hi2 : i' ≤ m := D'.2.1.2.2.2
        obtain ⟨b, eb, x, ex, hx⟩ := ih (m - i') (by omega) i' (u + 1) fu fu' c' P' qc.2 qm.2 (by omega) (by omega) (by omega) (by omega) D'
        exact ⟨b, eb, ln_loop k hi em ⟨x, ex, hx⟩⟩
    · obtain rfl : i = m := by omega
      rw [if_pos h.1.2.1, if_neg (show ¬ (1 : Int32) = 0 by decide)]
      exact kL _ (le_loop k (Or.inr ⟨(Int32.ofNat u, τ), c, P, rfl, D⟩))
theorem t_from (h : x_kh (tk_i g n) m τ i c) (k : x_mh g n m υ i) (hi : i < m) : x_ens (f_Re_readFrom_2_21 τ) (fun qc => x_ens ((f_Mo_goes_60 υ).bind fun q42 => (f_Mo_number_60 12 480 q42.2).bind fun q43 => l_fin (x_pI q43.2 60 27 q43.1)) (fun qm => x_rs g n m i c (fun τ' υ' => τ'.1 21 0 = υ'.1 60 27 ∧ 12 ≤ τ'.1 21 0 ∧ τ'.1 21 0 ≤ 480) qc qm.2)) := by
  unfold f_Re_readFrom_2_21
  obtain ⟨qg, eg, g1, g2⟩ := l_go k
  rw [eg]
  dsimp only [Option.bind_some]
  rw [tk_ad_lt hi] at g1
  refine x_ens.bi (k_adv h) ?_
  rintro qa ⟨a1, a2⟩
  rw [tk_ad_lt hi] at a1
  obtain ⟨qn, en, n1, n2⟩ := l_num (lo := 12) (hi := 480) (by decide) g1
  rw [en]
  dsimp only [Option.bind_some]
  refine k_nt (z := fun q => some ((0 : Int32), q)) a1 ?_ ?_
  · intro h2 hlo hhi q q1 q2 q3
    unfold x_nr at n2
    rw [if_pos h2, if_pos ⟨hlo, hhi⟩] at n2
    have hle := tk_ad_b (m := m) (i := i + 1) (by omega)
    refine x_ens.bi (rs_end (i0 := i) (D := fun τ' υ' => τ'.1 21 0 = υ'.1 60 27 ∧ 12 ≤ τ'.1 21 0 ∧ τ'.1 21 0 ≤ 480) (q2.fr (W := [(21, 0)]) (x_frI (p := 21) (k := 0) (v := q.1) rfl x_fr.rf) rfl rfl rfl rfl rfl rfl rfl) (n2.2.fr (W := [(60, 27)]) (x_frI (p := 60) (k := 27) (v := qn.1) rfl x_fr.rf) rfl rfl rfl rfl rfl rfl rfl rfl rfl rfl) (by omega) ?_) ?_
    · intro τ' υ' f1 f2
      rw [f1.ck 21 0 rfl, f2.ck 60 27 rfl, x_pI_kk, x_pI_kk, q1, n2.1]
      exact ⟨rfl, hlo, hhi⟩
    · rintro qc ⟨hb, hm⟩
      exact x_ens.ok hb (x_ens.so hm)
  · intro kk q hk h6 h7
    refine x_ens.so ?_
    have hb : x_bad g n qn.2 kk (i + 1) := by
      unfold x_nr at n2
      by_cases h2 : (tk_i g n (i + 1)).1 = 2
      · rw [if_pos h2] at n2 hk
        rw [if_neg hk.1] at n2
        rw [hk.2]; exact n2
      · rw [if_neg h2] at n2 hk
        rw [hk]; exact n2
    exact rs_bad rfl h6 h7 (hb.fr (W := [(60, 27)]) (x_frI (p := 60) (k := 27) (v := qn.1) rfl x_fr.rf) rfl rfl)
end LL
