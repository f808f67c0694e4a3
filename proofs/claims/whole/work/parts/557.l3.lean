abbrev x_WT : List (Nat × Nat) := [(60, 16), (60, 17), (60, 20), (60, 21), (60, 22), (60, 23), (60, 24), (60, 25), (60, 26)]
def x_mh (g : Nat → Int32) (n m : Nat) (υ : xS) (i : Nat) : Prop := x_HM g n m υ ∧ υ.1 60 16 = 0 ∧ x_mt g n υ (tk_i g n i) ∧ i ≤ m
def x_bad (g : Nat → Int32) (n : Nat) (υ : xS) (k : Int32) (e : Nat) : Prop := ¬ k = 0 ∧ υ.1 60 16 = k ∧ υ.1 60 17 = Int32.ofNat (tk_i g n e).2.2.1
def x_nr (g : Nat → Int32) (n : Nat) (lo hi : Int32) (i : Nat) (G : Prop) (F : Int32 → Prop) : Prop := if (tk_i g n i).1 = 2 then (if lo ≤ (tk_i g n i).2.1 ∧ (tk_i g n i).2.1 ≤ hi then G else F 2) else F 1
section LM
variable {g : Nat → Int32} {n m : Nat} {υ : xS} {i : Nat} {k : Int32} {e : Nat}
theorem x_mh.fr {W : List (Nat × Nat)} {υ' : xS} (h : x_mh g n m υ i) (f : x_fr W υ υ') (h67 : (W.all fun w => w.1 != 67) = true) (h1 : x_in W 60 16 = false) (h2 : x_in W 60 19 = false) (h3 : x_in W 60 20 = false) (h4 : x_in W 60 21 = false) (h5 : x_in W 60 22 = false) (h6 : x_in W 60 23 = false) (h7 : x_in W 60 24 = false) (h8 : x_in W 60 25 = false) (h9 : x_in W 60 26 = false) : x_mh g n m υ' i := by
  obtain ⟨H, a, b, c⟩ := h
  refine ⟨⟨H.1, H.2.1, H.2.2.1, H.2.2.2.1, (f.ck 60 19 h2).trans H.2.2.2.2.1, by rw [f.ce 67 h67]; exact H.2.2.2.2.2⟩, (f.ck 60 16 h1).trans a, ?_, c⟩
  unfold x_mt
  rw [f.ck 60 20 h3, f.ck 60 21 h4, f.ck 60 22 h5, f.ck 60 23 h6, f.ck 60 24 h7, f.ck 60 25 h8, f.2 60 26 h9]
  exact b
theorem x_bad.good (h : x_bad g n υ k e) : f_Mo_isGood_60 υ = some (0, υ) := by unfold f_Mo_isGood_60; rw [if_neg (by rw [h.2.1]; exact h.1)]
theorem x_bad.fr {W : List (Nat × Nat)} {υ' : xS} (h : x_bad g n υ k e) (f : x_fr W υ υ') (h1 : x_in W 60 16 = false) (h2 : x_in W 60 17 = false) : x_bad g n υ' k e := ⟨h.1, (f.ck 60 16 h1).trans h.2.1, (f.ck 60 17 h2).trans h.2.2⟩
theorem x_mh.good (h : x_mh g n m υ i) : f_Mo_isGood_60 υ = some (1, υ) := by unfold f_Mo_isGood_60; rw [if_pos h.2.1]
theorem l_go (h : x_mh g n m υ i) : x_ens (f_Mo_goes_60 υ) (fun q => x_mh g n m q.2 (tk_ad m i) ∧ x_fr x_WT υ q.2) := by
  obtain ⟨H, a, b, c⟩ := h
  refine (s_goes (τ := υ) H c x_fr.rf b.1).im ?_
  rintro q ⟨h1, f⟩
  exact ⟨⟨⟨H.1, H.2.1, H.2.2.1, H.2.2.2.1, (f.ck 60 19 rfl).trans H.2.2.2.2.1, by rw [f.ce 67 rfl]; exact H.2.2.2.2.2⟩, (f.ck 60 16 rfl).trans a, h1, (tk_ad_b c).1⟩, x_fr.su f rfl⟩
theorem l_wrong (h : x_mh g n m υ i) (hk : ¬ k = 0) : x_ens (f_Mo_wrong_60 k υ) (fun q => x_bad g n q.2 k i ∧ x_fr x_WT υ q.2) := by
  obtain ⟨H, a, b, c⟩ := h
  unfold f_Mo_wrong_60
  rw [if_pos a]
  dsimp only
  rw [x_pI_kn (show 22 ≠ 16 by omega), b.2.2.1]
  exact x_ens.so ⟨⟨hk, by rw [x_pI_kn (by omega)]; exact x_pI_kk, x_pI_kk⟩, x_frI (p := 60) (k := 17) rfl (x_frI (p := 60) (k := 16) rfl x_fr.rf)⟩
theorem l_kw (h : x_mh g n m υ i) : f_Mo_knownWord_60 υ = some (x_kw (tk_i g n) i, υ) := e_known h.2.2.1 (by have := (@tk_i_nx g n i).1; have := h.1.1; omega)
theorem l_sign (h : x_mh g n m υ i) (c : Int32) : f_Mo_isSign_60 c υ = some (if (tk_i g n i).1 = 3 ∧ (tk_i g n i).2.1 = c then 1 else 0, υ) := by
  obtain ⟨-, -, ⟨-, h21, -, -, -, h25, -⟩, -⟩ := h
  unfold f_Mo_isSign_60
  rw [h21]
  by_cases h : (tk_i g n i).1 = 3
  · rw [if_pos h, h25 h]
    by_cases h2 : (tk_i g n i).2.1 = c
    · rw [if_pos h2, if_pos ⟨h, h2⟩]
    · rw [if_neg h2, if_neg (fun x => h2 x.2)]
  · rw [if_neg h, if_neg (fun x => h x.1)]
theorem l_here {lo hi : Int32} (h0 : 0 ≤ lo) (h : x_mh g n m υ i) : x_ens (f_Mo_numberHere_60 lo hi υ) (fun q => x_nr g n lo hi i (q.1 = 1 ∧ q.2 = υ ∧ υ.1 60 24 = (tk_i g n i).2.1) (fun k => q.1 = 0 ∧ x_bad g n q.2 k i ∧ x_fr x_WT υ q.2)) := by
  obtain ⟨t20, t21, t22, t23, t24, t25, t26⟩ := h.2.2.1
  have hnx := @tk_i_nx g n i
  have hn := h.1.1
  have wr : ∀ k : Int32, ¬ k = 0 → x_ens ((f_Mo_wrong_60 k υ).bind fun q2 => (f_Mo_isGood_60 q2.2).bind fun q3 => x_ok (q3.1 = 0 ∨ q3.1 = 1) <| some (q3.1, q3.2)) (fun q => q.1 = 0 ∧ x_bad g n q.2 k i ∧ x_fr x_WT υ q.2) := by
    intro k hk
    refine x_ens.bi (l_wrong h hk) ?_
    rintro q ⟨hb, f⟩
    rw [hb.good]
    dsimp only [Option.bind_some]
    exact x_ens.ok (Or.inl rfl) (x_ens.so ⟨rfl, hb, f⟩)
  unfold f_Mo_numberHere_60 x_nr
  rw [h.good]
  dsimp only [Option.bind_some]
  rw [if_neg (show ¬ (1 : Int32) = 0 by decide), t21]
  by_cases h2 : (tk_i g n i).1 = 2
  · have hnum := tk_i_num h2
    have e24 := t24 h2
    simp only [if_pos h2]
    rw [t23]
    by_cases h4 : (tk_i g n i).2.2.2 - (tk_i g n i).2.2.1 ≤ 4
    · rw [if_pos h4] at hnum e24
      rw [if_neg (show ¬ (4 : Int32) < Int32.ofNat _ from fun x => by have := (i_lt (j := 4) (by omega) (by omega)).mp x; omega), e24]
      by_cases a1 : (tk_i g n i).2.1 < lo
      · rw [if_pos a1]
        have : ¬ (lo ≤ (tk_i g n i).2.1 ∧ (tk_i g n i).2.1 ≤ hi) := fun x => i_nl.mpr x.1 a1
        simp only [if_neg this]
        exact wr 2 (by decide)
      · rw [if_neg a1]
        by_cases a2 : (tk_i g n i).2.1 ≤ hi
        · rw [if_pos a2, h.good]
          dsimp only [Option.bind_some]
          have : lo ≤ (tk_i g n i).2.1 ∧ (tk_i g n i).2.1 ≤ hi := ⟨i_nl.mp a1, a2⟩
          simp only [if_pos this]
          exact x_ens.ok (by simp) (x_ens.so (by simp [e24]))
        · rw [if_neg a2]
          have : ¬ (lo ≤ (tk_i g n i).2.1 ∧ (tk_i g n i).2.1 ≤ hi) := fun x => a2 x.2
          simp only [if_neg this]
          exact wr 2 (by decide)
    · rw [if_neg h4] at hnum
      rw [if_pos (show (4 : Int32) < Int32.ofNat _ from (i_lt (j := 4) (by omega) (by omega)).mpr (by omega))]
      have : ¬ (lo ≤ (tk_i g n i).2.1 ∧ (tk_i g n i).2.1 ≤ hi) := by rw [hnum]; intro x; have := x.1; grind
      simp only [if_neg this]
      exact wr 2 (by decide)
  · simp only [if_neg h2]
    exact wr 1 (by decide)
theorem l_num {lo hi : Int32} (h0 : 0 ≤ lo) (h : x_mh g n m υ i) : x_ens (f_Mo_number_60 lo hi υ) (fun q => x_fr x_WT υ q.2 ∧ x_nr g n lo hi i (q.1 = (tk_i g n i).2.1 ∧ x_mh g n m q.2 (tk_ad m i)) (fun k => x_bad g n q.2 k i)) := by
  unfold f_Mo_number_60
  refine x_ens.bi (l_here (hi := hi) h0 h) ?_
  intro q1 hq
  have bad : ∀ k, (q1.1 = 0 ∧ x_bad g n q1.2 k i ∧ x_fr x_WT υ q1.2) → x_ens (if q1.1 = 0 then (f_Mo_isGood_60 q1.2).bind fun q2 => if q2.1 = 0 then some ((0 : Int32), q2.2) else (f_Mo_goes_60 q2.2).bind fun q3 => some ((0 : Int32), q3.2) else let w4 := q1.2.1 60 24; (f_Mo_isGood_60 q1.2).bind fun q5 => if q5.1 = 0 then some (w4, q5.2) else (f_Mo_goes_60 q5.2).bind fun q6 => some (w4, q6.2)) (fun q => x_fr x_WT υ q.2 ∧ x_bad g n q.2 k i) := by
    rintro k ⟨a, b, f⟩
    rw [if_pos a, b.good]
    dsimp only [Option.bind_some]
    rw [if_pos rfl]
    exact x_ens.so ⟨f, b⟩
  unfold x_nr at hq ⊢
  by_cases h2 : (tk_i g n i).1 = 2
  · simp only [if_pos h2] at hq ⊢
    by_cases h3 : lo ≤ (tk_i g n i).2.1 ∧ (tk_i g n i).2.1 ≤ hi
    · simp only [if_pos h3] at hq ⊢
      obtain ⟨a, b, c⟩ := hq
      rw [if_neg (by rw [a]; decide), b, h.good]
      dsimp only [Option.bind_some]
      rw [if_neg (show ¬ (1 : Int32) = 0 by decide)]
      refine x_ens.bi (l_go h) ?_
      rintro q6 ⟨h6, f6⟩
      exact x_ens.so ⟨f6, c, h6⟩
    · simp only [if_neg h3] at hq ⊢
      exact bad _ hq
  · simp only [if_neg h2] at hq ⊢
    exact bad _ hq
abbrev l_fin (υ : xS) : Option (Unit × xS) := (f_Mo_isSign_60 (59 : Int32) υ).bind fun a => (f_Mo_need_60 a.1 a.2).bind fun b => some ((), b.2)
theorem l_end (h : x_mh g n m υ i) : x_ens (l_fin υ) (fun q => x_fr x_WT υ q.2 ∧ if (tk_i g n i).1 = 3 ∧ (tk_i g n i).2.1 = 59 then x_mh g n m q.2 (tk_ad m i) else x_bad g n q.2 1 i) := by
  unfold l_fin
  rw [l_sign h]
  dsimp only [Option.bind_some]
  unfold f_Mo_need_60
  rw [h.good]
  dsimp only [Option.bind_some]
  rw [if_neg (show ¬ (1 : Int32) = 0 by decide)]
  by_cases hs : (tk_i g n i).1 = 3 ∧ (tk_i g n i).2.1 = 59
  · simp only [if_pos hs]
    rw [if_neg (show ¬ (1 : Int32) = 0 by decide)]
    refine x_ens.bi (P := fun q => x_fr x_WT υ q.2 ∧ x_mh g n m q.2 (tk_ad m i)) ?_ (fun q hq => x_ens.so hq)
    refine x_ens.bi (l_go h) ?_
    rintro q ⟨a, b⟩
    exact x_ens.so ⟨b, a⟩
  · simp only [if_neg hs]
    refine x_ens.bi (P := fun q => x_fr x_WT υ q.2 ∧ x_bad g n q.2 1 i) ?_ (fun q hq => x_ens.so hq)
    refine x_ens.bi (l_wrong h (k := 1) (by decide)) ?_
    rintro q ⟨a, b⟩
    exact x_ens.so ⟨b, a⟩
theorem l_endb (h : x_bad g n υ k e) : x_ens (l_fin υ) (fun q => q.2 = υ) := by
  unfold l_fin f_Mo_isSign_60
  have key : ∀ v : Int32, x_ens ((f_Mo_need_60 v υ).bind fun b => some ((), b.2)) (fun q => q.2 = υ) := by
    intro v
    unfold f_Mo_need_60
    rw [h.good]
    dsimp only [Option.bind_some]
    rw [if_pos rfl]
    exact x_ens.so rfl
  by_cases h1 : υ.1 60 21 = 3
  · rw [if_pos h1]
    by_cases h2 : υ.1 60 25 = 59
    · rw [if_pos h2]; exact key 1
    · rw [if_neg h2]; exact key 0
  · rw [if_neg h1]; exact key 0
end LM
