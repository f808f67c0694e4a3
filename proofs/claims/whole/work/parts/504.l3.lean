def sp_sum (g : Nat → Int32) : Nat → Int32
  | 0 => 0
  | n + 1 => sp_sum g n + g n
theorem sp_sum_congr {g g' : Nat → Int32} : ∀ {n : Nat}, (∀ i, i < n → g i = g' i) → sp_sum g n = sp_sum g' n
  | 0, _ => rfl
  | n + 1, h => by unfold sp_sum; rw [h n (by omega), sp_sum_congr (fun i hi => h i (by omega))]
theorem e_Mo_last {n : Nat} (hn : n ≤ 12) {σ : xS} (hc : σ.1 60 2 = Int32.ofNat n) : f_Mo_last_60 σ = some (sp_sum (σ.1 62) n, σ) := by
  apply x_ens.eq
  unfold f_Mo_last_60
  refine x_ens.bi (P := fun b => ∃ k, b = (sp_sum (σ.1 62) n, k, σ)) ?_ ?_
  · refine x_iv.go (fun i a => a = (sp_sum (σ.1 62) i, Int32.ofNat i, σ)) n (by omega) rfl ?_
    rintro i a hi rfl
    unfold f_Mo_last_60_L4
    dsimp only
    simp (disch := omega) only [hc, i_le, i_cl]
    by_cases h1 : i = n
    · subst h1
      rw [if_pos (by omega)]
      exact x_iv.l ⟨_, rfl⟩
    · rw [if_neg (by omega)]
      refine x_ens.gr (by rintro (h | h) <;> first | exact i_ge (by omega) h | omega | (rw [i_cl (by omega)] at h; omega)) ?_
      exact x_iv.r (by omega) (by rw [i_s]; rfl)
  · rintro b ⟨k, rfl⟩; exact x_ens.so rfl
def sp_her (goal lasts : Nat → Int32) : Nat → Int32 → Int32 → Nat → Int32
  | _, from0, _, 0 => from0
  | i, from0, left, k + 1 => if left ≤ lasts i then from0 + (goal i - from0) * left / lasts i else sp_her goal lasts (i + 1) (goal i) (left - lasts i) k
theorem sp_her_congr {g l g' l' : Nat → Int32} : ∀ {k i : Nat} {f t : Int32}, (∀ j, j < i + k → g j = g' j ∧ l j = l' j) → sp_her g l i f t k = sp_her g' l' i f t k
  | 0, _, _, _, _ => rfl
  | k + 1, i, f, t, h => by
    unfold sp_her
    rw [(h i (by omega)).1, (h i (by omega)).2, sp_her_congr (fun j hj => h j (by omega))]
theorem e_Mo_her_L {m : Nat} (hm : m ≤ 12) {σ : xS} (hc : σ.1 60 2 = Int32.ofNat m) (hz : ∀ i, i < m → σ.1 62 i ≠ 0) : ∀ (k i n : Nat) (f t : Int32), i + k = m → k < n →
    x_ens (x_it f_Mo_herIn_60_L10 n (f, t, Int32.ofNat i, σ)) (fun b => b = .inl (sp_her (σ.1 61) (σ.1 62) i f t k, σ) ∨ ∃ l j, b = .inr (sp_her (σ.1 61) (σ.1 62) i f t k, l, j, σ))
  | k, i, 0, f, t, _, hn => by omega
  | 0, i, n + 1, f, t, hk, hn => by
    refine x_nx fun P kL kR => ?_
    unfold f_Mo_herIn_60_L10
    dsimp only
    rw [hc, if_pos (by rw [i_le (by omega) (by omega)]; omega)]
    exact kL _ (Or.inr ⟨_, _, rfl⟩)
  | k + 1, i, n + 1, f, t, hk, hn => by
    refine x_nx fun P kL kR => ?_
    unfold f_Mo_herIn_60_L10
    dsimp only
    rw [hc, if_neg (by rw [i_le (by omega) (by omega)]; omega)]
    refine x_ens.gr (by rintro (h | h) <;> first | exact i_ge (by omega) h | omega | (rw [i_cl (by omega)] at h; omega)) ?_
    rw [i_cl (by omega)]
    by_cases h1 : t ≤ σ.1 62 i
    · rw [if_neg (i_nl.mpr h1)]
      refine x_ens.gr (by rintro (h | h) <;> first | exact i_ge (by omega) h | omega | (rw [i_cl (by omega)] at h; omega)) ?_
      refine x_ens.gr (by rintro (h | h) <;> first | exact i_ge (by omega) h | omega | (rw [i_cl (by omega)] at h; omega)) ?_
      rw [if_neg (hz i (by omega))]
      refine kL _ (Or.inl ?_)
      rw [sp_her, if_pos h1]
    · rw [if_pos (i_nle.mp h1)]
      refine x_ens.gr (by rintro (h | h) <;> first | exact i_ge (by omega) h | omega | (rw [i_cl (by omega)] at h; omega)) ?_
      refine x_ens.gr (by rintro (h | h) <;> first | exact i_ge (by omega) h | omega | (rw [i_cl (by omega)] at h; omega)) ?_
      refine kR _ ?_
      rw [i_s, sp_her, if_neg h1]
      exact e_Mo_her_L hm hc hz k (i + 1) n _ _ (by omega) (by omega)
theorem e_Mo_herIn {m : Nat} (hm : m ≤ 12) {σ : xS} (hc : σ.1 60 2 = Int32.ofNat m) (hz : ∀ i, i < m → σ.1 62 i ≠ 0) (t : Int32) : f_Mo_herIn_60 t σ = some (sp_her (σ.1 61) (σ.1 62) 0 (σ.1 60 1) t m, σ) := by
  apply x_ens.eq
  unfold f_Mo_herIn_60
  refine x_ens.bi (e_Mo_her_L hm hc hz m 0 10000 _ _ (by omega) (by omega)) ?_
  rintro b (rfl | ⟨l, j, rfl⟩)
  · exact x_ens.so rfl
  · exact x_ens.so rfl
def sp_us (lo hi : Nat) (cs : List Int32) : Prop := ∀ c, c ∈ cs → c ≤ -10 → lo ≤ ((-10 : Int32) - c).toNatClampNeg ∧ ((-10 : Int32) - c).toNatClampNeg ≤ hi
theorem sp_ev_congr {v v' : Nat → Int32} {lo hi : Nat} (hv : ∀ j, lo ≤ j → j ≤ hi → v j = v' j) : ∀ {cs st : List Int32}, sp_us lo hi cs → sp_ev v cs st = sp_ev v' cs st
  | [], _, _ => rfl
  | c :: cs, st, h => by
    have h' : sp_us lo hi cs := fun d hd => h d (List.mem_cons_of_mem _ hd)
    rw [sp_ev.eq_def, sp_ev.eq_def v']
    dsimp only
    by_cases c1 : 0 ≤ c
    · rw [if_pos c1, if_pos c1]; exact sp_ev_congr hv h'
    · rw [if_neg c1, if_neg c1]
      by_cases c2 : c ≤ -10
      · rw [if_pos c2, if_pos c2]
        have := h c (List.mem_cons_self ..) c2
        rw [hv _ this.1 this.2]; exact sp_ev_congr hv h'
      · rw [if_neg c2, if_neg c2]
        by_cases c3 : c = -7
        · rw [if_pos c3, if_pos c3]
          match st with
          | [] => rfl
          | a :: r => exact sp_ev_congr hv h'
        · rw [if_neg c3, if_neg c3]
          match st with
          | [] => rfl
          | [_] => rfl
          | b :: a :: r => exact sp_ev_congr hv h'
abbrev sp_has (C : Nat → Nat → Int32) (r : Nat) : Prop := C 15 r < C 16 r
def sp_seg (C : Nat → Nat → Int32) (r : Nat) : List Int32 := (List.range ((C 16 r).toNatClampNeg - (C 15 r).toNatClampNeg)).map fun i => C 14 ((C 15 r).toNatClampNeg + i)
def sp_RG (C : Nat → Nat → Int32) (r lo hi : Nat) : Prop := (0 ≤ C 15 r ∧ (C 16 r).toNatClampNeg ≤ 700) ∧ sp_hg (sp_seg C r) 0 ∧ sp_us lo hi (sp_seg C r)
def sp_w (C : Nat → Nat → Int32) (r : Nat) (v : Nat → Int32) : Int32 := (sp_ev v (sp_seg C r) []).headD 0
theorem sp_at_map {g : Nat → Int32} : ∀ {n p q : Nat}, sp_at g (p + q) ((List.range' q n).map fun i => g (p + i))
  | 0, _, _ => trivial
  | n + 1, p, q => by
    rw [List.range'_succ]
    exact ⟨rfl, by rw [show p + q + 1 = p + (q + 1) by omega]; exact sp_at_map⟩
theorem e_Ru_has {C : Nat → Nat → Int32} {σ : xS} {r : Nat} (hr : r < 6) (h15 : σ.1 15 = C 15) (h16 : σ.1 16 = C 16) : f_Ru_has_13 (Int32.ofNat r) σ = some (if sp_has C r then 1 else 0, σ) := by
  unfold f_Ru_has_13
  rw [if_neg (i_ge (by omega)), if_neg (by rw [show (6 : Int32) = Int32.ofNat 6 from rfl, i_le (by omega) (by omega)]; omega), if_neg (i_ix hr (by omega)), if_neg (i_ix hr (by omega)), i_cl (by omega), h15, h16]
  by_cases h : sp_has C r
  · rw [if_pos h, if_neg (i_nle.mpr h)]
  · rw [if_neg h, if_pos (i_nl.mp h)]
theorem e_Ru_worth {C : Nat → Nat → Int32} {σ : xS} {r lo hi : Nat} (hr : r < 6) (h14 : σ.1 14 = C 14) (h15 : σ.1 15 = C 15) (h16 : σ.1 16 = C 16) (hh : sp_has C r) (G : sp_RG C r lo hi) {v : Nat → Int32} (hv : ∀ j, lo ≤ j → j ≤ hi → σ.1 18 j = v j) :
    x_ens (f_Ru_worth_13 (Int32.ofNat r) σ) (fun q => q.1 = sp_w C r v) := by
  unfold f_Ru_worth_13
  rw [e_Ru_has hr h15 h16, if_pos hh]
  dsimp only [Option.bind_some]
  rw [if_neg (by decide), if_neg (i_ix hr (by omega)), i_cl (by omega), h15]
  obtain ⟨⟨g1, g2⟩, g3, g4⟩ := G
  have k1 := i_ex g1
  have k2 := i_ex (v := C 16 r) (by unfold sp_has at hh; grind)
  have k3 : (C 15 r).toNatClampNeg < (C 16 r).toNatClampNeg := by
    have := hh; unfold sp_has at this; rw [k1.1, k2.1, i_lt k1.2 k2.2] at this; exact this
  have hlen : (sp_seg C r).length = (C 16 r).toNatClampNeg - (C 15 r).toNatClampNeg := by unfold sp_seg; simp
  have hat : sp_at (σ.1 14) (C 15 r).toNatClampNeg (sp_seg C r) := by
    have := @sp_at_map (C 14) ((C 16 r).toNatClampNeg - (C 15 r).toNatClampNeg) (C 15 r).toNatClampNeg 0
    rw [h14]; unfold sp_seg; rw [List.range_eq_range']; exact this
  have key := e_Ru_L19 r hr (sp_seg C r) [] (C 15 r).toNatClampNeg 10000 σ g3 (by simp) (by omega) hat (by rw [h16, k2.1]; congr 1; omega) (by omega) trivial
  rw [k1.1]
  refine x_ens.bi key ?_
  rintro b ⟨b1, b2⟩
  unfold f_Ru_worth_13_J172
  rw [if_pos b1]
  refine x_ens.so ?_
  unfold sp_w
  rw [← sp_ev_congr hv g4, b2]
  rfl
theorem e_Mo_reckons {σ : xS} {cs : List Int32} {p lo hi : Nat} (hp : p + 2 * cs.length < 4200) (he : sp_en (σ.1 66) p cs) (g3 : sp_hg cs 0) (g4 : sp_us lo hi cs) {v : Nat → Int32} (hv : ∀ j, lo ≤ j → j ≤ hi → σ.1 82 (sp_pm j) = v j) :
    x_ens (f_Mo_reckons_60 (Int32.ofNat p) σ) (fun q => q.1 = (sp_ev v cs []).headD 0) := by
  unfold f_Mo_reckons_60
  refine x_ens.bi (e_Mo_L4 cs [] p 10000 σ g3 (by simp) (by omega) he hp trivial) ?_
  intro b hb
  refine x_ens.so ?_
  rw [← sp_ev_congr hv g4, hb]
  rfl
