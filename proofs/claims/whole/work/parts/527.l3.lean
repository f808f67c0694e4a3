def sp_MO (C : Nat → Nat → Int32) (T : Nat → Int32) : Int32 := sp_fo (wst_mo (sp_of C T (sp_nk C) 0 0 0)) 0 0 (sp_la C + 1)
def wsc_b (C : Nat → Nat → Int32) (S : Nat → Int32) (i : Nat) : Int32 := sp_SH C (sp_up S 4 (Int32.ofNat i)) (sp_nk C) 0 0 0
def mo_b (C : Nat → Nat → Int32) (S : Nat → Int32) (i : Nat) : Int32 := sp_MO C (sp_up S 4 (Int32.ofNat i))
def wst_be (C : Nat → Nat → Int32) (S : Nat → Int32) (i : Nat) (c : (Int32 × Int32) × Int32 × Int32) : (Int32 × Int32) × Int32 × Int32 := (if wsc_b C S i ≤ c.1.2 then c.1 else (Int32.ofNat i, wsc_b C S i), if c.2.1 = -1 then (Int32.ofNat i, mo_b C S i) else if c.2.2 ≤ mo_b C S i then c.2 else (Int32.ofNat i, mo_b C S i))
theorem wst_be_e {C : Nat → Nat → Int32} {S : Nat → Int32} {i : Nat} {c : (Int32 × Int32) × Int32 × Int32} : wst_be C S i c = (if wsc_b C S i ≤ c.1.2 then c.1 else (Int32.ofNat i, wsc_b C S i), if c.2.1 = -1 then (Int32.ofNat i, mo_b C S i) else if c.2.2 ≤ mo_b C S i then c.2 else (Int32.ofNat i, mo_b C S i)) := rfl
def sp_bf (C : Nat → Nat → Int32) (S : Nat → Int32) : (Int32 × Int32) × Int32 × Int32 := sp_fo (wst_be C S) 0 ((-1, -1), (-1, -1)) (sp_nh C)
def A_best (C : Nat → Nat → Int32) (S : Nat → Int32) (v : Int32) : Int32 ⊕ Nat := if 0 ≤ v ∧ v ≤ 3 then .inl (if v = 0 then (sp_bf C S).1.1 else if v = 1 then (sp_bf C S).1.2 else if v = 2 then (sp_bf C S).2.1 else (sp_bf C S).2.2) else .inr 2
theorem x_A4 {C : Nat → Nat → Int32} {i : Nat} (hi : i < sp_nh C) (hn : sp_nh C ≤ 4) : x_A C (Int32.ofNat 4) (Int32.ofNat i) := Or.inr (Or.inr (Or.inr (Or.inr (Or.inl ⟨rfl, Or.inr ⟨i_0k (by omega), by rw [i_cl (by omega)]; exact hi⟩⟩))))
theorem c_best {C : Nat → Nat → Int32} {σ : xS} {v : Int32} (B : x_B C σ) (F : y_F C σ) : x_ens (f_RH_best_0 v σ) (fun q => q.1 = A_best C (σ.1 36) v ∧ y_F C q.2) := by
  unfold f_RH_best_0 A_best
  have G := B.1
  have R := B.S.2
  have hnh := G.2.2.2.2.1.2
  by_cases h : 0 ≤ v ∧ v ≤ 3
  · rw [if_neg (i_nl.mpr h.1), if_pos h.2, if_pos h]
    refine c_lk B ?_
    intro q8 L h50 h4
    refine x_ens.bi (P := fun b => ((b.1, b.2.1), (b.2.2.1, b.2.2.2.1)) = sp_bf C (σ.1 36) ∧ y_F C b.2.2.2.2.2) ?_ ?_
    · refine x_scI (fun i (c : (Int32 × Int32) × Int32 × Int32) τ => (c.1.1, c.1.2, c.2.1, c.2.2, Int32.ofNat i, τ)) (wst_be C (σ.1 36)) (fun i c τ => x_Lk C (σ.1 36) τ ∧ (∀ k, k < 12 → k ≠ 4 → τ.1 50 k = σ.1 36 k) ∧ τ.1 49 4 = 0) (sp_nh C) (c0 := ((-1, -1), (-1, -1))) (by omega) ⟨L, fun k hk _ => h50 k hk, h4⟩ ?_ ?_
      · rintro i ⟨⟨c1, c2⟩, c3, c4⟩ τ hi ⟨L1, g1, g2⟩
        unfold f_RH_best_0_L47
        dsimp only
        rw [L1.1.1, G.2.2.2.2.1.1, if_neg (fun x => by have := (i_le (by omega) (by omega)).mp x; omega)]
        refine c_tp G R (Or.inr rfl) (x_A4 hi hnh) L1 g1 g2 ?_
        intro q hq of L2 g3 g4
        have hq' : q.1 = wsc_b C (σ.1 36) i := hq
        have hm : f_Tr_mostOff_49 q.2 = some (mo_b C (σ.1 36) i, q.2) := by
          rw [e_Tr_mostOff (G.l5 L2.2.1) G.2.1.2, sp_fo_mo of]; rfl
        rw [hq']
        unfold f_RH_best_0_J111
        rw [hm, i_s, wst_be_e]
        dsimp only [Option.bind_some]
        generalize wsc_b C (σ.1 36) i = s
        generalize mo_b C (σ.1 36) i = m
        by_cases h1 : s ≤ c2
        · rw [if_pos h1, if_pos h1]
          by_cases h2 : c3 = -1
          · rw [if_pos h2, if_pos h2]; exact x_ens.so ⟨_, ⟨L2, g3, g4⟩, rfl⟩
          · rw [if_neg h2, if_neg h2]
            by_cases h3 : c4 ≤ m
            · rw [if_pos h3, if_pos h3]; exact x_ens.so ⟨_, ⟨L2, g3, g4⟩, rfl⟩
            · rw [if_neg h3, if_neg h3]; exact x_ens.so ⟨_, ⟨L2, g3, g4⟩, rfl⟩
        · rw [if_neg h1, if_neg h1]
          by_cases h2 : c3 = -1
          · rw [if_pos h2, if_pos h2]; exact x_ens.so ⟨_, ⟨L2, g3, g4⟩, rfl⟩
          · rw [if_neg h2, if_neg h2]
            by_cases h3 : c4 ≤ m
            · rw [if_pos h3, if_pos h3]; exact x_ens.so ⟨_, ⟨L2, g3, g4⟩, rfl⟩
            · rw [if_neg h3, if_neg h3]; exact x_ens.so ⟨_, ⟨L2, g3, g4⟩, rfl⟩
      · rintro c τ hc ⟨L1, -, -⟩
        unfold f_RH_best_0_L47
        dsimp only
        rw [L1.1.1, G.2.2.2.2.1.1, if_pos i_lr]
        exact x_ens.so ⟨_, rfl, hc, Or.inl L1.2.2.2.2⟩
    · rintro b ⟨hb, Fb⟩
      rw [← hb]
      dsimp only
      by_cases h0 : v = 0
      · rw [if_pos h0, if_pos h0]; exact x_ens.so ⟨rfl, Fb⟩
      · rw [if_neg h0, if_neg h0]
        by_cases h1 : v = 1
        · rw [if_pos h1, if_pos h1]; exact x_ens.so ⟨rfl, Fb⟩
        · rw [if_neg h1, if_neg h1]
          by_cases h2 : v = 2
          · rw [if_pos h2, if_pos h2]; exact x_ens.so ⟨rfl, Fb⟩
          · rw [if_neg h2, if_neg h2]; exact x_ens.so ⟨rfl, Fb⟩
  · rw [if_neg h]
    by_cases h1 : v < 0
    · rw [if_pos h1]; exact x_ens.so ⟨rfl, F⟩
    · rw [if_neg h1, if_neg (fun x => h ⟨i_nl.mp h1, x⟩)]; exact x_ens.so ⟨rfl, F⟩
theorem i_n1 {x : Int32} (h : 0 ≤ x) : ¬ x ≤ -1 := by grind
theorem m_best {C : Nat → Nat → Int32} {σ : xS} {v : Int32} (B : x_B C σ) : x_ens (f_Mo_best_60 v σ) (fun q => x_an x_k1 (A_best C (σ.1 36) v) q.1 q.2 ∧ x_B C q.2) := by
  unfold f_Mo_best_60 A_best
  dsimp only
  have G := B.1
  have hnh := G.2.2.2.2.1.2
  obtain ⟨B1, S1, R1⟩ := B.m0
  rw [e_Mo_isWhat x_60]
  dsimp only [Option.bind_some]
  by_cases h : 0 ≤ v ∧ v ≤ 3
  · simp only [if_pos h]
    rw [if_neg (by decide)]
    refine x_ens.bi (P := fun b => ((b.1, b.2.1), (b.2.2.1, b.2.2.2.1)) = sp_bf C (σ.1 36) ∧ x_fr ((79, 99999) :: x_W8) (x_pI σ 60 0 0) b.2.2.2.2.2 ∧ ∃ w, b.2.2.2.2.2.1 79 = sp_up ((x_pI σ 60 0 0).1 79) 5 w) ?_ ?_
    · refine x_scI (fun i (c : (Int32 × Int32) × Int32 × Int32) τ => (c.1.1, c.1.2, c.2.1, c.2.2, Int32.ofNat i, τ)) (wst_be C (σ.1 36)) (fun i c τ => x_fr ((79, 99999) :: x_W8) (x_pI σ 60 0 0) τ ∧ (∃ w, τ.1 79 = sp_up ((x_pI σ 60 0 0).1 79) 5 w) ∧ (c.1.1 = -1 → c.1.2 = -1)) (sp_nh C) (c0 := ((-1, -1), (-1, -1))) (by omega) ⟨x_fr.rf, ⟨_, sp_up_id.symm⟩, fun _ => rfl⟩ ?_ ?_
      · rintro i ⟨⟨c1, c2⟩, c3, c4⟩ τ hi ⟨f1, ⟨w, e79⟩, hc1⟩
        unfold f_Mo_best_60_L37
        dsimp only at hc1 ⊢
        rw [f1.ck 60 5 rfl, B1.2.2.1.1.2.2.2, G.2.2.2.2.1.1, if_neg (fun x => by have := (i_le (by omega) (by omega)).mp x; omega)]
        have f2 : x_fr ((79, 99999) :: x_W8) (x_pI σ 60 0 0) (x_pI τ 79 5 (Int32.ofNat i)) := x_frI (p := 79) rfl f1
        have e2 : (x_pI τ 79 5 (Int32.ofNat i)).1 79 = sp_up ((x_pI σ 60 0 0).1 79) (sp_q 4) (Int32.ofNat i) := by rw [x_pI_up, e79, sp_up_up]; rfl
        refine x_ens.bf (e_Mo_takesSharp (T := sp_up (σ.1 36) 4 (Int32.ofNat i)) (n := sp_nk C) (late := 0) (sh := 0) (ah := 0) B.1 (B1.2.2.1.fr f2 rfl rfl rfl rfl rfl rfl rfl) (S1.up e2 (f2.ck 60 4 rfl)) (R1.up (x_A4 hi hnh) (by omega)) (by rw [f2.ck 60 59 rfl]; exact B1.2.2.2.2.2.1.1) (by rw [f2.ck 60 60 rfl]; exact B1.2.2.2.2.2.1.2.1) (by rw [f2.ck 60 64 rfl]; exact B1.2.2.2.2.2.1.2.2) (by decide) (by decide)) (fun q e => fr_Mo_takesSharp_60 e) ?_
        rintro q ⟨hq, hof, -⟩ f3
        have hq' : q.1 = wsc_b C (σ.1 36) i := hq
        have f4 : x_fr ((79, 99999) :: x_W8) (x_pI σ 60 0 0) q.2 := x_fr.trans f2 (x_fr.su f3 rfl)
        have e4 : ∃ w, q.2.1 79 = sp_up ((x_pI σ 60 0 0).1 79) 5 w := ⟨Int32.ofNat i, by rw [f3.ce 79 rfl]; exact e2⟩
        have hm : f_Mo_mostOff_60 q.2 = some (mo_b C (σ.1 36) i, q.2) := by
          rw [e_Mo_mostOff G (B1.2.2.1.fr f4 rfl rfl rfl rfl rfl rfl rfl), sp_fo_mo (fun t ht => hof t (by omega))]; rfl
        have hs0 : 0 ≤ wsc_b C (σ.1 36) i := sp_SH_0 G
        have nm1 : ¬ Int32.ofNat i = -1 := i_m11 (i_0k (by omega))
        rw [hq']
        unfold f_Mo_best_60_J72 f_Mo_best_60_J79
        rw [hm, i_s, wst_be_e]
        dsimp only [Option.bind_some]
        rw [hm]
        dsimp only [Option.bind_some]
        generalize wsc_b C (σ.1 36) i = s at hs0
        generalize mo_b C (σ.1 36) i = m
        have tail : ∀ d1 d2 : Int32, (d1 = -1 → d2 = -1) → x_ens (if c3 = -1 then some (Sum.inr (d1, d2, Int32.ofNat i, m, Int32.ofNat (i + 1), q.2)) else if c4 ≤ m then some (Sum.inr (d1, d2, c3, c4, Int32.ofNat (i + 1), q.2)) else some (Sum.inr (d1, d2, Int32.ofNat i, m, Int32.ofNat (i + 1), q.2)) : Option ((Int32 × Int32 × Int32 × Int32 × Int32 × xS) ⊕ (Int32 × Int32 × Int32 × Int32 × Int32 × xS))) (fun o => ∃ τ', (x_fr ((79, 99999) :: x_W8) (x_pI σ 60 0 0) τ' ∧ (∃ w, τ'.1 79 = sp_up ((x_pI σ 60 0 0).1 79) 5 w) ∧ (d1 = -1 → d2 = -1)) ∧ o = .inr (d1, d2, (if c3 = -1 then (Int32.ofNat i, m) else if c4 ≤ m then (c3, c4) else (Int32.ofNat i, m)).1, (if c3 = -1 then (Int32.ofNat i, m) else if c4 ≤ m then (c3, c4) else (Int32.ofNat i, m)).2, Int32.ofNat (i + 1), τ')) := by
          intro d1 d2 hd
          by_cases h2 : c3 = -1
          · rw [if_pos h2, if_pos h2]; exact x_ens.so ⟨_, ⟨f4, e4, hd⟩, rfl⟩
          · rw [if_neg h2, if_neg h2]
            by_cases h3 : c4 ≤ m
            · rw [if_pos h3, if_pos h3]; exact x_ens.so ⟨_, ⟨f4, e4, hd⟩, rfl⟩
            · rw [if_neg h3, if_neg h3]; exact x_ens.so ⟨_, ⟨f4, e4, hd⟩, rfl⟩
        by_cases h0 : c1 = -1
        · rw [if_pos h0, hc1 h0, if_neg (i_n1 hs0)]
          exact tail _ _ (fun x => absurd x nm1)
        · rw [if_neg h0]
          by_cases h1 : s ≤ c2
          · rw [if_pos h1, if_pos h1]; exact tail _ _ hc1
          · rw [if_neg h1, if_neg h1]; exact tail _ _ (fun x => absurd x nm1)
      · rintro c τ hc ⟨f1, e1, -⟩
        unfold f_Mo_best_60_L37
        dsimp only
        rw [f1.ck 60 5 rfl, B1.2.2.1.1.2.2.2, G.2.2.2.2.1.1, if_pos i_lr]
        exact x_ens.so ⟨_, rfl, hc, f1, e1⟩
    · rintro b ⟨hb, f, w, e79⟩
      have e79' : (x_pI b.2.2.2.2.2 79 5 ((x_pI σ 60 0 0).1 79 5)).1 79 = (x_pI σ 60 0 0).1 79 := by rw [x_pI_up, e79, sp_up_up, sp_up_id]
      have f2 : x_fr ((79, 99999) :: x_W8) (x_pI σ 60 0 0) (x_pI b.2.2.2.2.2 79 5 ((x_pI σ 60 0 0).1 79 5)) := x_frI (p := 79) rfl f
      have B2 : x_B C (x_pI b.2.2.2.2.2 79 5 ((x_pI σ 60 0 0).1 79 5)) := B1.fr2 (x_fr.su f2 rfl) e79' (f2.ck 60 59 rfl) (f2.ck 60 60 rfl) (f2.ck 60 64 rfl) (f2.ck 60 4 rfl)
      have z : (x_pI b.2.2.2.2.2 79 5 ((x_pI σ 60 0 0).1 79 5)).1 60 0 = 0 := (f2.ck 60 0 rfl).trans x_60
      rw [← hb]
      dsimp only
      by_cases h0 : v = 0
      · rw [if_pos h0, if_pos h0]; exact x_ens.so ⟨⟨z, rfl⟩, B2⟩
      · rw [if_neg h0, if_neg h0]
        by_cases h1 : v = 1
        · rw [if_pos h1, if_pos h1]; exact x_ens.so ⟨⟨z, rfl⟩, B2⟩
        · rw [if_neg h1, if_neg h1]
          by_cases h2 : v = 2
          · rw [if_pos h2, if_pos h2]; exact x_ens.so ⟨⟨z, rfl⟩, B2⟩
          · rw [if_neg h2, if_neg h2]; exact x_ens.so ⟨⟨z, rfl⟩, B2⟩
  · simp only [if_neg h]
    rw [if_pos trivial, x_pI_pI]; exact x_ens.so ⟨x_60, B.t0⟩
theorem o_best (v : Int32) : x_OP (w_best v) (f_Mo_best_60 v) := by
  refine x_OPq (f := f_RH_best_0 v) (κ := x_k1) (A := fun C g => A_best C (g 36) v) (fun C σ B F => c_best B F) (fun σ q e => fr_RH_best_0 e) rfl (fun C g g' h h55 h01 h59 => by simp only [h 35 (by simp), h 36 (by simp), h 39 (by simp), h 40 (by simp), h 41 (by simp), h 58 (by simp), h55, h01, h59]) (fun C σ B => m_best B) (fun σ q e => fr_Mo_best_60 e) rfl ?_ ?_
  · intro σ u τ e; unfold w_best; rw [e]; rfl
  · intro C σ B k τ e hk
    unfold A_best at hk
    (repeat' split at hk) <;> cases hk <;> (unfold w_best; rw [e]; exact ⟨rfl, by decide⟩)
abbrev sp_fm (n : Nat) (tt ss g : Nat → Int32) (h : Int32) : Prop := ∀ j, j < n → (ss j = 1 ↔ ¬ h < sp_abs (g (tt j).toNatClampNeg))
theorem c_film_L {σ : xS} {n : Nat} (h6 : σ.1 35 6 = Int32.ofNat n) (hn : n ≤ 8) (ht : ∀ j, j < n → 0 ≤ σ.1 39 j ∧ σ.1 39 j ≤ 600) : ∀ (k i m : Nat), i + k = n → k < m → (∀ j, j < i → (σ.1 40 j = 1 ↔ ¬ σ.1 50 0 < sp_abs (σ.1 54 (σ.1 39 j).toNatClampNeg))) →
    x_ens (x_it f_Se_isFilmOf_35_49_L2 m (Int32.ofNat i, σ)) (fun b => (b = .inl (0, σ) ∧ ¬ sp_fm n (σ.1 39) (σ.1 40) (σ.1 54) (σ.1 50 0)) ∨ (sp_fm n (σ.1 39) (σ.1 40) (σ.1 54) (σ.1 50 0) ∧ ∃ j, b = .inr (j, σ)))
  | k, i, 0, _, h, _ => by omega
  | 0, i, m + 1, h1, h2, h3 => by
    refine x_nx fun P kL kR => ?_
    unfold f_Se_isFilmOf_35_49_L2
    dsimp only
    have : i = n := by omega
    subst this
    rw [h6, if_pos i_lr]
    exact kL _ (Or.inr ⟨h3, _, rfl⟩)
  | k + 1, i, m + 1, h1, h2, h3 => by
    refine x_nx fun P kL kR => ?_
    unfold f_Se_isFilmOf_35_49_L2
    dsimp only
    rw [h6, if_neg (fun x => by have := (i_le (by omega) (by omega)).mp x; omega), if_neg (show ¬ (8 : Int32) ≤ Int32.ofNat i from fun x => by have := (i_le (j := 8) (by omega) (by omega)).mp x; omega), i_cl (by omega)]
    refine x_ens.gr (by rintro (h | h) <;> first | exact i_ge (by omega) h | omega | (rw [i_cl (by omega)] at h; omega)) ?_
    obtain ⟨t1, t2⟩ := ht i (by omega)
    have hs : f_Tr_isSharp_49 (σ.1 39 i) σ = some (if σ.1 50 0 < sp_abs (σ.1 54 (σ.1 39 i).toNatClampNeg) then 0 else 1, σ) := by
      conv => lhs; rw [(i_ex t1).1]
      exact e_Tr_isSharp (i_nat (n := 600) (by omega) t2)
    rw [hs]
    dsimp only [Option.bind_some]
    refine x_ens.gr (by rintro (h | h) <;> first | exact i_ge (by omega) h | omega | (rw [i_cl (by omega)] at h; omega)) ?_
    have go : (σ.1 40 i = 1 ↔ ¬ σ.1 50 0 < sp_abs (σ.1 54 (σ.1 39 i).toNatClampNeg)) → x_ens (some (Sum.inr (Int32.ofNat i + 1, σ))) P := by
      intro hj
      refine kR _ ?_
      rw [i_s]
      refine c_film_L h6 hn ht k (i + 1) m (by omega) (by omega) (fun j hj2 => ?_)
      by_cases e : j = i
      · subst e; exact hj
      · exact h3 j (by omega)
    have no : ¬ (σ.1 40 i = 1 ↔ ¬ σ.1 50 0 < sp_abs (σ.1 54 (σ.1 39 i).toNatClampNeg)) → x_ens (some (Sum.inl (Sum.inl (0, σ)))) P := fun hj => kL _ (Or.inl ⟨rfl, fun x => hj (x i (by omega))⟩)
    by_cases h4 : σ.1 40 i = 1
    · rw [if_pos h4]
      by_cases h5 : σ.1 50 0 < sp_abs (σ.1 54 (σ.1 39 i).toNatClampNeg)
      · rw [if_pos h5, if_neg (by decide)]; exact no (fun x => (x.mp h4) h5)
      · rw [if_neg h5, if_pos rfl]; exact go ⟨fun _ => h5, fun _ => h4⟩
    · rw [if_neg h4]
      by_cases h5 : σ.1 50 0 < sp_abs (σ.1 54 (σ.1 39 i).toNatClampNeg)
      · rw [if_pos h5, if_pos rfl]; exact go ⟨fun x => absurd x h4, fun x => absurd h5 x⟩
      · rw [if_neg h5, if_neg (by decide)]; exact no (fun x => h4 (x.mpr h5))
theorem e_film {σ : xS} {n : Nat} (h6 : σ.1 35 6 = Int32.ofNat n) (hn : n ≤ 8) (ht : ∀ j, j < n → 0 ≤ σ.1 39 j ∧ σ.1 39 j ≤ 600) : f_Se_isFilmOf_35_49 σ = some (if sp_fm n (σ.1 39) (σ.1 40) (σ.1 54) (σ.1 50 0) then 1 else 0, σ) := by
  apply x_ens.eq
  unfold f_Se_isFilmOf_35_49
  refine x_ens.bi (c_film_L h6 hn ht n 0 10000 (by omega) (by omega) (fun j hj => by omega)) ?_
  rintro b (⟨rfl, h⟩ | ⟨h, j, rfl⟩)
  · rw [if_neg h]; exact x_ens.so rfl
  · rw [if_pos h]; exact x_ens.so rfl
theorem m_film_L {σ : xS} {n : Nat} (h6 : σ.1 60 74 = Int32.ofNat n) (hn : n ≤ 8) (ht : ∀ j, j < n → 0 ≤ σ.1 90 (2 * j) ∧ σ.1 90 (2 * j) ≤ 600) : ∀ (k i m : Nat), i + k = n → k < m → (∀ j, j < i → (σ.1 90 (2 * j + 1) = 1 ↔ ¬ σ.1 79 0 < sp_abs (σ.1 86 (σ.1 90 (2 * j)).toNatClampNeg))) →
    x_ens (x_it f_Mo_isAsSeen_60_L2 m (Int32.ofNat i, σ)) (fun b => (b = .inl (0, σ) ∧ ¬ sp_fm n (fun j => σ.1 90 (2 * j)) (fun j => σ.1 90 (2 * j + 1)) (σ.1 86) (σ.1 79 0)) ∨ (sp_fm n (fun j => σ.1 90 (2 * j)) (fun j => σ.1 90 (2 * j + 1)) (σ.1 86) (σ.1 79 0) ∧ ∃ j, b = .inr (j, σ)))
  | k, i, 0, _, h, _ => by omega
  | 0, i, m + 1, h1, h2, h3 => by
    refine x_nx fun P kL kR => ?_
    unfold f_Mo_isAsSeen_60_L2
    dsimp only
    have : i = n := by omega
    subst this
    rw [h6, if_pos i_lr]
    exact kL _ (Or.inr ⟨h3, _, rfl⟩)
  | k + 1, i, m + 1, h1, h2, h3 => by
    refine x_nx fun P kL kR => ?_
    unfold f_Mo_isAsSeen_60_L2
    dsimp only
    rw [h6, if_neg (fun x => by have := (i_le (by omega) (by omega)).mp x; omega), i_2m, i_cl (k := 2 * i) (by omega), i_s, i_cl (k := 2 * i + 1) (by omega)]
    refine x_ens.gr (by rintro (h | h) <;> first | exact i_ge (by omega) h | omega | (rw [i_cl (by omega)] at h; omega)) ?_
    obtain ⟨t1, t2⟩ := ht i (by omega)
    have hs : f_Mo_isSharp_60 (σ.1 90 (2 * i)) σ = some (if σ.1 79 0 < sp_abs (σ.1 86 (σ.1 90 (2 * i)).toNatClampNeg) then 0 else 1, σ) := by
      conv => lhs; rw [(i_ex t1).1]
      exact e_Mo_isSharp (i_nat (n := 600) (by omega) t2)
    rw [hs]
    dsimp only [Option.bind_some]
    refine x_ens.gr (by rintro (h | h) <;> first | exact i_ge (by omega) h | omega | (rw [i_cl (by omega)] at h; omega)) ?_
    have go : (σ.1 90 (2 * i + 1) = 1 ↔ ¬ σ.1 79 0 < sp_abs (σ.1 86 (σ.1 90 (2 * i)).toNatClampNeg)) → x_ens (some (Sum.inr (Int32.ofNat i + 1, σ))) P := by
      intro hj
      refine kR _ ?_
      rw [i_s]
      refine m_film_L h6 hn ht k (i + 1) m (by omega) (by omega) (fun j hj2 => ?_)
      by_cases e : j = i
      · subst e; exact hj
      · exact h3 j (by omega)
    have no : ¬ (σ.1 90 (2 * i + 1) = 1 ↔ ¬ σ.1 79 0 < sp_abs (σ.1 86 (σ.1 90 (2 * i)).toNatClampNeg)) → x_ens (some (Sum.inl (Sum.inl (0, σ)))) P := fun hj => kL _ (Or.inl ⟨rfl, fun x => hj (x i (by omega))⟩)
    by_cases h4 : σ.1 90 (2 * i + 1) = 1
    · rw [if_pos h4]
      by_cases h5 : σ.1 79 0 < sp_abs (σ.1 86 (σ.1 90 (2 * i)).toNatClampNeg)
      · rw [if_pos h5, if_neg (by decide)]; exact no (fun x => (x.mp h4) h5)
      · rw [if_neg h5, if_pos rfl]; exact go ⟨fun _ => h5, fun _ => h4⟩
    · rw [if_neg h4]
      by_cases h5 : σ.1 79 0 < sp_abs (σ.1 86 (σ.1 90 (2 * i)).toNatClampNeg)
      · rw [if_pos h5, if_pos rfl]; exact go ⟨fun x => absurd x h4, fun x => absurd h5 x⟩
      · rw [if_neg h5, if_neg (by decide)]; exact no (fun x => h4 (x.mpr h5))
theorem e_seen {σ : xS} {n : Nat} (h6 : σ.1 60 74 = Int32.ofNat n) (hn : n ≤ 8) (ht : ∀ j, j < n → 0 ≤ σ.1 90 (2 * j) ∧ σ.1 90 (2 * j) ≤ 600) : f_Mo_isAsSeen_60 σ = some (if sp_fm n (fun j => σ.1 90 (2 * j)) (fun j => σ.1 90 (2 * j + 1)) (σ.1 86) (σ.1 79 0) then 1 else 0, σ) := by
  apply x_ens.eq
  unfold f_Mo_isAsSeen_60
  refine x_ens.bi (m_film_L h6 hn ht n 0 10000 (by omega) (by omega) (fun j hj => by omega)) ?_
  rintro b (⟨rfl, h⟩ | ⟨h, j, rfl⟩)
  · rw [if_neg h]; exact x_ens.so rfl
  · rw [if_pos h]; exact x_ens.so rfl
