def x_tkr (g : Nat → Int32) (n : Nat) (σ : xS) (m : Nat) : Prop := σ.1 2 3 = Int32.ofNat m ∧ ∀ i, i < m → σ.1 3 i = (tk_i g n i).1 ∧ σ.1 4 i = (tk_i g n i).2.1 ∧ σ.1 5 i = Int32.ofNat (tk_i g n i).2.2.1
theorem e_addTok {σ : xS} {g : Nat → Int32} {n m : Nat} {a b c : Int32} (h : x_tkr g n σ m) (hm : m < 701) (ha : a = (tk_i g n m).1) (hb : b = (tk_i g n m).2.1) (hc : c = Int32.ofNat (tk_i g n m).2.2.1) : x_ens (f_Re_addToken_2 a b c σ) (fun q => x_tkr g n q.2 (m + 1) ∧ x_fr [(2, 3), (3, 99999), (4, 99999), (5, 99999)] σ q.2) := by
  unfold f_Re_addToken_2
  have g3 : ∀ {τ : xS} {k : Nat} {w : Int32}, (x_pI τ 3 k w).1 2 = τ.1 2 := y_pI_ne (by omega)
  have g4 : ∀ {τ : xS} {k : Nat} {w : Int32}, (x_pI τ 4 k w).1 2 = τ.1 2 := y_pI_ne (by omega)
  have g5 : ∀ {τ : xS} {k : Nat} {w : Int32}, (x_pI τ 5 k w).1 2 = τ.1 2 := y_pI_ne (by omega)
  have em : (Int32.ofNat m).toNatClampNeg = m := i_cl (by omega)
  simp only [g3, g4, g5, h.1, em, i_s]
  rw [if_neg (by rw [i_le (by omega) (by omega)]; omega)]
  refine x_ens.gr (by rintro (h | h) <;> first | exact i_ge (by omega) h | omega | (rw [i_cl (by omega)] at h; omega)) ?_
  refine x_ens.gr (by rintro (h | h) <;> first | exact i_ge (by omega) h | omega | (rw [i_cl (by omega)] at h; omega)) ?_
  refine x_ens.gr (by rintro (h | h) <;> first | exact i_ge (by omega) h | omega | (rw [i_cl (by omega)] at h; omega)) ?_
  refine x_ens.so ⟨⟨x_pI_kk, fun i hi => ?_⟩, x_frI (p := 2) (k := 3) rfl (x_frI (p := 5) rfl (x_frI (p := 4) rfl (x_frI (p := 3) rfl x_fr.rf)))⟩
  dsimp only
  rw [y_pI_ne (q := 3) (by omega), y_pI_ne (q := 3) (by omega), y_pI_ne (q := 3) (by omega), x_pI_up, y_pI_ne (q := 4) (by omega), y_pI_ne (q := 4) (by omega), x_pI_up, y_pI_ne (q := 4) (by omega), y_pI_ne (q := 5) (by omega), x_pI_up, y_pI_ne (q := 5) (by omega), y_pI_ne (q := 5) (by omega)]
  by_cases e : i = m
  · subst e
    rw [sp_up_eq, sp_up_eq, sp_up_eq]
    exact ⟨ha, hb, hc⟩
  · rw [sp_up_ne e, sp_up_ne e, sp_up_ne e]
    exact h.2 i (by omega)
theorem tk_at_c {g g' : Nat → Int32} {n s : Nat} (h : ∀ i, i < n → g i = g' i) : tk_at g n s = tk_at g' n s := by
  unfold tk_at
  by_cases hs : n ≤ s
  · rw [if_pos hs, if_pos hs]
  · rw [if_neg hs, if_neg hs, h s (by omega), tk_e_c (P := tk_l) (g := g) (g' := g') (fun i hi => h i (by omega)), tk_e_c (P := tk_d) (g := g) (g' := g') (fun i hi => h i (by omega))]
    have e1 : tk_w g s (tk_e tk_l g' (n - s) s) = tk_w g' s (tk_e tk_l g' (n - s) s) := by
      unfold tk_w tk_ls
      congr 1
      apply List.map_congr_left
      intro i hi
      have := (@tk_e_b tk_l g' (n - s) s).2
      have := List.mem_range.mp hi
      exact h _ (by omega)
    have e2 : tk_n g s (tk_e tk_d g' (n - s) s) = tk_n g' s (tk_e tk_d g' (n - s) s) := by
      unfold tk_n
      have key : ∀ k, s + k ≤ n → tk_nu g s k = tk_nu g' s k := by
        intro k
        induction k with
        | zero => intro _; rfl
        | succ k ih => intro hk; unfold tk_nu; rw [ih (by omega), h (s + k) (by omega)]
      have := (@tk_e_b tk_d g' (n - s) s).2
      have := (@tk_e_b tk_d g' (n - s) s).1
      rw [key _ (by omega)]
    rw [e1, e2]
theorem tk_c {g g' : Nat → Int32} {n p : Nat} (hp : p ≤ n) (h : ∀ i, i < n → g i = g' i) : tk g n p = tk g' n p := by
  unfold tk
  rw [tk_e_c (P := tk_b) (g := g) (g' := g') (fun i hi => h i (by omega)), tk_at_c h]
theorem tk_at_nx {g : Nat → Int32} {n s : Nat} (hs : s ≤ n) : (tk_at g n s).2.2.2 ≤ n ∧ (tk_at g n s).2.2.1 ≤ n ∧ ((tk_at g n s).1 = 0 ↔ s = n) ∧ (s < n → s < (tk_at g n s).2.2.2 ∧ (tk_at g n s).2.2.1 = s) := by
  unfold tk_at
  by_cases h : n ≤ s
  · rw [if_pos h]; exact ⟨Nat.le_refl _, Nat.le_refl _, ⟨fun _ => by omega, fun _ => rfl⟩, fun x => by omega⟩
  · have b1 := @tk_e_b tk_l g (n - s - 1) (s + 1)
    have b2 := @tk_e_b tk_d g (n - s - 1) (s + 1)
    rw [if_neg h]
    by_cases h1 : tk_l (g s) = true
    · rw [if_pos h1]
      dsimp only
      rw [show n - s = n - s - 1 + 1 by omega, tk_e, if_pos h1]
      exact ⟨by omega, by omega, ⟨fun x => absurd x (by decide), fun x => by omega⟩, fun _ => ⟨by omega, rfl⟩⟩
    · rw [if_neg h1]
      by_cases h2 : tk_d (g s) = true
      · rw [if_pos h2]
        dsimp only
        rw [show n - s = n - s - 1 + 1 by omega, tk_e, if_pos h2]
        exact ⟨by omega, by omega, ⟨fun x => absurd x (by decide), fun x => by omega⟩, fun _ => ⟨by omega, rfl⟩⟩
      · rw [if_neg h2]
        dsimp only
        refine ⟨by omega, by omega, ⟨fun x => ?_, fun x => by omega⟩, fun _ => ⟨by omega, rfl⟩⟩
        split at x <;> exact absurd x (by decide)
theorem tk_nx {g : Nat → Int32} {n p : Nat} (hp : p ≤ n) : (tk g n p).2.2.2 ≤ n ∧ (tk g n p).2.2.1 ≤ n := by
  unfold tk
  have := (@tk_e_b tk_b g (n - p) p).2
  have := @tk_at_nx g n (tk_e tk_b g (n - p) p) (by omega)
  exact ⟨this.1, this.2.1⟩
theorem tk_i_nx {g : Nat → Int32} {n : Nat} : ∀ {i : Nat}, (tk_i g n i).2.2.2 ≤ n ∧ (tk_i g n i).2.2.1 ≤ n
  | 0 => tk_nx (Nat.zero_le _)
  | i + 1 => tk_nx (tk_i_nx (i := i)).1
theorem tk_n_end {g : Nat → Int32} {n : Nat} : tk g n n = (0, 0, n, n) := by
  unfold tk; rw [Nat.sub_self]; unfold tk_e tk_at; rw [if_pos (Nat.le_refl _)]
theorem tk_0 {g : Nat → Int32} {n p : Nat} (hp : p ≤ n) (h : (tk g n p).1 = 0) : tk g n p = (0, 0, n, n) := by
  unfold tk at h ⊢
  have b := (@tk_e_b tk_b g (n - p) p).2
  have := (@tk_at_nx g n (tk_e tk_b g (n - p) p) (by omega)).2.2.1.mp h
  rw [this]; unfold tk_at; rw [if_pos (Nat.le_refl _)]
theorem c_split_L {σ : xS} {g : Nat → Int32} {n : Nat} (hn : n ≤ 700) (hg : ∀ i, i < n → σ.1 1 i = g i) : ∀ (d p c m fu : Nat) (τ : xS), p + d = n → d < fu → c ≤ p → m ≤ p → tk g n p = tk_i g n m → x_tkr g n τ m → (∀ i, i < m → ¬ (tk_i g n i).1 = 0) → x_fr [(2, 3), (3, 99999), (4, 99999), (5, 99999)] σ τ →
    x_ens (x_it (f_Re_split_2_1_L18 (Int32.ofNat n)) fu (Int32.ofNat p, Int32.ofNat c, τ)) (fun b => ∃ m', m' ≤ n ∧ x_tkr g n b.2.2 m' ∧ (∀ i, i < m' → ¬ (tk_i g n i).1 = 0) ∧ tk_i g n m' = (0, 0, n, n) ∧ x_fr [(2, 3), (3, 99999), (4, 99999), (5, 99999)] σ b.2.2) := by
  intro d
  induction d using Nat.strongRecOn with
  | ind d ih =>
    intro p c m fu τ h1 h2 h3 h4 h5 h6 h7 f
    obtain ⟨fu', rfl⟩ : ∃ fu', fu = fu' + 1 := ⟨fu - 1, by omega⟩
    refine x_nx fun P kL kR => ?_
    unfold f_Re_split_2_1_L18
    dsimp only
    rw [if_neg (show ¬ (700 : Int32) < Int32.ofNat c from fun x => by have := (i_lt (j := 700) (by omega) (by omega)).mp x; omega)]
    by_cases hx : p = n
    · rw [if_pos (by rw [i_le (by omega) (by omega)]; omega)]
      refine kL _ ⟨m, by omega, h6, h7, ?_, f⟩
      rw [← h5, hx]; exact tk_n_end
    · rw [if_neg (by rw [i_le (by omega) (by omega)]; omega), i_cl (by omega)]
      refine x_ens.gr (by rintro (h | h) <;> first | exact i_ge (by omega) h | omega | (rw [i_cl (by omega)] at h; omega)) ?_
      have e1 : τ.1 1 = σ.1 1 := f.ce 1 rfl
      rw [e1, hg p (by omega), e_isL]
      dsimp only [Option.bind_some]
      -- one token more, then on
      have step : ∀ (a b c' : Int32) (p' : Nat), p < p' → p' ≤ n → tk_at g n p = (a, b, p, p') → ¬ a = 0 → c' = Int32.ofNat p → ¬ tk_b (g p) = true → x_ens ((f_Re_addToken_2 a b c' τ).bind fun q8 => some (Sum.inr (Int32.ofNat p', Int32.ofNat c + 1, q8.2))) P := by
        intro a b c' p' q1 q2 q3 q4 q5 q6
        have e2 : tk_i g n m = (a, b, p, p') := by rw [← h5, tk_here (fun x => q6 x.2) (by omega)]; exact q3
        refine x_ens.bi (e_addTok h6 (by omega) (by rw [e2]) (by rw [e2]) (by rw [e2]; exact q5)) ?_
        rintro q ⟨t1, t2⟩
        refine kR _ ?_
        rw [i_s]
        refine ih (n - p') (by omega) p' (c + 1) (m + 1) fu' q.2 (by omega) (by omega) (by omega) (by omega) ?_ t1 ?_ (x_fr.trans f t2)
        · show _ = tk g n (tk_i g n m).2.2.2
          rw [e2]
        · intro i hi
          by_cases e : i = m
          · subst e; rw [e2]; exact q4
          · exact h7 i (by omega)
      have nat : tk_at g n p = if tk_l (g p) = true then (1, Int32.ofNat (tk_w g p (tk_e tk_l g (n - p) p)), p, tk_e tk_l g (n - p) p) else if tk_d (g p) = true then (2, tk_n g p (tk_e tk_d g (n - p) p), p, tk_e tk_d g (n - p) p) else (if tk_s (g p) = true then 3 else 4, g p, p, p + 1) := by
        unfold tk_at; rw [if_neg (show ¬ n ≤ p by omega)]
      have nx := (@tk_at_nx g n p (by omega))
      have hsub : ∀ {e : Nat}, e ≤ n → tk_w (τ.1 1) p e = tk_w g p e ∧ tk_n (τ.1 1) p e = tk_n g p e := by
        intro e he
        constructor
        · unfold tk_w tk_ls
          congr 1
          apply List.map_congr_left
          intro i hi
          have := List.mem_range.mp hi
          rw [e1]; exact hg _ (by omega)
        · unfold tk_n
          have key : ∀ k, p + k ≤ n → tk_nu (τ.1 1) p k = tk_nu g p k := by
            intro k
            induction k with
            | zero => intro _; rfl
            | succ k ih => intro hk; unfold tk_nu; rw [ih (by omega), e1, hg (p + k) (by omega)]
          by_cases h0 : p ≤ e
          · rw [key _ (by omega)]
          · rw [show e - p = 0 by omega]; rfl
      by_cases hL : tk_l (g p) = true
      · have nb : ¬ tk_b (g p) = true := by
          unfold tk_l at hL; unfold tk_b
          rw [decide_eq_true_iff] at hL ⊢
          rintro (x | x) <;> (rw [x] at hL; exact absurd hL (by decide))
        rw [if_pos hL] at nat
        rw [nat] at nx
        dsimp only at nx
        have q1 := (nx.2.2.2 (by omega)).1
        rw [if_pos hL, if_neg (by decide), e_endOfLetters hn (by omega), e1, tk_e_c (P := tk_l) (g := σ.1 1) (g' := g) (fun i hi => hg i (by omega))]
        dsimp only [Option.bind_some]
        rw [e_wordOn (by omega) (by omega), (hsub nx.1).1]
        dsimp only [Option.bind_some]
        exact step 1 _ _ _ q1 nx.1 nat (by decide) rfl nb
      · rw [if_neg hL] at nat
        rw [if_neg hL, if_pos rfl, e_isD]
        dsimp only [Option.bind_some]
        by_cases hD : tk_d (g p) = true
        · have nb : ¬ tk_b (g p) = true := by
            unfold tk_d at hD; unfold tk_b
            rw [decide_eq_true_iff] at hD ⊢
            rintro (x | x) <;> (rw [x] at hD; exact absurd hD (by decide))
          rw [if_pos hD] at nat
          rw [nat] at nx
          dsimp only at nx
          have q1 := (nx.2.2.2 (by omega)).1
          rw [if_pos hD, if_neg (by decide), e_endOfDigits hn (by omega), e1, tk_e_c (P := tk_d) (g := σ.1 1) (g' := g) (fun i hi => hg i (by omega))]
          dsimp only [Option.bind_some]
          rw [e_numberOn (by omega) (by omega), (hsub nx.1).2]
          dsimp only [Option.bind_some]
          exact step 2 _ _ _ q1 nx.1 nat (by decide) rfl nb
        · rw [if_neg hD] at nat
          rw [if_neg hD, if_pos rfl, i_s, i_s]
          have blank : tk_b (g p) = true → x_ens (some (Sum.inr (Int32.ofNat (p + 1), Int32.ofNat (c + 1), τ))) P := by
            intro hb
            refine kR _ (ih (n - (p + 1)) (by omega) (p + 1) (c + 1) m fu' τ (by omega) (by omega) (by omega) (by omega) ?_ h6 h7 f)
            rw [← tk_blank (by omega) hb]; exact h5
          by_cases h32 : g p = 32
          · rw [if_pos h32]; exact blank (decide_eq_true_iff.mpr (Or.inl h32))
          · rw [if_neg h32]
            by_cases h10 : g p = 10
            · rw [if_pos h10]; exact blank (decide_eq_true_iff.mpr (Or.inr h10))
            · have nb : ¬ tk_b (g p) = true := fun x => (decide_eq_true_iff.mp x).elim h32 h10
              rw [if_neg h10, e_isS]
              dsimp only [Option.bind_some]
              by_cases hS : tk_s (g p) = true
              · rw [if_pos hS] at nat
                rw [if_pos hS, if_neg (by decide), ← i_s (k := c)]
                exact step 3 _ _ _ (by omega) (by omega) nat (by decide) rfl nb
              · rw [if_neg hS] at nat
                rw [if_neg hS, if_pos rfl, ← i_s (k := c)]
                exact step 4 _ _ _ (by omega) (by omega) nat (by decide) rfl nb
theorem c_split {σ : xS} {g : Nat → Int32} {n : Nat} (hn : n ≤ 700) (hg : ∀ i, i < n → σ.1 1 i = g i) : x_ens (f_Re_split_2_1 (Int32.ofNat n) σ) (fun q => ∃ m, m ≤ n ∧ x_tkr g n q.2 (m + 1) ∧ (∀ i, i < m → ¬ (tk_i g n i).1 = 0) ∧ tk_i g n m = (0, 0, n, n) ∧ x_fr [(2, 3), (3, 99999), (4, 99999), (5, 99999)] σ q.2) := by
  unfold f_Re_split_2_1
  rw [if_neg (show ¬ Int32.ofNat 700 < Int32.ofNat n from fun x => by have := (i_lt (by omega) (by omega)).mp x; omega)]
  dsimp only
  have f0 : x_fr [(2, 3), (3, 99999), (4, 99999), (5, 99999)] σ (x_pI σ 2 3 0) := x_frI (p := 2) (k := 3) rfl x_fr.rf
  refine x_ens.bi (c_split_L (σ := σ) hn hg n 0 0 0 10000 (x_pI σ 2 3 0) (by omega) (by omega) (by omega) (by omega) rfl ⟨x_pI_kk, fun i hi => by omega⟩ (fun i hi => by omega) f0) ?_
  rintro b ⟨m, hm, t1, t2, t3, f⟩
  refine x_ens.bi (e_addTok t1 (by omega) (by rw [t3]) (by rw [t3]) (by rw [t3])) ?_
  rintro q ⟨t4, f4⟩
  exact x_ens.so ⟨m, hm, t4, t2, t3, x_fr.trans f f4⟩
