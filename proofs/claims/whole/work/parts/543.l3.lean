theorem e_byteAt {σ : xS} {g : Nat → Int32} {n k : Nat} (hn : n ≤ 700) (h19 : σ.1 60 19 = Int32.ofNat n) (hg : ∀ i, i < n → σ.1 67 i = g i) (hk : k ≤ 700) : f_Mo_byteAt_60 (Int32.ofNat k) σ = some (if n ≤ k then 0 else g k, σ) := by
  unfold f_Mo_byteAt_60
  rw [h19]
  by_cases h : n ≤ k
  · rw [if_pos ((i_le (by omega) (by omega)).mpr h), if_pos h]
  · rw [if_neg (fun x => h ((i_le (by omega) (by omega)).mp x)), if_neg h, if_neg (i_ix (by omega) (by omega)), i_cl (by omega), hg k (by omega)]
theorem m_skip {σ : xS} {g : Nat → Int32} {n : Nat} (hn : n ≤ 700) : ∀ (d p fu : Nat) (τ : xS), p + d = n → d < fu → x_fr [(60, 20)] σ τ → τ.1 60 20 = Int32.ofNat p → τ.1 60 19 = Int32.ofNat n → (∀ i, i < n → τ.1 67 i = g i) → x_ens (x_it f_Mo_goes_60_L0 fu τ) (fun b => x_fr [(60, 20)] σ b ∧ b.1 60 20 = Int32.ofNat (tk_e tk_b g d p))
  | d, p, 0, τ, _, h, _, _, _, _ => by omega
  | 0, p, fu + 1, τ, h1, h2, f, e20, e19, hg => by
    refine x_nx fun P kL kR => ?_
    unfold f_Mo_goes_60_L0
    dsimp only
    rw [e20, e19, if_pos (by rw [i_le (by omega) (by omega)]; omega)]
    exact kL _ ⟨f, e20⟩
  | d + 1, p, fu + 1, τ, h1, h2, f, e20, e19, hg => by
    refine x_nx fun P kL kR => ?_
    unfold f_Mo_goes_60_L0
    dsimp only
    rw [e20, e19, if_neg (by rw [i_le (by omega) (by omega)]; omega), e_byteAt hn e19 hg (by omega), if_neg (show ¬ n ≤ p by omega)]
    dsimp only [Option.bind_some]
    have go : tk_b (g p) = true → x_ens (some (Sum.inr (x_pI τ 60 20 (Int32.ofNat (p + 1))))) P := by
      intro hb
      refine kR _ ?_
      rw [tk_e, if_pos hb]
      exact m_skip hn d (p + 1) fu _ (by omega) (by omega) (x_frI (p := 60) (k := 20) rfl f) x_pI_kk (by rw [x_pI_kn (by omega)]; exact e19) (by rw [y_pI_ne (by omega)]; exact hg)
    rw [e20, i_s]
    by_cases h32 : g p = 32
    · rw [if_pos h32]; exact go (decide_eq_true_iff.mpr (Or.inl h32))
    · rw [if_neg h32, e_byteAt hn e19 hg (by omega), if_neg (show ¬ n ≤ p by omega)]
      dsimp only [Option.bind_some]
      rw [e20, i_s]
      by_cases h10 : g p = 10
      · rw [if_pos h10]; exact go (decide_eq_true_iff.mpr (Or.inr h10))
      · rw [if_neg h10]
        refine kL _ ⟨f, ?_⟩
        rw [tk_e, if_neg (fun x => (decide_eq_true_iff.mp x).elim h32 h10)]
        exact e20
def tk_pk (g : Nat → Int32) (s : Nat) : Nat → Int64
  | 0 => 0
  | i + 1 => (tk_pk g s i <<< ((5 : Int32).toInt64 &&& 63)) ||| (g (s + i) - 96).toInt64
theorem m_let {σ : xS} {g : Nat → Int32} {n s : Nat} (hn : n ≤ 700) : ∀ (d i fu : Nat) (τ : xS), s + i + d = n → d < fu → x_fr [(60, 20), (60, 26)] σ τ → τ.1 60 20 = Int32.ofNat (s + i) → τ.1 60 22 = Int32.ofNat s → τ.2 60 26 = tk_pk g s (if i ≤ 6 then i else 6) → τ.1 60 19 = Int32.ofNat n → (∀ i, i < n → τ.1 67 i = g i) →
    x_ens (x_it f_Mo_goes_60_L108 fu τ) (fun b => x_fr [(60, 20), (60, 26)] σ b ∧ b.1 60 20 = Int32.ofNat (tk_e tk_l g d (s + i)) ∧ b.2 60 26 = tk_pk g s (if tk_e tk_l g d (s + i) - s ≤ 6 then tk_e tk_l g d (s + i) - s else 6))
  | d, i, 0, τ, _, h, _, _, _, _, _, _ => by omega
  | 0, i, fu + 1, τ, h1, h2, f, e20, e22, e26, e19, hg => by
    refine x_nx fun P kL kR => ?_
    unfold f_Mo_goes_60_L108
    dsimp only
    rw [e20, e_byteAt hn e19 hg (by omega), if_pos (show n ≤ s + i by omega)]
    dsimp only [Option.bind_some]
    rw [e_MisL]
    dsimp only [Option.bind_some]
    rw [if_neg (show ¬ tk_l 0 = true by decide), if_pos rfl]
    exact kL _ ⟨f, e20, by show _ = tk_pk g s (if s + i - s ≤ 6 then s + i - s else 6); rw [show s + i - s = i by omega]; exact e26⟩
  | d + 1, i, fu + 1, τ, h1, h2, f, e20, e22, e26, e19, hg => by
    refine x_nx fun P kL kR => ?_
    unfold f_Mo_goes_60_L108
    dsimp only
    rw [e20, e_byteAt hn e19 hg (by omega), if_neg (show ¬ n ≤ s + i by omega)]
    dsimp only [Option.bind_some]
    rw [e_MisL]
    dsimp only [Option.bind_some]
    by_cases hL : tk_l (g (s + i)) = true
    · rw [if_pos hL, if_neg (by decide), e20, e22, i_subn (by omega), show s + i - s = i by omega]
      by_cases h6 : 6 ≤ i
      · rw [if_pos (show (6 : Int32) ≤ Int32.ofNat i from (i_le (j := 6) (by omega) (by omega)).mpr h6), i_s]
        refine kR _ ?_
        rw [tk_e, if_pos hL]
        refine m_let hn d (i + 1) fu _ (by omega) (by omega) (x_frI (p := 60) (k := 20) rfl f) x_pI_kk (by rw [x_pI_kn (by omega)]; exact e22) ?_ (by rw [x_pI_kn (by omega)]; exact e19) (by rw [y_pI_ne (by omega)]; exact hg)
        show τ.2 60 26 = _
        rw [if_neg (show ¬ i + 1 ≤ 6 by omega), e26]
        by_cases h66 : i ≤ 6
        · rw [if_pos h66, show i = 6 by omega]
        · rw [if_neg h66]
      · rw [if_neg (show ¬ (6 : Int32) ≤ Int32.ofNat i from fun x => h6 ((i_le (j := 6) (by omega) (by omega)).mp x)), e_byteAt hn e19 hg (by omega), if_neg (show ¬ n ≤ s + i by omega)]
        dsimp only [Option.bind_some]
        rw [show (x_pL τ 60 26 (τ.2 60 26 <<< ((5 : Int32).toInt64 &&& 63) ||| (g (s + i) - 96).toInt64)).1 60 20 = Int32.ofNat (s + i) from e20, i_s]
        refine kR _ ?_
        rw [tk_e, if_pos hL]
        refine m_let hn d (i + 1) fu _ (by omega) (by omega) (x_frI (p := 60) (k := 20) rfl (x_frL (p := 60) (k := 26) rfl f)) x_pI_kk (by rw [x_pI_kn (by omega)]; exact e22) ?_ (by rw [x_pI_kn (by omega)]; exact e19) (by rw [y_pI_ne (by omega)]; exact hg)
        rw [if_pos (show i + 1 ≤ 6 by omega), tk_pk]
        rw [if_pos (show i ≤ 6 by omega)] at e26
        rw [← e26]
        show (if 60 = 60 ∧ 26 = 26 then τ.2 60 26 <<< ((5 : Int32).toInt64 &&& 63) ||| (g (s + i) - 96).toInt64 else τ.2 60 26) = _
        rw [if_pos ⟨rfl, rfl⟩]
    · rw [if_neg hL, if_pos rfl]
      refine kL _ ?_
      rw [tk_e, if_neg hL, show s + i - s = i by omega]
      exact ⟨f, e20, e26⟩
theorem i_10 {v b : Int32} : 10 * v + b - 48 = v * 10 + b - 48 := by grind
theorem m_dig {σ : xS} {g : Nat → Int32} {n s : Nat} (hn : n ≤ 700) : ∀ (d i fu : Nat) (τ : xS), s + i + d = n → d < fu → x_fr [(60, 20), (60, 24)] σ τ → τ.1 60 20 = Int32.ofNat (s + i) → τ.1 60 22 = Int32.ofNat s → τ.1 60 24 = tk_nu g s (if i ≤ 4 then i else 4) → τ.1 60 19 = Int32.ofNat n → (∀ i, i < n → τ.1 67 i = g i) →
    x_ens (x_it f_Mo_goes_60_L187 fu τ) (fun b => x_fr [(60, 20), (60, 24)] σ b ∧ b.1 60 20 = Int32.ofNat (tk_e tk_d g d (s + i)) ∧ b.1 60 24 = tk_nu g s (if tk_e tk_d g d (s + i) - s ≤ 4 then tk_e tk_d g d (s + i) - s else 4))
  | d, i, 0, τ, _, h, _, _, _, _, _, _ => by omega
  | 0, i, fu + 1, τ, h1, h2, f, e20, e22, e26, e19, hg => by
    refine x_nx fun P kL kR => ?_
    unfold f_Mo_goes_60_L187
    dsimp only
    rw [e20, e_byteAt hn e19 hg (by omega), if_pos (show n ≤ s + i by omega)]
    dsimp only [Option.bind_some]
    rw [e_MisD]
    dsimp only [Option.bind_some]
    rw [if_neg (show ¬ tk_d 0 = true by decide), if_pos rfl]
    exact kL _ ⟨f, e20, by show _ = tk_nu g s (if s + i - s ≤ 4 then s + i - s else 4); rw [show s + i - s = i by omega]; exact e26⟩
  | d + 1, i, fu + 1, τ, h1, h2, f, e20, e22, e26, e19, hg => by
    refine x_nx fun P kL kR => ?_
    unfold f_Mo_goes_60_L187
    dsimp only
    rw [e20, e_byteAt hn e19 hg (by omega), if_neg (show ¬ n ≤ s + i by omega)]
    dsimp only [Option.bind_some]
    rw [e_MisD]
    dsimp only [Option.bind_some]
    by_cases hL : tk_d (g (s + i)) = true
    · rw [if_pos hL, if_neg (by decide), e20, e22, i_subn (by omega), show s + i - s = i by omega]
      by_cases h6 : 4 ≤ i
      · rw [if_pos (show (4 : Int32) ≤ Int32.ofNat i from (i_le (j := 4) (by omega) (by omega)).mpr h6), i_s]
        refine kR _ ?_
        rw [tk_e, if_pos hL]
        refine m_dig hn d (i + 1) fu _ (by omega) (by omega) (x_frI (p := 60) (k := 20) rfl f) x_pI_kk (by rw [x_pI_kn (by omega)]; exact e22) ?_ (by rw [x_pI_kn (by omega)]; exact e19) (by rw [y_pI_ne (by omega)]; exact hg)
        rw [x_pI_kn (by omega), if_neg (show ¬ i + 1 ≤ 4 by omega), e26]
        by_cases h66 : i ≤ 4
        · rw [if_pos h66, show i = 4 by omega]
        · rw [if_neg h66]
      · rw [if_neg (show ¬ (4 : Int32) ≤ Int32.ofNat i from fun x => h6 ((i_le (j := 4) (by omega) (by omega)).mp x)), e_byteAt hn e19 hg (by omega), if_neg (show ¬ n ≤ s + i by omega)]
        dsimp only [Option.bind_some]
        rw [x_pI_kn (show 20 ≠ 24 by omega), e20, i_s]
        refine kR _ ?_
        rw [tk_e, if_pos hL]
        refine m_dig hn d (i + 1) fu _ (by omega) (by omega) (x_frI (p := 60) (k := 20) rfl (x_frI (p := 60) (k := 24) rfl f)) x_pI_kk (by rw [x_pI_kn (by omega), x_pI_kn (by omega)]; exact e22) ?_ (by rw [x_pI_kn (by omega), x_pI_kn (by omega)]; exact e19) (by rw [y_pI_ne (by omega), y_pI_ne (by omega)]; exact hg)
        rw [if_pos (show i ≤ 4 by omega)] at e26
        rw [x_pI_kn (by omega), x_pI_kk, if_pos (show i + 1 ≤ 4 by omega), tk_nu, ← e26, i_10]
    · rw [if_neg hL, if_pos rfl]
      refine kL _ ?_
      rw [tk_e, if_neg hL, show s + i - s = i by omega]
      exact ⟨f, e20, e26⟩
def x_mt (g : Nat → Int32) (n : Nat) (σ : xS) (t : Int32 × Int32 × Nat × Nat) : Prop :=
  σ.1 60 20 = Int32.ofNat t.2.2.2 ∧ σ.1 60 21 = t.1 ∧ σ.1 60 22 = Int32.ofNat t.2.2.1 ∧ σ.1 60 23 = Int32.ofNat (t.2.2.2 - t.2.2.1) ∧
  (t.1 = 2 → if t.2.2.2 - t.2.2.1 ≤ 4 then σ.1 60 24 = t.2.1 else t.2.1 = -1) ∧ (t.1 = 3 → σ.1 60 25 = t.2.1) ∧
  (t.1 = 1 → t.2.1 = Int32.ofNat (tk_w g t.2.2.1 t.2.2.2) ∧ (t.2.2.2 - t.2.2.1 ≤ 6 → σ.2 60 26 = tk_pk g t.2.2.1 (t.2.2.2 - t.2.2.1)) ∧ (∀ i, t.2.2.1 ≤ i → i < t.2.2.2 → tk_l (g i) = true))
theorem tk_e_all {P : Int32 → Bool} {g : Nat → Int32} : ∀ {k p i : Nat}, p ≤ i → i < tk_e P g k p → P (g i) = true
  | 0, p, i, h1, h2 => by unfold tk_e at h2; omega
  | k + 1, p, i, h1, h2 => by
    unfold tk_e at h2
    by_cases h : P (g p) = true
    · rw [if_pos h] at h2
      by_cases e : i = p
      · subst e; exact h
      · exact tk_e_all (by omega) h2
    · rw [if_neg h] at h2; omega
theorem m_goes {σ : xS} {g : Nat → Int32} {n p : Nat} (hn : n ≤ 700) (hp : p ≤ n) (e20 : σ.1 60 20 = Int32.ofNat p) (e19 : σ.1 60 19 = Int32.ofNat n) (hg : ∀ i, i < n → σ.1 67 i = g i) : x_ens (f_Mo_goes_60 σ) (fun q => x_mt g n q.2 (tk g n p)) := by
  unfold f_Mo_goes_60
  refine x_ens.bi (m_skip (σ := σ) hn (n - p) p 10000 σ (by omega) (by omega) x_fr.rf e20 e19 hg) ?_
  rintro b ⟨f1, b20⟩
  unfold tk
  have hb := @tk_e_b tk_b g (n - p) p
  generalize tk_e tk_b g (n - p) p = s at b20 hb
  have hs : s ≤ n := by omega
  have b19 : b.1 60 19 = Int32.ofNat n := (f1.ck 60 19 rfl).trans e19
  have bg : ∀ i, i < n → b.1 67 i = g i := by rw [f1.ce 67 rfl]; exact hg
  unfold f_Mo_goes_60_J50
  dsimp only
  rw [b20]
  have f2 : x_fr [(60, 22), (60, 24), (60, 26)] b (x_pI (x_pL (x_pI b 60 22 (Int32.ofNat s)) 60 26 0) 60 24 0) := x_frI (p := 60) (k := 24) rfl (x_frL (p := 60) (k := 26) rfl (x_frI (p := 60) (k := 22) rfl x_fr.rf))
  have c22 : (x_pI (x_pL (x_pI b 60 22 (Int32.ofNat s)) 60 26 0) 60 24 0).1 60 22 = Int32.ofNat s := by rw [x_pI_kn (by omega)]; exact (x_pI_kk : (x_pI b 60 22 (Int32.ofNat s)).1 60 22 = Int32.ofNat s)
  have c24 : (x_pI (x_pL (x_pI b 60 22 (Int32.ofNat s)) 60 26 0) 60 24 0).1 60 24 = 0 := x_pI_kk
  have c26 : (x_pI (x_pL (x_pI b 60 22 (Int32.ofNat s)) 60 26 0) 60 24 0).2 60 26 = 0 := by
    show (if 60 = 60 ∧ 26 = 26 then (0 : Int64) else b.2 60 26) = 0
    rw [if_pos ⟨rfl, rfl⟩]
  generalize x_pI (x_pL (x_pI b 60 22 (Int32.ofNat s)) 60 26 0) 60 24 0 = υ at f2 c22 c24 c26
  have u20 : υ.1 60 20 = Int32.ofNat s := (f2.ck 60 20 rfl).trans b20
  have u19 : υ.1 60 19 = Int32.ofNat n := (f2.ck 60 19 rfl).trans b19
  have ug : ∀ i, i < n → υ.1 67 i = g i := by rw [f2.ce 67 rfl]; exact bg
  rw [u20, e_byteAt hn u19 ug (by omega)]
  dsimp only [Option.bind_some]
  have f3 : ∀ w, x_fr [(60, 25)] υ (x_pI υ 60 25 w) := fun w => x_frI (p := 60) (k := 25) rfl x_fr.rf
  by_cases h0 : n ≤ s
  · have es : s = n := by omega
    rw [if_pos h0, (f3 _).ck 60 20 rfl, (f3 _).ck 60 19 rfl, u20, u19, if_neg (by rw [i_lt (by omega) (by omega)]; omega)]
    unfold tk_at
    rw [if_pos h0]
    refine x_ens.so ?_
    have e22 : (x_pI (x_pI υ 60 25 0) 60 21 0).1 60 22 = Int32.ofNat s := by rw [x_pI_kn (by omega), x_pI_kn (by omega)]; exact c22
    have e20' : (x_pI (x_pI υ 60 25 0) 60 21 0).1 60 20 = Int32.ofNat s := by rw [x_pI_kn (by omega), x_pI_kn (by omega)]; exact u20
    dsimp only
    rw [e20', e22, i_subn (Nat.le_refl _)]
    refine ⟨?_, ?_, ?_, ?_, fun x => absurd (show (0 : Int32) = 2 from x) (by decide), fun x => absurd (show (0 : Int32) = 3 from x) (by decide), fun x => absurd (show (0 : Int32) = 1 from x) (by decide)⟩
    · rw [x_pI_kn (by omega), e20', es]
    · rw [x_pI_kn (by omega)]; exact x_pI_kk
    · rw [x_pI_kn (by omega), e22, es]
    · rw [x_pI_kk]; dsimp only; rw [Nat.sub_self, Nat.sub_self]
  · rw [if_neg h0, (f3 _).ck 60 20 rfl, (f3 _).ck 60 19 rfl, u20, u19, if_pos (by rw [i_lt (by omega) (by omega)]; omega), e_MisL]
    dsimp only [Option.bind_some]
    unfold tk_at
    rw [if_neg h0]
    have v20 : ∀ w, (x_pI υ 60 25 w).1 60 20 = Int32.ofNat s := fun w => by rw [x_pI_kn (by omega)]; exact u20
    have v22 : ∀ w, (x_pI υ 60 25 w).1 60 22 = Int32.ofNat s := fun w => by rw [x_pI_kn (by omega)]; exact c22
    by_cases hL : tk_l (g s) = true
    · rw [if_pos hL, if_pos hL, if_neg (by decide)]
      refine x_ens.bi (m_let (σ := x_pI υ 60 25 (g s)) (s := s) hn (n - s) 0 10000 (x_pI υ 60 25 (g s)) (by omega) (by omega) x_fr.rf (v20 _) (v22 _) c26 ((f3 _).ck 60 19 rfl |>.trans u19) (by rw [(f3 _).ce 67 rfl]; exact ug)) ?_
      rintro b33 ⟨f5, e5, e6⟩
      rw [Nat.add_zero] at e5 e6
      have hb2 := @tk_e_b tk_l g (n - s) s
      have hall : ∀ i, s ≤ i → i < tk_e tk_l g (n - s) s → tk_l (g i) = true := fun i h1 h2 => tk_e_all h1 h2
      generalize tk_e tk_l g (n - s) s = e at e5 e6 hb2 hall
      have e22 : b33.1 60 22 = Int32.ofNat s := (f5.ck 60 22 rfl).trans (v22 _)
      try dsimp only
      rw [x_pI_kn (show 20 ≠ 21 by omega), x_pI_kn (show 22 ≠ 21 by omega), e5, e22, i_subn (by omega)]
      refine x_ens.so ⟨?_, ?_, ?_, ?_, fun x => absurd (show (1 : Int32) = 2 from x) (by decide), fun x => absurd (show (1 : Int32) = 3 from x) (by decide), fun _ => ⟨rfl, fun h6 => ?_, hall⟩⟩
      · rw [x_pI_kn (by omega), x_pI_kn (by omega)]; exact e5
      · rw [x_pI_kn (by omega)]; exact x_pI_kk
      · rw [x_pI_kn (by omega), x_pI_kn (by omega)]; exact e22
      · exact x_pI_kk
      · dsimp only at h6 ⊢
        rw [if_pos h6] at e6
        exact e6
    · rw [if_neg hL, if_neg hL, if_pos rfl, e_MisD]
      dsimp only [Option.bind_some]
      by_cases hD : tk_d (g s) = true
      · rw [if_pos hD, if_pos hD, if_neg (by decide)]
        refine x_ens.bi (m_dig (σ := x_pI υ 60 25 (g s)) (s := s) hn (n - s) 0 10000 (x_pI υ 60 25 (g s)) (by omega) (by omega) x_fr.rf (v20 _) (v22 _) (by rw [x_pI_kn (by omega)]; exact c24) ((f3 _).ck 60 19 rfl |>.trans u19) (by rw [(f3 _).ce 67 rfl]; exact ug)) ?_
        rintro b33 ⟨f5, e5, e6⟩
        rw [Nat.add_zero] at e5 e6
        have hb2 := @tk_e_b tk_d g (n - s) s
        generalize tk_e tk_d g (n - s) s = e at e5 e6 hb2
        have e22 : b33.1 60 22 = Int32.ofNat s := (f5.ck 60 22 rfl).trans (v22 _)
        try dsimp only
        rw [x_pI_kn (show 20 ≠ 21 by omega), x_pI_kn (show 22 ≠ 21 by omega), e5, e22, i_subn (by omega)]
        refine x_ens.so ⟨?_, ?_, ?_, ?_, fun _ => ?_, fun x => absurd (show (2 : Int32) = 3 from x) (by decide), fun x => absurd (show (2 : Int32) = 1 from x) (by decide)⟩
        · rw [x_pI_kn (by omega), x_pI_kn (by omega)]; exact e5
        · rw [x_pI_kn (by omega)]; exact x_pI_kk
        · rw [x_pI_kn (by omega), x_pI_kn (by omega)]; exact e22
        · exact x_pI_kk
        · dsimp only
          unfold tk_n
          by_cases h4 : e - s ≤ 4
          · rw [if_pos h4] at e6
            rw [if_pos h4, if_pos h4, x_pI_kn (by omega), x_pI_kn (by omega)]; exact e6
          · rw [if_neg h4, if_neg h4]
      · rw [if_neg hD, if_neg hD, if_pos rfl, v20, i_s]
        have key : ∀ w : Int32, (w = 3 ∨ w = 4) → x_mt g n (x_pI (x_pI (x_pI (x_pI υ 60 25 (g s)) 60 20 (Int32.ofNat (s + 1))) 60 21 w) 60 23 (Int32.ofNat (s + 1 - s))) (w, g s, s, s + 1) := by
          intro w hw
          refine ⟨?_, ?_, ?_, x_pI_kk, fun x => ?_, fun x => ?_, fun x => ?_⟩
          · rw [x_pI_kn (by omega), x_pI_kn (by omega)]; exact x_pI_kk
          · rw [x_pI_kn (by omega)]; exact x_pI_kk
          · rw [x_pI_kn (by omega), x_pI_kn (by omega), x_pI_kn (by omega)]; exact v22 _
          · dsimp only at x; rcases hw with rfl | rfl <;> exact absurd x (by decide)
          · rw [x_pI_kn (by omega), x_pI_kn (by omega), x_pI_kn (by omega)]; exact x_pI_kk
          · dsimp only at x; rcases hw with rfl | rfl <;> exact absurd x (by decide)
        have e20w : ∀ w, (x_pI (x_pI (x_pI υ 60 25 (g s)) 60 20 (Int32.ofNat (s + 1))) 60 21 w).1 60 20 = Int32.ofNat (s + 1) := fun w => by rw [x_pI_kn (by omega)]; exact x_pI_kk
        have e22w : ∀ w, (x_pI (x_pI (x_pI υ 60 25 (g s)) 60 20 (Int32.ofNat (s + 1))) 60 21 w).1 60 22 = Int32.ofNat s := fun w => by rw [x_pI_kn (by omega), x_pI_kn (by omega)]; exact v22 _
        have e3 : f_Mo_goes_60_J323 (x_pI (x_pI υ 60 25 (g s)) 60 20 (Int32.ofNat (s + 1))) = some ((), x_pI (x_pI (x_pI (x_pI υ 60 25 (g s)) 60 20 (Int32.ofNat (s + 1))) 60 21 3) 60 23 (Int32.ofNat (s + 1 - s))) := by
          unfold f_Mo_goes_60_J323
          dsimp only
          rw [e20w, e22w, i_subn (by omega)]
        rw [e3, e20w, e22w, i_subn (by omega)]
        by_cases hS : g s = 59 ∨ g s = 40 ∨ g s = 41 ∨ g s = 43 ∨ g s = 45 ∨ g s = 42 ∨ g s = 47 ∨ g s = 60 ∨ g s = 61
        · rw [if_pos (show tk_s (g s) = true from decide_eq_true_iff.mpr hS)]
          have k3 := key 3 (Or.inl rfl)
          rcases hS with h | h | h | h | h | h | h | h | h <;> (rw [h] at k3 ⊢; exact x_ens.so k3)
        · rw [if_neg (show ¬ tk_s (g s) = true from fun x => hS (decide_eq_true_iff.mp x))]
          have k4 := key 4 (Or.inr rfl)
          simp only [not_or] at hS
          obtain ⟨h1, h2, h3, h4, h5, h6, h7, h8, h9⟩ := hS
          rw [if_neg h1, if_neg h2, if_neg h3, if_neg h4, if_neg h5, if_neg h6, if_neg h7, if_neg h8, if_neg h9]
          exact x_ens.so k4
