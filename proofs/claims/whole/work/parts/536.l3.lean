abbrev x_WN : List (Nat × Nat) := [(79, 99999), (82, 99999), (83, 99999), (84, 99999), (85, 99999), (86, 99999), (87, 99999), (89, 99999)]
theorem m_mk_L {C : Nat → Nat → Int32} {S : Nat → Int32} {σ : xS} {n m : Nat} {w : Int32} (G : x_G C) (R : x_R C S (sp_nk C)) (hm : m ≤ 3) (hmn : m ≤ n) (en : (sp_pls C (sp_nm C)).length = n) (M : x_M C σ) (A6 : σ.1 79 0 = S 0 ∧ σ.1 79 1 = S 1 ∧ σ.1 79 2 = S 2 ∧ σ.1 79 3 = S 3 ∧ σ.1 79 4 = S 5 ∧ σ.1 79 5 = S 4) (h4 : σ.1 60 4 = Int32.ofNat m) (hz : σ.1 60 59 = 0 ∧ σ.1 60 60 = 0 ∧ σ.1 60 64 = 0) (hli : x_li (σ.1 60 69) (σ.1 88) (sp_pls C (sp_nm C))) :
    ∀ (d k fu : Nat) (x y : Nat × Nat × Nat) (b : Int32) (τ : xS), k + d = 300 → d + 1 < fu → sp_seq n m k = some x → x_vn n m x → x_fr x_WN σ τ → (∀ k, k < 6 ∨ 6 + m ≤ k → τ.1 79 k = σ.1 79 k) → x_rw (τ.1 89) m x → (b = -1 ∨ ∀ i, i < m → τ.1 87 i = sp_pi (sp_pls C (sp_nm C)) y i) →
    x_ens (x_it (f_Mo_marks_60_L117 (Int32.ofNat m) w) fu (b, 1, τ)) (fun r => r.1 = (sp_mk C S n m d x b y).1 ∧ x_fr x_WN σ r.2.2 ∧ (r.1 = -1 ∨ ∀ i, i < m → r.2.2.1 87 i = sp_pi (sp_pls C (sp_nm C)) (sp_mk C S n m d x b y).2 i))
  | d, k, 0, x, y, b, τ, _, h, _, _, _, _, _, _ => by omega
  | 0, k, fu + 1, x, y, b, τ, h1, _, hs, _, _, _, _, _ => by
    have hn : n ≤ 13 := by rw [← en]; have := @sp_pls_len C (sp_nm C); have := G.1.2; omega
    rw [show k = 300 by omega, sp_seq_end n (by omega) m (by omega) hmn] at hs
    cases hs
  | d + 1, k, fu + 1, x, y, b, τ, h1, h2, hs, hv, f, ho, hr, hk => by
    have hn : n ≤ 13 := by rw [← en]; have := @sp_pls_len C (sp_nm C); have := G.1.2; omega
    have hl : (sp_pls C (sp_nm C)).length ≤ 13 := by omega
    have hx : ∀ i, i < m → sp_x x i < (sp_pls C (sp_nm C)).length := fun i hi => by rw [en]; exact sp_x_b hn hmn hv hi
    refine x_nx fun P kL kR => ?_
    unfold f_Mo_marks_60_L117
    dsimp only
    rw [if_neg (by decide)]
    refine x_ens.bi (m_put (w := w) (z := b) hm hl (by rw [f.ck 60 69 rfl, f.ce 88 rfl]; exact hli) hr hx) ?_
    rintro b9 ⟨f3, p2, p3⟩
    have g3 : x_fr x_WN σ b9.2 := x_fr.trans f (x_fr.su f3 rfl)
    have o3 : ∀ k, k < 6 ∨ 6 + m ≤ k → b9.2.1 79 k = σ.1 79 k := fun k hk => (p3 k hk).trans (ho k hk)
    have RT := x_RTx (n := n) G R hm hx
    have St : x_S (sp_Tx S (sp_pls C (sp_nm C)) m x) m b9.2 := by
      refine ⟨⟨?_, ?_, ?_, ?_, ?_, ?_⟩, fun i hi => by rw [sp_Tx_in hi]; exact p2 i hi, by rw [g3.ck 60 4 rfl]; exact h4⟩
      · rw [sp_Tx_out (k := 0) (by omega), o3 0 (by omega)]; exact A6.1
      · rw [sp_Tx_out (k := 1) (by omega), o3 1 (by omega)]; exact A6.2.1
      · rw [sp_Tx_out (k := 2) (by omega), o3 2 (by omega)]; exact A6.2.2.1
      · rw [sp_Tx_out (k := 3) (by omega), o3 3 (by omega)]; exact A6.2.2.2.1
      · rw [sp_Tx_out (k := 5) (by omega), o3 4 (by omega)]; exact A6.2.2.2.2.1
      · rw [sp_Tx_out (k := 4) (by omega), o3 5 (by omega)]; exact A6.2.2.2.2.2
    refine x_ens.bf (e_Mo_takesSharp (T := sp_Tx S (sp_pls C (sp_nm C)) m x) (n := m) (late := 0) (sh := 0) (ah := 0) G (M.fr g3 rfl rfl rfl rfl rfl rfl rfl) St RT (by rw [g3.ck 60 59 rfl]; exact hz.1) (by rw [g3.ck 60 60 rfl]; exact hz.2.1) (by rw [g3.ck 60 64 rfl]; exact hz.2.2) (by decide) (by decide)) (fun q e => fr_Mo_takesSharp_60 e) ?_
    rintro q10 ⟨hq, -, -⟩ f4
    have hq' : q10.1 = wsc_mk C S m x := hq
    have g4 : x_fr x_WN σ q10.2 := x_fr.trans g3 (x_fr.su f4 rfl)
    have o4 : ∀ k, k < 6 ∨ 6 + m ≤ k → q10.2.1 79 k = σ.1 79 k := by rw [f4.ce 79 rfl]; exact o3
    have r4 : x_rw (q10.2.1 89) m x := by rw [f4.ce 89 rfl, f3.ce 89 rfl]; exact hr
    rw [hq']
    have step : ∀ (ω : xS) (b' : Int32) (y' : Nat × Nat × Nat), x_fr x_WN σ ω → (∀ k, k < 6 ∨ 6 + m ≤ k → ω.1 79 k = σ.1 79 k) → x_rw (ω.1 89) m x → b' = (if wsc_mk C S m x ≤ b then b else wsc_mk C S m x) → y' = (if wsc_mk C S m x ≤ b then y else x) → (b' = -1 ∨ ∀ i, i < m → ω.1 87 i = sp_pi (sp_pls C (sp_nm C)) y' i) → x_ens ((f_Mo_nextNumbers_60 (Int32.ofNat m) ω).bind fun q12 => some (Sum.inr (b', q12.1, q12.2))) P := by
      intro ω b' y' gw ow rw5 hb' hy' hk'
      refine x_ens.bf (m_nextN hn hm hmn (by rw [gw.ck 60 69 rfl, hli.1, en]) rw5 hv) (fun q e => fr_Mo_nextNumbers_60 e) ?_
      intro q5 h5 f5
      have g5 : x_fr x_WN σ q5.2 := x_fr.trans gw (x_fr.su f5 rfl)
      have hk5 : b' = -1 ∨ ∀ i, i < m → q5.2.1 87 i = sp_pi (sp_pls C (sp_nm C)) y' i := by rw [f5.ce 87 rfl]; exact hk'
      refine kR _ ?_
      rw [sp_mk, ← hb', ← hy']
      cases hnx : sp_nxt n m x with
      | none =>
        rw [hnx] at h5
        dsimp only at h5 ⊢
        rw [h5]
        obtain ⟨fu', rfl⟩ : ∃ fu', fu = fu' + 1 := ⟨fu - 1, by omega⟩
        refine x_nx fun P kL kR => ?_
        unfold f_Mo_marks_60_L117
        dsimp only
        rw [if_pos rfl]
        exact kL _ ⟨rfl, g5, hk5⟩
      | some z =>
        rw [hnx] at h5
        dsimp only at h5 ⊢
        rw [h5.1]
        exact m_mk_L G R hm hmn en M A6 h4 hz hli d (k + 1) fu z y' b' q5.2 (by omega) (by omega) (by rw [sp_seq, hs]; exact hnx) (hv.nxt hm hnx) g5 (by rw [f5.ce 79 rfl]; exact ow) h5.2 hk5
    by_cases hc : wsc_mk C S m x ≤ b
    · rw [if_pos hc]
      refine step q10.2 b y g4 o4 r4 (by rw [if_pos hc]) (by rw [if_pos hc]) ?_
      rw [f4.ce 87 rfl, f3.ce 87 rfl]; exact hk
    · rw [if_neg hc]
      refine x_ens.bi (m_keep (w := w) (z := wsc_mk C S m x) hm hl (by rw [g4.ck 60 69 rfl, g4.ce 88 rfl]; exact hli) r4 hx) ?_
      rintro b14 ⟨f8, k2⟩
      exact step b14.2 (wsc_mk C S m x) x (x_fr.trans g4 (x_fr.su f8 rfl)) (by rw [f8.ce 79 rfl]; exact o4) (by rw [f8.ce 89 rfl]; exact r4) (by rw [if_neg hc]) (by rw [if_neg hc]) (Or.inr k2)
theorem sp_mk_0 {C : Nat → Nat → Int32} {S : Nat → Int32} {n m : Nat} (G : x_G C) : ∀ (d : Nat) (x y : Nat × Nat × Nat) (b : Int32), 0 ≤ b → 0 ≤ (sp_mk C S n m d x b y).1
  | 0, _, _, b, h => h
  | d + 1, x, y, b, h => by
    have h2 : 0 ≤ (if wsc_mk C S m x ≤ b then b else wsc_mk C S m x) := by
      split
      · exact h
      · exact sp_SH_0 G
    unfold sp_mk
    cases sp_nxt n m x with
    | none => exact h2
    | some z => exact sp_mk_0 G d z _ _ h2
theorem sp_mk_1 {C : Nat → Nat → Int32} {S : Nat → Int32} {n m : Nat} (G : x_G C) {d : Nat} {x y : Nat × Nat × Nat} : ¬ (sp_mk C S n m (d + 1) x (-1) y).1 = -1 := by
  have h0 : 0 ≤ wsc_mk C S m x := sp_SH_0 G
  have h2 : (if wsc_mk C S m x ≤ -1 then -1 else wsc_mk C S m x) = wsc_mk C S m x := if_neg (i_n1 h0)
  have : 0 ≤ (sp_mk C S n m (d + 1) x (-1) y).1 := by
    unfold sp_mk
    rw [h2]
    cases sp_nxt n m x with
    | none => exact h0
    | some z => exact sp_mk_0 G d z _ _ h0
  exact i_m11 this
theorem e_Mo_cp_79_80 {σ : xS} : x_ens (f_Mo_copies_60_79_80 σ) (fun q => (∀ k, k < 12 → q.2.1 80 k = σ.1 79 k) ∧ x_fr [(80, 99999)] σ q.2) := by
  unfold f_Mo_copies_60_79_80
  refine x_ens.bi (P := fun b => (∀ k, k < 12 → b.2.1 80 k = σ.1 79 k) ∧ x_fr [(80, 99999)] σ b.2) ?_ (fun b hb => x_ens.so hb)
  refine x_iv.go (fun i a => a.1 = Int32.ofNat i ∧ (∀ k, k < i → a.2.1 80 k = σ.1 79 k) ∧ x_fr [(80, 99999)] σ a.2) 12 (by omega) ⟨rfl, fun k hk => by omega, x_fr.rf⟩ ?_
  rintro i ⟨v, τ⟩ hi ⟨h1, h2, h3⟩
  dsimp only at h1 h2 h3
  subst h1
  unfold f_Mo_copies_60_79_80_L2
  dsimp only
  by_cases hx : i = 12
  · subst hx
    rw [if_pos (by decide)]
    exact x_iv.l ⟨h2, h3⟩
  · rw [if_neg (fun h => by have := (i_le (by omega) (by omega)).mp h; omega), i_cl (by omega)]
    refine x_ens.gr (by rintro (h | h) <;> first | exact i_ge (by omega) h | omega | (rw [i_cl (by omega)] at h; omega)) ?_
    refine x_ens.gr (by rintro (h | h) <;> first | exact i_ge (by omega) h | omega | (rw [i_cl (by omega)] at h; omega)) ?_
    refine x_iv.r (by omega) ⟨i_s, fun k hk => ?_, x_frI (p := 80) rfl h3⟩
    dsimp only
    rw [x_pI_at]
    dsimp only
    by_cases h : k = i
    · subst h; rw [if_pos rfl, h3.ce 79 rfl]
    · rw [if_neg h]; exact h2 k (by omega)
theorem e_Mo_cp_80_79 {σ : xS} : x_ens (f_Mo_copies_60_80_79 σ) (fun q => (∀ k, k < 12 → q.2.1 79 k = σ.1 80 k) ∧ x_fr [(79, 99999)] σ q.2) := by
  unfold f_Mo_copies_60_80_79
  refine x_ens.bi (P := fun b => (∀ k, k < 12 → b.2.1 79 k = σ.1 80 k) ∧ x_fr [(79, 99999)] σ b.2) ?_ (fun b hb => x_ens.so hb)
  refine x_iv.go (fun i a => a.1 = Int32.ofNat i ∧ (∀ k, k < i → a.2.1 79 k = σ.1 80 k) ∧ x_fr [(79, 99999)] σ a.2) 12 (by omega) ⟨rfl, fun k hk => by omega, x_fr.rf⟩ ?_
  rintro i ⟨v, τ⟩ hi ⟨h1, h2, h3⟩
  dsimp only at h1 h2 h3
  subst h1
  unfold f_Mo_copies_60_80_79_L2
  dsimp only
  by_cases hx : i = 12
  · subst hx
    rw [if_pos (by decide)]
    exact x_iv.l ⟨h2, h3⟩
  · rw [if_neg (fun h => by have := (i_le (by omega) (by omega)).mp h; omega), i_cl (by omega)]
    refine x_ens.gr (by rintro (h | h) <;> first | exact i_ge (by omega) h | omega | (rw [i_cl (by omega)] at h; omega)) ?_
    refine x_ens.gr (by rintro (h | h) <;> first | exact i_ge (by omega) h | omega | (rw [i_cl (by omega)] at h; omega)) ?_
    refine x_iv.r (by omega) ⟨i_s, fun k hk => ?_, x_frI (p := 79) rfl h3⟩
    dsimp only
    rw [x_pI_at]
    dsimp only
    by_cases h : k = i
    · subst h; rw [if_pos rfl, h3.ce 80 rfl]
    · rw [if_neg h]; exact h2 k (by omega)
