def sp_sof (g : Nat → Int32) (h : Int32) (t : Nat) : Bool := decide (h < sp_abs (g t))
theorem sp_sof_t {g : Nat → Int32} {h : Int32} {t : Nat} : sp_sof g h t = true ↔ h < sp_abs (g t) := by unfold sp_sof; exact decide_eq_true_iff
theorem sp_sof_c {g g' : Nat → Int32} {h : Int32} {t : Nat} (e : g t = g' t) : sp_sof g h t = sp_sof g' h t := by unfold sp_sof; rw [e]
def sp_ru (sf : Nat → Bool) (v : Int32) : Nat → Nat → Nat → Nat ⊕ Nat
  | 0, _, j => .inr j
  | k + 1, t, j => if sf t = true ∧ (t = 0 ∨ ¬ sf (t - 1) = true) then (if Int32.ofNat j = v then .inl t else sp_ru sf v k (t + 1) (j + 1)) else sp_ru sf v k (t + 1) j
def sp_cs (sf : Nat → Bool) : Nat → Nat → Nat
  | 0, _ => 0
  | k + 1, t => if sf t = true then sp_cs sf k (t + 1) + 1 else 0
theorem sp_cs_le {sf : Nat → Bool} : ∀ {k t : Nat}, sp_cs sf k t ≤ k
  | 0, _ => Nat.le_refl 0
  | k + 1, t => by unfold sp_cs; have := @sp_cs_le sf k (t + 1); split <;> omega
def wst_rn (sf : Nat → Bool) (v : Int32) (t : Nat) (c : Nat × Int32 × Int32) : Nat × Int32 × Int32 :=
  if sf t = true then (if t = 0 ∨ ¬ sf (t - 1) = true then (c.1 + 1, if Int32.ofNat c.1 = v then Int32.ofNat t else c.2.1, c.2.2 + if Int32.ofNat c.1 = v then 1 else 0) else (c.1, c.2.1, c.2.2 + if Int32.ofNat (c.1 - 1) = v then 1 else 0)) else c
theorem wst_rn_s {sf : Nat → Bool} {v : Int32} {t : Nat} {c : Nat × Int32 × Int32} (h : sf t = true) (g : t = 0 ∨ ¬ sf (t - 1) = true) : wst_rn sf v t c = (c.1 + 1, if Int32.ofNat c.1 = v then Int32.ofNat t else c.2.1, c.2.2 + if Int32.ofNat c.1 = v then 1 else 0) := by
  unfold wst_rn; rw [if_pos h, if_pos g]
theorem wst_rn_c {sf : Nat → Bool} {v : Int32} {t : Nat} {c : Nat × Int32 × Int32} (h : sf t = true) (g : ¬ (t = 0 ∨ ¬ sf (t - 1) = true)) : wst_rn sf v t c = (c.1, c.2.1, c.2.2 + if Int32.ofNat (c.1 - 1) = v then 1 else 0) := by
  unfold wst_rn; rw [if_pos h, if_neg g]
theorem wst_rn_n {sf : Nat → Bool} {v : Int32} {t : Nat} {c : Nat × Int32 × Int32} (h : ¬ sf t = true) : wst_rn sf v t c = c := by
  unfold wst_rn; rw [if_neg h]
theorem rn_3 {sf : Nat → Bool} {m : Nat} (hm : m < 2147483648) : ∀ (k t j : Nat) (s l : Int32), j + k < 10000 → m < j → (m + 1 < j ∨ t = 0 ∨ ¬ sf (t - 1) = true) → (sp_fo (wst_rn sf (Int32.ofNat m)) t (j, s, l) k).2 = (s, l) ∧ m < (sp_fo (wst_rn sf (Int32.ofNat m)) t (j, s, l) k).1
  | 0, t, j, s, l, _, h, _ => ⟨rfl, h⟩
  | k + 1, t, j, s, l, hb, h, hc => by
    rw [← sp_fo_s]
    have nj : ∀ i, i < 10000 → i ≠ m → ¬ Int32.ofNat i = Int32.ofNat m := fun i hi hne x => hne ((i_ej (by omega) hm).mp x)
    by_cases h1 : sf t = true
    · by_cases h2 : t = 0 ∨ ¬ sf (t - 1) = true
      · rw [wst_rn_s h1 h2, if_neg (nj j (by omega) (by omega)), if_neg (nj j (by omega) (by omega)), i_a0]
        exact rn_3 hm k (t + 1) (j + 1) s l (by omega) (by omega) (Or.inl (by omega))
      · rw [wst_rn_c h1 h2]
        have h3 : m + 1 < j := hc.resolve_right h2
        dsimp only
        rw [if_neg (nj (j - 1) (by omega) (by omega)), i_a0]
        exact rn_3 hm k (t + 1) j s l (by omega) (by omega) (Or.inl h3)
    · rw [wst_rn_n h1]
      exact rn_3 hm k (t + 1) j s l (by omega) h (Or.inr (Or.inr h1))
theorem rn_2 {sf : Nat → Bool} {m : Nat} (hm : m < 10000) : ∀ (k t : Nat) (s l : Int32), m + 1 + k < 10000 → 0 < t → sf (t - 1) = true → (sp_fo (wst_rn sf (Int32.ofNat m)) t (m + 1, s, l) k).2 = (s, l + Int32.ofNat (sp_cs sf k t)) ∧ m < (sp_fo (wst_rn sf (Int32.ofNat m)) t (m + 1, s, l) k).1
  | 0, t, s, l, _, _, _ => ⟨by show (s, l) = (s, l + Int32.ofNat 0); rw [i_z, i_a0], by show m < m + 1; omega⟩
  | k + 1, t, s, l, hb, h0, h1 => by
    rw [← sp_fo_s, sp_cs]
    by_cases h2 : sf t = true
    · rw [wst_rn_c h2 (by rintro (h | h); omega; exact h h1), if_pos h2]
      dsimp only
      rw [show m + 1 - 1 = m by omega, if_pos rfl]
      obtain ⟨a, b⟩ := @rn_2 sf m hm k (t + 1) s (l + 1) (by omega) (by omega) h2
      refine ⟨?_, b⟩
      rw [a, ← i_s]
      congr 1
      grind
    · rw [wst_rn_n h2, if_neg h2, i_z, i_a0]
      exact rn_3 (by omega) k (t + 1) (m + 1) s l (by omega) (by omega) (Or.inr (Or.inr h2))
theorem rn_1 {sf : Nat → Bool} {m : Nat} (hm : m < 2147483648) : ∀ (k t j : Nat) (s l : Int32), j + k < 1000 → j ≤ m → (t = 0 ∨ ¬ sf (t - 1) = true ∨ 1 ≤ j) →
    (∀ t0, sp_ru sf (Int32.ofNat m) k t j = .inl t0 → t0 ≤ t + k ∧ t ≤ t0 ∧ (sp_fo (wst_rn sf (Int32.ofNat m)) t (j, s, l) k).2 = (Int32.ofNat t0, l + Int32.ofNat (sp_cs sf (t + k - t0) t0)) ∧ m < (sp_fo (wst_rn sf (Int32.ofNat m)) t (j, s, l) k).1) ∧
    (∀ j', sp_ru sf (Int32.ofNat m) k t j = .inr j' → (sp_fo (wst_rn sf (Int32.ofNat m)) t (j, s, l) k).1 = j' ∧ j' ≤ m)
  | 0, t, j, s, l, _, h, _ => ⟨fun t0 e => (by cases e), fun j' e => (by cases e; exact ⟨rfl, h⟩)⟩
  | k + 1, t, j, s, l, hb, h, hc => by
    rw [← sp_fo_s, sp_ru]
    have nj : ∀ i, i < 10000 → i ≠ m → ¬ Int32.ofNat i = Int32.ofNat m := fun i hi hne x => hne ((i_ej (by omega) hm).mp x)
    by_cases h1 : sf t = true
    · by_cases h2 : t = 0 ∨ ¬ sf (t - 1) = true
      · rw [if_pos ⟨h1, h2⟩, wst_rn_s h1 h2]
        dsimp only
        by_cases h3 : j = m
        · subst h3
          rw [if_pos rfl, if_pos rfl, if_pos rfl]
          refine ⟨fun t0 e => ?_, fun j' e => (by cases e)⟩
          cases e
          obtain ⟨a, b⟩ := @rn_2 sf j (by omega) k (t + 1) (Int32.ofNat t) (l + 1) (by omega) (by omega) h1
          refine ⟨by omega, by omega, ?_, b⟩
          rw [a, show t + (k + 1) - t = k + 1 by omega, sp_cs, if_pos h1, ← i_s]
          congr 1
          grind
        · rw [if_neg (nj j (by omega) h3), if_neg (nj j (by omega) h3), if_neg (nj j (by omega) h3), i_a0]
          obtain ⟨a, b⟩ := @rn_1 sf m hm k (t + 1) (j + 1) s l (by omega) (by omega) (Or.inr (Or.inr (by omega)))
          refine ⟨fun t0 e => ?_, b⟩
          obtain ⟨c1, c2, c3, c4⟩ := a t0 e
          exact ⟨by omega, by omega, by rw [show t + (k + 1) - t0 = t + 1 + k - t0 by omega]; exact c3, c4⟩
      · rw [if_neg (fun x => h2 x.2), wst_rn_c h1 h2]
        have h3 : 1 ≤ j := by
          rcases hc with x | x | x
          · exact absurd (Or.inl x) h2
          · exact absurd (Or.inr x) h2
          · exact x
        dsimp only
        rw [if_neg (nj (j - 1) (by omega) (by omega)), i_a0]
        obtain ⟨a, b⟩ := @rn_1 sf m hm k (t + 1) j s l (by omega) h (Or.inr (Or.inr h3))
        refine ⟨fun t0 e => ?_, b⟩
        obtain ⟨c1, c2, c3, c4⟩ := a t0 e
        exact ⟨by omega, by omega, by rw [show t + (k + 1) - t0 = t + 1 + k - t0 by omega]; exact c3, c4⟩
    · rw [if_neg (fun x => h1 x.1), wst_rn_n h1]
      obtain ⟨a, b⟩ := @rn_1 sf m hm k (t + 1) j s l (by omega) h (Or.inr (Or.inl h1))
      refine ⟨fun t0 e => ?_, b⟩
      obtain ⟨c1, c2, c3, c4⟩ := a t0 e
      exact ⟨by omega, by omega, by rw [show t + (k + 1) - t0 = t + 1 + k - t0 by omega]; exact c3, c4⟩
theorem rn_m1 {sf : Nat → Bool} : ∀ (k t j : Nat) (s l : Int32), j + k < 10000 → sp_ru sf (-1) k t j = .inr (sp_fo (wst_rn sf (-1)) t (j, s, l) k).1
  | 0, t, j, s, l, _ => rfl
  | k + 1, t, j, s, l, hb => by
    rw [← sp_fo_s, sp_ru]
    have nj : ¬ Int32.ofNat j = -1 := i_m11 (i_0k (by omega))
    by_cases h1 : sf t = true
    · by_cases h2 : t = 0 ∨ ¬ sf (t - 1) = true
      · rw [if_pos ⟨h1, h2⟩, wst_rn_s h1 h2, if_neg nj]
        exact rn_m1 k (t + 1) (j + 1) _ _ (by omega)
      · rw [if_neg (fun x => h2 x.2), wst_rn_c h1 h2]
        exact rn_m1 k (t + 1) j _ _ (by omega)
    · rw [if_neg (fun x => h1 x.1), wst_rn_n h1]
      exact rn_m1 k (t + 1) j _ _ (by omega)
theorem sp_ru_c {sf sf' : Nat → Bool} {v : Int32} : ∀ {k t j : Nat}, (∀ i, i < t + k → sf i = sf' i) → sp_ru sf v k t j = sp_ru sf' v k t j
  | 0, _, _, _ => rfl
  | k + 1, t, j, h => by
    unfold sp_ru
    rw [h t (by omega), h (t - 1) (by omega), sp_ru_c (fun i hi => h i (by omega)), sp_ru_c (fun i hi => h i (by omega))]
theorem sp_cs_c {sf sf' : Nat → Bool} : ∀ {k t : Nat}, (∀ i, i < t + k → sf i = sf' i) → sp_cs sf k t = sp_cs sf' k t
  | 0, _, _ => rfl
  | k + 1, t, h => by unfold sp_cs; rw [h t (by omega), sp_cs_c (fun i hi => h i (by omega))]
def A_runs (C : Nat → Nat → Int32) (S : Nat → Int32) (v w : Int32) : Int32 ⊕ Nat :=
  if v < -1 then .inr 2 else if 0 ≤ w ∧ w ≤ 1 then (match sp_ru (sp_sof (sp_of C S (sp_nk C) 0 0 0) (S 0)) v (sp_la C + 1) 0 0 with
    | .inl t => .inl (if w = 0 then Int32.ofNat t else Int32.ofNat (sp_cs (sp_sof (sp_of C S (sp_nk C) 0 0 0) (S 0)) (sp_la C + 1 - t) t))
    | .inr j => if v = -1 then .inl (Int32.ofNat j) else .inr 2) else .inr 2
theorem c_soft {σ : xS} {l : Nat} (hl : σ.1 49 5 = Int32.ofNat l) (hb : l ≤ 600) : ∀ (k t a n : Nat), t + k = l + 1 → k < n → a + k < 10000 → x_ens (x_it f_Tr_softFrom_49_L4 n (Int32.ofNat a, Int32.ofNat t, σ)) (fun b => b.1 = Int32.ofNat (a + sp_cs (sp_sof (σ.1 54) (σ.1 50 0)) k t) ∧ b.2.2 = σ)
  | k, t, a, 0, _, h, _ => by omega
  | 0, t, a, n + 1, h1, h2, _ => by
    refine x_nx fun P kL kR => ?_
    unfold f_Tr_softFrom_49_L4
    dsimp only
    rw [hl, if_pos (by rw [i_lt (by omega) (by omega)]; omega)]
    exact kL _ ⟨rfl, rfl⟩
  | k + 1, t, a, n + 1, h1, h2, h3 => by
    refine x_nx fun P kL kR => ?_
    unfold f_Tr_softFrom_49_L4
    dsimp only
    rw [hl, if_neg (by rw [i_lt (by omega) (by omega)]; omega), e_Tr_isSharp (by omega)]
    dsimp only [Option.bind_some]
    by_cases h : σ.1 50 0 < sp_abs (σ.1 54 t)
    · rw [if_pos h, if_pos rfl, i_s, i_s]
      refine kR _ ?_
      rw [sp_cs, if_pos (sp_sof_t.mpr h)]
      have := c_soft hl hb k (t + 1) (a + 1) n (by omega) (by omega) (by omega)
      rw [show a + 1 + sp_cs (sp_sof (σ.1 54) (σ.1 50 0)) k (t + 1) = a + (sp_cs (sp_sof (σ.1 54) (σ.1 50 0)) k (t + 1) + 1) by omega] at this
      exact this
    · rw [if_neg h, if_neg (by decide)]
      exact kL _ ⟨by rw [sp_cs, if_neg (fun x => h (sp_sof_t.mp x))]; rfl, rfl⟩
theorem c_runs_L {C : Nat → Nat → Int32} {σ : xS} {v w : Int32} (G : x_G C) (K : y_K C σ) (hl : σ.1 49 5 = Int32.ofNat (sp_la C)) : ∀ (k t j n : Nat), t + k = sp_la C + 1 → k < n → j ≤ t → x_ens (x_it (f_RH_runs_0_L34 v w) n (Int32.ofNat j, Int32.ofNat t, σ)) (fun b =>
      (∃ t0, sp_ru (sp_sof (σ.1 54) (σ.1 50 0)) v k t j = .inl t0 ∧ t0 ≤ sp_la C ∧ b = .inl (.inl (if w = 0 then Int32.ofNat t0 else Int32.ofNat (sp_cs (sp_sof (σ.1 54) (σ.1 50 0)) (sp_la C + 1 - t0) t0)), σ)) ∨
      (∃ j' u, sp_ru (sp_sof (σ.1 54) (σ.1 50 0)) v k t j = .inr j' ∧ b = .inr (Int32.ofNat j', u, σ)))
  | k, t, j, 0, _, h, _ => by omega
  | 0, t, j, n + 1, h1, h2, _ => by
    have hb := G.2.1.2
    refine x_nx fun P kL kR => ?_
    unfold f_RH_runs_0_L34
    dsimp only
    rw [K.1, G.2.1.1, if_pos (by rw [i_lt (by omega) (by omega)]; omega)]
    exact kL _ (Or.inr ⟨j, _, rfl, rfl⟩)
  | k + 1, t, j, n + 1, h1, h2, hj => by
    have hb := G.2.1.2
    refine x_nx fun P kL kR => ?_
    have rc := fun j' (hj' : j' ≤ t + 1) => c_runs_L (v := v) (w := w) G K hl k (t + 1) j' n (by omega) (by omega) hj'
    unfold f_RH_runs_0_L34
    dsimp only
    rw [K.1, G.2.1.1, if_neg (by rw [i_lt (by omega) (by omega)]; omega), e_Tr_isSharp (by omega)]
    dsimp only [Option.bind_some]
    have start : sp_sof (σ.1 54) (σ.1 50 0) t = true ∧ (t = 0 ∨ ¬ sp_sof (σ.1 54) (σ.1 50 0) (t - 1) = true) → x_ens (f_RH_runs_0_J80 v w (Int32.ofNat j) (Int32.ofNat t) σ) P := by
      intro hs
      unfold f_RH_runs_0_J80
      by_cases hv : Int32.ofNat j = v
      · rw [if_pos hv]
        have hr : sp_ru (sp_sof (σ.1 54) (σ.1 50 0)) v (k + 1) t j = .inl t := by rw [sp_ru, if_pos hs, if_pos hv]
        by_cases hw : w = 0
        · rw [if_pos hw]
          exact kL _ (Or.inl ⟨t, hr, by omega, by rw [if_pos hw]⟩)
        · rw [if_neg hw]
          unfold f_Tr_softFrom_49
          obtain ⟨b, eb, b1, b2⟩ := c_soft hl hb (k + 1) t 0 10000 (by omega) (by omega) (by omega)
          rw [i_z] at eb
          rw [eb]
          dsimp only [Option.bind_some]
          rw [b1, b2]
          refine kL _ (Or.inl ⟨t, hr, by omega, ?_⟩)
          rw [if_neg hw, show sp_la C + 1 - t = k + 1 by omega, Nat.zero_add]
      · rw [if_neg hv, i_s, i_s]
        refine kR _ ?_
        have := rc (j + 1) (by omega)
        rw [sp_ru, if_pos hs, if_neg hv]
        exact this
    have cont : ¬ (sp_sof (σ.1 54) (σ.1 50 0) t = true ∧ (t = 0 ∨ ¬ sp_sof (σ.1 54) (σ.1 50 0) (t - 1) = true)) → x_ens (some (Sum.inr (Int32.ofNat j, Int32.ofNat t + 1, σ))) P := by
      intro hs
      rw [i_s]
      refine kR _ ?_
      have := rc j (by omega)
      rw [sp_ru, if_neg hs]
      exact this
    by_cases h : σ.1 50 0 < sp_abs (σ.1 54 t)
    · rw [if_pos h, if_pos rfl]
      have hs := sp_sof_t.mpr h
      by_cases h0 : t = 0
      · rw [if_pos (show Int32.ofNat t ≤ 0 by rw [h0]; decide)]
        exact start ⟨hs, Or.inl h0⟩
      · rw [if_neg (by rw [← i_z, i_le (by omega) (by omega)]; omega), i_p (by omega), e_Tr_isSharp (by omega)]
        dsimp only [Option.bind_some]
        by_cases h3 : σ.1 50 0 < sp_abs (σ.1 54 (t - 1))
        · rw [if_pos h3, if_pos rfl]
          exact cont (fun x => x.2.elim h0 (fun y => y (sp_sof_t.mpr h3)))
        · rw [if_neg h3, if_neg (by decide)]
          exact start ⟨hs, Or.inr (fun y => h3 (sp_sof_t.mp y))⟩
    · rw [if_neg h, if_neg (by decide)]
      exact cont (fun x => h (sp_sof_t.mp x.1))
theorem c_runs {C : Nat → Nat → Int32} {σ : xS} {v w : Int32} (B : x_B C σ) (F : y_F C σ) : x_ens (f_RH_runs_0 v w σ) (fun q => q.1 = A_runs C (σ.1 36) v w ∧ y_F C q.2) := by
  unfold f_RH_runs_0 A_runs
  by_cases hv : v < -1
  · rw [if_pos hv, if_pos hv]; exact x_ens.so ⟨rfl, F⟩
  · rw [if_neg hv, if_neg hv]
    by_cases h : 0 ≤ w ∧ w ≤ 1
    · rw [if_neg (i_nl.mpr h.1), if_pos h.2, if_pos h]
      refine x_ens.bi (B.walk F) ?_
      rintro q ⟨F1, K1, l5, h0, -, of⟩
      have hsf : ∀ i, i < sp_la C + 1 → sp_sof (q.2.1 54) (q.2.1 50 0) i = sp_sof (sp_of C (σ.1 36) (sp_nk C) 0 0 0) (σ.1 36 0) i := fun i hi => by rw [h0]; exact sp_sof_c (of i hi)
      have hru := sp_ru_c (v := v) (k := sp_la C + 1) (t := 0) (j := 0) (fun i hi => hsf i (by omega))
      obtain ⟨b, eb, hb⟩ := c_runs_L (v := v) (w := w) B.1 K1 l5 (sp_la C + 1) 0 0 10000 (by omega) (by have := B.1.2.1.2; omega) (by omega)
      rw [i_z] at eb
      rw [eb]
      dsimp only [Option.bind_some]
      rcases hb with ⟨t0, e0, ht, rfl⟩ | ⟨j', u, e0, rfl⟩
      · rw [hru] at e0
        rw [e0]
        dsimp only
        rw [sp_cs_c (fun i hi => hsf i (by omega))]
        exact x_ens.so ⟨rfl, F1⟩
      · rw [hru] at e0
        rw [e0]
        dsimp only
        by_cases h1 : v = -1
        · rw [if_pos h1, if_pos h1]; exact x_ens.so ⟨rfl, F1⟩
        · rw [if_neg h1, if_neg h1]; exact x_ens.so ⟨rfl, F1⟩
    · rw [if_neg h]
      by_cases h1 : w < 0
      · rw [if_pos h1]; exact x_ens.so ⟨rfl, F⟩
      · rw [if_neg h1, if_neg (fun x => h ⟨i_nl.mp h1, x⟩)]; exact x_ens.so ⟨rfl, F⟩
theorem m_runs_L {C : Nat → Nat → Int32} {σ : xS} {v : Int32} (G : x_G C) (M : x_M C σ) : x_ens (f_Mo_findsRun_60 v σ) (fun q => x_fr [(60, 65), (60, 66), (60, 67)] σ q.2 ∧ q.2.1 60 65 = Int32.ofNat (sp_fo (wst_rn (sp_sof (σ.1 86) (σ.1 79 0)) v) 0 (0, -1, 0) (sp_la C + 1)).1 ∧ q.2.1 60 66 = (sp_fo (wst_rn (sp_sof (σ.1 86) (σ.1 79 0)) v) 0 (0, -1, 0) (sp_la C + 1)).2.1 ∧ q.2.1 60 67 = (sp_fo (wst_rn (sp_sof (σ.1 86) (σ.1 79 0)) v) 0 (0, -1, 0) (sp_la C + 1)).2.2) := by
  have hb := G.2.1.2
  unfold f_Mo_findsRun_60
  dsimp only
  generalize hsf : sp_sof (σ.1 86) (σ.1 79 0) = sf
  have hs : ∀ t, sf t = true ↔ σ.1 79 0 < sp_abs (σ.1 86 t) := fun t => by rw [← hsf]; exact sp_sof_t
  refine x_ens.bi (P := fun b => x_fr [(60, 65), (60, 66), (60, 67)] σ b.2 ∧ b.2.1 60 65 = Int32.ofNat (sp_fo (wst_rn sf v) 0 (0, -1, 0) (sp_la C + 1)).1 ∧ b.2.1 60 66 = (sp_fo (wst_rn sf v) 0 (0, -1, 0) (sp_la C + 1)).2.1 ∧ b.2.1 60 67 = (sp_fo (wst_rn sf v) 0 (0, -1, 0) (sp_la C + 1)).2.2) ?_ (fun b hb => x_ens.so hb)
  refine x_scI (fun i (c : Nat × Int32 × Int32) τ => (Int32.ofNat i, τ)) (wst_rn sf v) (fun i c τ => x_fr [(60, 65), (60, 66), (60, 67)] σ τ ∧ τ.1 60 65 = Int32.ofNat c.1 ∧ τ.1 60 66 = c.2.1 ∧ τ.1 60 67 = c.2.2 ∧ c.1 ≤ i ∧ (i = 0 ∨ ¬ sf (i - 1) = true ∨ 1 ≤ c.1)) (sp_la C + 1) (c0 := (0, -1, 0)) (by omega) ⟨x_frI (p := 60) (k := 67) rfl (x_frI (p := 60) (k := 66) rfl (x_frI (p := 60) (k := 65) rfl x_fr.rf)), rfl, rfl, rfl, by omega, Or.inl rfl⟩ ?_ ?_
  · rintro i ⟨j, s, l⟩ τ hi ⟨f1, e65, e66, e67, hj, hc⟩
    dsimp only at e65 e66 e67 hj hc
    unfold f_Mo_findsRun_60_L17
    dsimp only
    rw [G.last (M.fr f1 rfl rfl rfl rfl rfl rfl rfl)]
    dsimp only [Option.bind_some]
    rw [if_neg (by rw [i_lt (by omega) (by omega)]; omega), e_Mo_isSharp (by omega), f1.ce 79 rfl, f1.ce 86 rfl]
    dsimp only [Option.bind_some]
    have j82 : ∀ (j' : Nat) (s' : Int32) (υ : xS), 1 ≤ j' → j' ≤ i + 1 → x_fr [(60, 65), (60, 66), (60, 67)] σ υ → υ.1 60 65 = Int32.ofNat j' → υ.1 60 66 = s' → υ.1 60 67 = l → x_ens (f_Mo_findsRun_60_J82 v (Int32.ofNat i) υ) (fun o => ∃ τ', (x_fr [(60, 65), (60, 66), (60, 67)] σ τ' ∧ τ'.1 60 65 = Int32.ofNat j' ∧ τ'.1 60 66 = s' ∧ τ'.1 60 67 = (l + if Int32.ofNat (j' - 1) = v then 1 else 0) ∧ j' ≤ i + 1 ∧ (i + 1 = 0 ∨ ¬ sf (i + 1 - 1) = true ∨ 1 ≤ j')) ∧ o = .inr (Int32.ofNat (i + 1), τ')) := by
      intro j' s' υ h1 h2 fu u65 u66 u67
      unfold f_Mo_findsRun_60_J82
      rw [u65, i_p (by omega), u67, i_s]
      by_cases hv : Int32.ofNat (j' - 1) = v
      · rw [if_pos hv, if_pos hv]
        exact x_ens.so ⟨_, ⟨x_frI (p := 60) (k := 67) rfl fu, u65, u66, x_pI_kk, h2, Or.inr (Or.inr h1)⟩, rfl⟩
      · rw [if_neg hv, if_neg hv]
        exact x_ens.so ⟨_, ⟨x_frI (p := 60) (k := 67) rfl fu, u65, u66, x_pI_kk, h2, Or.inr (Or.inr h1)⟩, rfl⟩
    have j50 : sf i = true → (i = 0 ∨ ¬ sf (i - 1) = true) → x_ens (f_Mo_findsRun_60_J50 v (Int32.ofNat i) τ) (fun o => ∃ τ', (x_fr [(60, 65), (60, 66), (60, 67)] σ τ' ∧ τ'.1 60 65 = Int32.ofNat (wst_rn sf v i (j, s, l)).1 ∧ τ'.1 60 66 = (wst_rn sf v i (j, s, l)).2.1 ∧ τ'.1 60 67 = (wst_rn sf v i (j, s, l)).2.2 ∧ (wst_rn sf v i (j, s, l)).1 ≤ i + 1 ∧ (i + 1 = 0 ∨ ¬ sf (i + 1 - 1) = true ∨ 1 ≤ (wst_rn sf v i (j, s, l)).1)) ∧ o = .inr (Int32.ofNat (i + 1), τ')) := by
      intro h1 h2
      rw [wst_rn_s h1 h2]
      unfold f_Mo_findsRun_60_J50 f_Mo_findsRun_60_J79
      dsimp only
      rw [e65, i_s, show (x_pI τ 60 65 (Int32.ofNat (j + 1))).1 60 65 = Int32.ofNat (j + 1) from x_pI_kk, i_m1', show (x_pI τ 60 65 (Int32.ofNat (j + 1))).1 60 66 = s from e66]
      have fu : ∀ y, x_fr [(60, 65), (60, 66), (60, 67)] σ (x_pI (x_pI τ 60 65 (Int32.ofNat (j + 1))) 60 66 y) := fun y => x_frI (p := 60) (k := 66) rfl (x_frI (p := 60) (k := 65) rfl f1)
      by_cases hv : Int32.ofNat j = v
      · have := j82 (j + 1) (Int32.ofNat i) (x_pI (x_pI τ 60 65 (Int32.ofNat (j + 1))) 60 66 (Int32.ofNat i)) (by omega) (by omega) (fu _) ((x_pI_kn (by omega)).trans x_pI_kk) x_pI_kk e67
        rw [show j + 1 - 1 = j by omega, if_pos hv] at this
        rw [if_pos hv, if_pos hv, if_pos hv]; exact this
      · have := j82 (j + 1) s (x_pI (x_pI τ 60 65 (Int32.ofNat (j + 1))) 60 66 s) (by omega) (by omega) (fu _) ((x_pI_kn (by omega)).trans x_pI_kk) x_pI_kk e67
        rw [show j + 1 - 1 = j by omega, if_neg hv] at this
        rw [if_neg hv, if_neg hv, if_neg hv]; exact this
    by_cases h : σ.1 79 0 < sp_abs (σ.1 86 i)
    · rw [if_pos h, if_pos rfl]
      have h1 := (hs i).mpr h
      by_cases h0 : i = 0
      · rw [if_pos (show Int32.ofNat i = 0 by rw [h0]; rfl)]
        exact j50 h1 (Or.inl h0)
      · rw [if_neg (show ¬ Int32.ofNat i = 0 by rw [i_ne0 (by omega)]; exact h0), i_p (by omega), e_Mo_isSharp (by omega), f1.ce 79 rfl, f1.ce 86 rfl]
        dsimp only [Option.bind_some]
        by_cases h3 : σ.1 79 0 < sp_abs (σ.1 86 (i - 1))
        · rw [if_pos h3, if_pos rfl]
          have hp := (hs (i - 1)).mpr h3
          have hj1 : 1 ≤ j := by
            rcases hc with x | x | x
            · exact absurd x h0
            · exact absurd hp x
            · exact x
          rw [wst_rn_c h1 (by rintro (x | x); exact h0 x; exact x hp)]
          exact j82 j s τ hj1 (by omega) f1 e65 e66 e67
        · rw [if_neg h3, if_neg (by decide)]
          exact j50 h1 (Or.inr (fun x => h3 ((hs (i - 1)).mp x)))
    · rw [if_neg h, if_neg (by decide), i_s]
      have h1 : ¬ sf i = true := fun x => h ((hs i).mp x)
      rw [wst_rn_n h1]
      exact x_ens.so ⟨τ, ⟨f1, e65, e66, e67, by omega, Or.inr (Or.inl h1)⟩, rfl⟩
  · rintro c τ hc ⟨f1, e65, e66, e67, -, -⟩
    unfold f_Mo_findsRun_60_L17
    dsimp only
    rw [G.last (M.fr f1 rfl rfl rfl rfl rfl rfl rfl)]
    dsimp only [Option.bind_some]
    rw [if_pos (by rw [i_lt (by omega) (by omega)]; omega)]
    exact x_ens.so ⟨_, rfl, f1, by rw [e65, hc], by rw [e66, hc], by rw [e67, hc]⟩
theorem wst_rn_fc {sf sf' : Nat → Bool} {v : Int32} {c : Nat × Int32 × Int32} {n : Nat} (h : ∀ i, i < n → sf i = sf' i) : sp_fo (wst_rn sf v) 0 c n = sp_fo (wst_rn sf' v) 0 c n :=
  sp_fo_congr (fun j _ h2 x => by unfold wst_rn; rw [h j (by omega), h (j - 1) (by omega)])
theorem wst_rn_1 {sf : Nat → Bool} {v : Int32} {t : Nat} {c : Nat × Int32 × Int32} : (wst_rn sf v t c).1 ≤ c.1 + 1 := by
  by_cases h : sf t = true
  · by_cases g : t = 0 ∨ ¬ sf (t - 1) = true
    · rw [wst_rn_s h g]; exact Nat.le_refl _
    · rw [wst_rn_c h g]; exact Nat.le_succ _
  · rw [wst_rn_n h]; exact Nat.le_succ _
theorem wst_rn_le {sf : Nat → Bool} {v : Int32} : ∀ k, (sp_fo (wst_rn sf v) 0 (0, -1, 0) k).1 ≤ k
  | 0 => Nat.le_refl 0
  | k + 1 => by
    rw [sp_fo_1]
    exact Nat.le_trans wst_rn_1 (Nat.succ_le_succ (wst_rn_le k))
theorem i_2c {v : Int32} (h : ¬ v < -1) : v = -1 ∨ 0 ≤ v := by grind
theorem m_runs {C : Nat → Nat → Int32} {σ : xS} {v w : Int32} (B : x_B C σ) : x_ens (f_Mo_runs_60 v w σ) (fun q => x_an x_k1 (A_runs C (σ.1 36) v w) q.1 q.2 ∧ x_B C q.2) := by
  unfold f_Mo_runs_60 A_runs f_Mo_runs_60_J43
  dsimp only
  obtain ⟨B1, S1, R1⟩ := B.m0
  have hla := B.1.2.1.2
  rw [e_Mo_isWhat x_60]
  dsimp only [Option.bind_some]
  by_cases h : 0 ≤ w ∧ w ≤ 1
  · simp only [if_pos h]
    rw [if_neg (by decide)]
    refine x_ens.bi (B1.go S1 R1 x_60) ?_
    rintro q4 ⟨hg, B2, S2, k0, f4⟩
    refine x_ens.bi (m_runs_L (v := v) B.1 B2.2.2.1) ?_
    rintro q5 ⟨f5, e65, e66, e67⟩
    have hsf : ∀ i, i < sp_la C + 1 → sp_sof (q4.2.1 86) (q4.2.1 79 0) i = sp_sof (sp_of C (σ.1 36) (sp_nk C) 0 0 0) (σ.1 36 0) i := fun i hi => by rw [S2.1.1]; exact sp_sof_c (hg i (by omega)).2.2
    rw [wst_rn_fc hsf] at e65 e66 e67
    generalize sp_sof (sp_of C (σ.1 36) (sp_nk C) 0 0 0) (σ.1 36 0) = sf at e65 e66 e67
    have B5 : x_B C q5.2 := B2.fr f5 rfl
    have k5 : q5.2.1 60 0 = 0 := (f5.ck 60 0 rfl).trans k0
    have bad : x_ens (f_Mo_runs_60_J44 v w 0 q5.2) (fun q => x_an x_k1 (.inr 2) q.1 q.2 ∧ x_B C q.2) := by
      unfold f_Mo_runs_60_J44
      rw [e_Mo_right k5 (by decide), if_pos rfl]
      dsimp only [Option.bind_some]
      rw [if_pos rfl]; exact x_ens.so ⟨x_60, B5.t0⟩
    by_cases hv : v < -1
    · rw [if_pos hv, if_pos hv]; exact bad
    · rw [if_neg hv, if_neg hv]
      rcases i_2c hv with rfl | h0
      · have e0 := rn_m1 (sf := sf) (sp_la C + 1) 0 0 (-1) 0 (by omega)
        rw [e0, e65, if_neg (i_n1 (by
          have := @wst_rn_le sf (-1) (sp_la C + 1)
          exact i_0k (by omega)))]
        unfold f_Mo_runs_60_J44
        rw [e_Mo_right k5 (by decide), if_neg (by decide)]
        dsimp only [Option.bind_some]
        rw [if_neg (by decide), if_pos rfl, if_pos rfl]
        exact x_ens.so ⟨⟨k5, e65⟩, B5⟩
      · have hm := i_ex h0
        generalize v.toNatClampNeg = m at hm
        obtain ⟨hm1, hm2⟩ := hm
        subst hm1
        have nm1 : ¬ Int32.ofNat m = -1 := i_m11 h0
        obtain ⟨ra, rb⟩ := rn_1 (sf := sf) (m := m) hm2 (sp_la C + 1) 0 0 (-1) 0 (by omega) (by omega) (Or.inl rfl)
        have hle : (sp_fo (wst_rn sf (Int32.ofNat m)) 0 (0, -1, 0) (sp_la C + 1)).1 < 2147483648 := by
          have := @wst_rn_le sf (Int32.ofNat m) (sp_la C + 1)
          omega
        cases hr : sp_ru sf (Int32.ofNat m) (sp_la C + 1) 0 0 with
        | inl t0 =>
          obtain ⟨c1, c2, c3, c4⟩ := ra t0 hr
          dsimp only
          rw [e65, if_neg (fun x => by have := (i_le hle hm2).mp x; omega)]
          unfold f_Mo_runs_60_J44
          rw [e_Mo_right k5 (by decide), if_neg (by decide)]
          dsimp only [Option.bind_some]
          rw [if_neg (by decide), if_neg nm1, e66, e67, c3]
          dsimp only
          rw [show (0 : Int32) + Int32.ofNat (sp_cs sf (0 + (sp_la C + 1) - t0) t0) = Int32.ofNat (sp_cs sf (0 + (sp_la C + 1) - t0) t0) by grind, Nat.zero_add]
          by_cases hw : w = 0
          · rw [if_pos hw, if_pos hw]; exact x_ens.so ⟨⟨k5, rfl⟩, B5⟩
          · rw [if_neg hw, if_neg hw]; exact x_ens.so ⟨⟨k5, rfl⟩, B5⟩
        | inr j' =>
          obtain ⟨c1, c2⟩ := rb j' hr
          dsimp only
          rw [if_neg nm1, e65, if_pos ((i_le hle hm2).mpr (by omega))]
          exact bad
  · simp only [if_neg h]
    rw [if_pos trivial, x_pI_pI, show (if v < -1 then (Sum.inr 2 : Int32 ⊕ Nat) else Sum.inr 2) = Sum.inr 2 by split <;> rfl]; exact x_ens.so ⟨x_60, B.t0⟩
theorem o_runs (v w : Int32) : x_OP (w_runs v w) (f_Mo_runs_60 v w) := by
  refine x_OPq (f := f_RH_runs_0 v w) (κ := x_k1) (A := fun C g => A_runs C (g 36) v w) (fun C σ B F => c_runs B F) (fun σ q e => fr_RH_runs_0 e) rfl (fun C g g' h h55 h01 h59 => by simp only [h 36 (by simp)]) (fun C σ B => m_runs B) (fun σ q e => fr_Mo_runs_60 e) rfl ?_ ?_
  · intro σ u τ e; unfold w_runs; rw [e]; rfl
  · intro C σ B k τ e hk
    have : k = 2 := by
      unfold A_runs at hk
      (repeat' split at hk) <;> cases hk <;> rfl
    subst this
    unfold w_runs; rw [e]; exact ⟨rfl, by decide⟩
