def sp_fo {γ : Type} (st : Nat → γ → γ) (i : Nat) (c : γ) : Nat → γ
  | 0 => c
  | k + 1 => st (i + k) (sp_fo st i c k)
theorem sp_fo_congr {γ : Type} {st st' : Nat → γ → γ} {i : Nat} {c : γ} : ∀ {k : Nat}, (∀ j, i ≤ j → j < i + k → ∀ x, st j x = st' j x) → sp_fo st i c k = sp_fo st' i c k
  | 0, _ => rfl
  | k + 1, h => by unfold sp_fo; rw [h (i + k) (by omega) (by omega), sp_fo_congr (fun j h1 h2 => h j h1 (by omega))]
theorem sp_fo_rel {γ δ : Type} {st : Nat → γ → γ} {st' : Nat → δ → δ} {R : γ → δ → Prop} {i : Nat} {c : γ} {d : δ} (h0 : R c d) : ∀ {k : Nat}, (∀ j, i ≤ j → j < i + k → ∀ x y, R x y → R (st j x) (st' j y)) → R (sp_fo st i c k) (sp_fo st' i d k)
  | 0, _ => h0
  | k + 1, h => by unfold sp_fo; exact h (i + k) (by omega) (by omega) _ _ (sp_fo_rel h0 (fun j h1 h2 => h j h1 (by omega)))
theorem sp_fo_s {γ : Type} {st : Nat → γ → γ} {c : γ} : ∀ {k i : Nat}, sp_fo st (i + 1) (st i c) k = sp_fo st i c (k + 1)
  | 0, i => rfl
  | k + 1, i => by unfold sp_fo; rw [sp_fo_s]; rw [show i + 1 + k = i + (k + 1) by omega]
theorem x_sc {γ α β : Type} {body : α → Option (β ⊕ α)} (en : Nat → γ → α) (st : Nat → γ → γ) (out : γ → β) (N : Nat)
    (h : ∀ i c, i < N → body (en i c) = some (.inr (en (i + 1) (st i c)))) (h' : ∀ c, body (en N c) = some (.inl (out c))) :
    ∀ (k n i : Nat) (c : γ), i + k = N → k < n → x_it body n (en i c) = some (out (sp_fo st i c k))
  | k, 0, i, c, _, hn => by omega
  | 0, n + 1, i, c, hk, hn => by
    have : i = N := by omega
    subst this
    unfold x_it; rw [h' c]; rfl
  | k + 1, n + 1, i, c, hk, hn => by
    unfold x_it; rw [h i c (by omega)]
    have := x_sc en st out N h h' k n (i + 1) (st i c) (by omega) (by omega)
    rw [sp_fo_s] at this
    exact this
def wst_cnt (g : Nat → Int32) (h : Int32) (i : Nat) (c : Int32) : Int32 := c + (if h < sp_abs (g i) then 0 else 1)
def wst_mo (g : Nat → Int32) (i : Nat) (c : Int32) : Int32 := if c < sp_abs (g i) then sp_abs (g i) else c
def wst_ls (g : Nat → Int32) (h : Int32) (i : Nat) (c : Int32 × Int32) : Int32 × Int32 := if h < sp_abs (g i) then (if c.1 < c.2 + 1 then c.2 + 1 else c.1, c.2 + 1) else (if c.1 < 0 then 0 else c.1, 0)
def wst_sw (g : Nat → Int32) (i : Nat) (c : Int32 × Int32) : Int32 × Int32 := (c.1 + (if 0 < g i ∧ c.2 < 0 ∨ g i < 0 ∧ 0 < c.2 then 1 else 0), if g i = 0 then c.2 else g i)
def wst_tu (g : Nat → Int32) (i : Nat) (c : Int32) : Int32 := c + sp_abs (g i - g (i - 1))
theorem e_off0 (v : Int32) (σ : xS) : f_Mo_off v 0 σ = some (sp_abs v, σ) := by
  rw [e_Mo_off]; unfold sp_abs
  by_cases h : 0 ≤ v
  · rw [if_pos h, if_pos h, show v - 0 = v by grind]
  · rw [if_neg h, if_neg h]
theorem e_Tr_isSharp {σ : xS} {i : Nat} (hi : i ≤ 600) : f_Tr_isSharp_49 (Int32.ofNat i) σ = some (if σ.1 50 0 < sp_abs (σ.1 54 i) then 0 else 1, σ) := by
  unfold f_Tr_isSharp_49
  rw [if_neg (i_ge (by omega)), if_neg (show ¬ (600 : Int32) < Int32.ofNat i from fun h => by have := (i_lt (j := 600) (by omega) (by omega)).mp h; omega), if_neg (i_ix (by omega) (by omega)), i_cl (by omega)]
  unfold sp_abs
  generalize (if 0 ≤ σ.1 54 i then σ.1 54 i else 0 - σ.1 54 i) = z
  split <;> rfl
theorem e_Mo_isSharp {σ : xS} {i : Nat} (hi : i ≤ 600) : f_Mo_isSharp_60 (Int32.ofNat i) σ = some (if σ.1 79 0 < sp_abs (σ.1 86 i) then 0 else 1, σ) := by
  unfold f_Mo_isSharp_60
  rw [if_neg (i_ix (by omega) (by omega)), i_cl (by omega), e_off0]
  dsimp only [Option.bind_some]
  split <;> rfl
theorem x_G.last {C : Nat → Nat → Int32} {σ : xS} (G : x_G C) (M : x_M C σ) : f_Mo_last_60 σ = some (Int32.ofNat (sp_la C), σ) := by
  rw [e_Mo_last (n := sp_nm C) G.1.2 (by rw [M.1.2.1]; exact G.1.1), sp_sum_congr (fun i hi => (M.2.1 i hi).2), G.2.2.2.2.2.2.2.1, G.2.1.1]
theorem e_Tr_sharpBy {σ : xS} {l : Nat} {h : Int32} (hl : σ.1 49 5 = Int32.ofNat l) (hb : l ≤ 600) : f_Tr_sharpBy_49 h σ = some (sp_fo (wst_cnt (σ.1 54) h) 0 0 (l + 1), σ) := by
  unfold f_Tr_sharpBy_49
  have := x_sc (body := f_Tr_sharpBy_49_L4 h) (fun i (c : Int32) => (c, Int32.ofNat i, σ)) (wst_cnt (σ.1 54) h) (fun c => (c, Int32.ofNat (l + 1), σ)) (l + 1) ?_ ?_ (l + 1) 10000 0 0 (by omega) (by omega)
  · rw [i_z] at this
    rw [this]; rfl
  · intro i c hi
    unfold f_Tr_sharpBy_49_L4
    dsimp only
    rw [hl, if_neg (by rw [i_lt (by omega) (by omega)]; omega), if_neg (i_ix (by omega) (by omega)), i_cl (by omega), i_s]
    unfold wst_cnt sp_abs
    generalize (if 0 ≤ σ.1 54 i then σ.1 54 i else 0 - σ.1 54 i) = z
    split <;> rfl
  · intro c
    unfold f_Tr_sharpBy_49_L4
    dsimp only
    rw [hl, if_pos (by rw [i_lt (by omega) (by omega)]; omega)]
theorem e_Mo_sharpMany {C : Nat → Nat → Int32} {σ : xS} (G : x_G C) (M : x_M C σ) : f_Mo_sharpMany_60 σ = some (sp_fo (wst_cnt (σ.1 86) (σ.1 79 0)) 0 0 (sp_la C + 1), σ) := by
  have hb := G.2.1.2
  unfold f_Mo_sharpMany_60
  have := x_sc (body := f_Mo_sharpMany_60_L4) (fun i (c : Int32) => (c, Int32.ofNat i, σ)) (wst_cnt (σ.1 86) (σ.1 79 0)) (fun c => (c, Int32.ofNat (sp_la C + 1), σ)) (sp_la C + 1) ?_ ?_ (sp_la C + 1) 10000 0 0 (by omega) (by omega)
  · rw [i_z] at this
    rw [this]; rfl
  · intro i c hi
    unfold f_Mo_sharpMany_60_L4
    dsimp only
    rw [G.last M]
    dsimp only [Option.bind_some]
    rw [if_neg (by rw [i_lt (by omega) (by omega)]; omega), e_Mo_isSharp (by omega), i_s]
    dsimp only [Option.bind_some]
    unfold wst_cnt
    by_cases h : σ.1 79 0 < sp_abs (σ.1 86 i)
    · simp only [if_pos h]; rfl
    · simp only [if_neg h]; rfl
  · intro c
    unfold f_Mo_sharpMany_60_L4
    dsimp only
    rw [G.last M]
    dsimp only [Option.bind_some]
    rw [if_pos (by rw [i_lt (by omega) (by omega)]; omega)]
theorem e_Tr_mostOff {σ : xS} {l : Nat} (hl : σ.1 49 5 = Int32.ofNat l) (hb : l ≤ 600) : f_Tr_mostOff_49 σ = some (sp_fo (wst_mo (σ.1 54)) 0 0 (l + 1), σ) := by
  unfold f_Tr_mostOff_49
  have := x_sc (body := f_Tr_mostOff_49_L4) (fun i (c : Int32) => (c, Int32.ofNat i, σ)) (wst_mo (σ.1 54)) (fun c => (c, Int32.ofNat (l + 1), σ)) (l + 1) ?_ ?_ (l + 1) 10000 0 0 (by omega) (by omega)
  · rw [i_z] at this
    rw [this]; rfl
  · intro i c hi
    unfold f_Tr_mostOff_49_L4
    dsimp only
    rw [hl, if_neg (by rw [i_lt (by omega) (by omega)]; omega), if_neg (i_ix (by omega) (by omega)), i_cl (by omega), i_s]
    rfl
  · intro c
    unfold f_Tr_mostOff_49_L4
    dsimp only
    rw [hl, if_pos (by rw [i_lt (by omega) (by omega)]; omega)]
theorem e_Mo_mostOff {C : Nat → Nat → Int32} {σ : xS} (G : x_G C) (M : x_M C σ) : f_Mo_mostOff_60 σ = some (sp_fo (wst_mo (σ.1 86)) 0 0 (sp_la C + 1), σ) := by
  have hb := G.2.1.2
  unfold f_Mo_mostOff_60
  have := x_sc (body := f_Mo_mostOff_60_L4) (fun i (c : Int32) => (c, Int32.ofNat i, σ)) (wst_mo (σ.1 86)) (fun c => (c, Int32.ofNat (sp_la C + 1), σ)) (sp_la C + 1) ?_ ?_ (sp_la C + 1) 10000 0 0 (by omega) (by omega)
  · rw [i_z] at this
    rw [this]; rfl
  · intro i c hi
    unfold f_Mo_mostOff_60_L4
    dsimp only
    rw [G.last M]
    dsimp only [Option.bind_some]
    rw [if_neg (by rw [i_lt (by omega) (by omega)]; omega), if_neg (i_ix (by omega) (by omega)), i_cl (by omega), e_off0]
    dsimp only [Option.bind_some]
    rw [i_s]
    unfold wst_mo
    by_cases h : sp_abs (σ.1 86 i) ≤ c
    · rw [if_pos h, if_neg (i_nl.mpr h)]
    · rw [if_neg h, if_pos (i_nle.mp h), if_neg (by rintro (h | h); exact i_ge (by omega) h; omega), e_off0]; rfl
  · intro c
    unfold f_Mo_mostOff_60_L4
    dsimp only
    rw [G.last M]
    dsimp only [Option.bind_some]
    rw [if_pos (by rw [i_lt (by omega) (by omega)]; omega)]
theorem e_Tr_longestSoft {σ : xS} {l : Nat} (hl : σ.1 49 5 = Int32.ofNat l) (hb : l ≤ 600) : f_Tr_longestSoft_49 σ = some ((sp_fo (wst_ls (σ.1 54) (σ.1 50 0)) 0 (0, 0) (l + 1)).1, σ) := by
  unfold f_Tr_longestSoft_49
  have := x_sc (body := f_Tr_longestSoft_49_L6) (fun i (c : Int32 × Int32) => (c.1, c.2, Int32.ofNat i, σ)) (wst_ls (σ.1 54) (σ.1 50 0)) (fun c => (c.1, c.2, Int32.ofNat (l + 1), σ)) (l + 1) ?_ ?_ (l + 1) 10000 0 (0, 0) (by omega) (by omega)
  · rw [i_z] at this
    dsimp only at this
    rw [this]; rfl
  · intro i c hi
    unfold f_Tr_longestSoft_49_L6
    dsimp only
    rw [hl, if_neg (by rw [i_lt (by omega) (by omega)]; omega), e_Tr_isSharp (by omega), i_s]
    dsimp only [Option.bind_some]
    unfold wst_ls
    by_cases h : σ.1 50 0 < sp_abs (σ.1 54 i)
    · simp only [if_pos h]; rfl
    · simp only [if_neg h]; rfl
  · intro c
    unfold f_Tr_longestSoft_49_L6
    dsimp only
    rw [hl, if_pos (by rw [i_lt (by omega) (by omega)]; omega)]
theorem sp_fo_nn {γ : Type} {st : Nat → γ → γ} {P : γ → Prop} {i : Nat} {c : γ} (h0 : P c) (h : ∀ j x, P x → P (st j x)) : ∀ {k : Nat}, P (sp_fo st i c k)
  | 0 => h0
  | k + 1 => h _ _ (sp_fo_nn h0 h)
theorem i_0le {a b : Int32} (h : 0 ≤ a) (g : a < b) : ¬ b < 0 := by grind
theorem e_Mo_longestSoft {C : Nat → Nat → Int32} {σ : xS} (G : x_G C) (M : x_M C σ) : f_Mo_longestSoft_60 σ = some ((sp_fo (wst_ls (σ.1 86) (σ.1 79 0)) 0 (0, 0) (sp_la C + 1)).1, σ) := by
  have hb := G.2.1.2
  unfold f_Mo_longestSoft_60
  apply x_ens.eq
  refine x_ens.bi (P := fun b => b.1 = (sp_fo (wst_ls (σ.1 86) (σ.1 79 0)) 0 (0, 0) (sp_la C + 1)).1 ∧ b.2.2.2 = σ) ?_ (fun b hb => x_ens.so (by rw [hb.1, hb.2]))
  refine x_iv.go (fun i a => a = ((sp_fo (wst_ls (σ.1 86) (σ.1 79 0)) 0 (0, 0) i).1, (sp_fo (wst_ls (σ.1 86) (σ.1 79 0)) 0 (0, 0) i).2, Int32.ofNat i, σ) ∧ 0 ≤ (sp_fo (wst_ls (σ.1 86) (σ.1 79 0)) 0 (0, 0) i).1) (sp_la C + 1) (by omega) ⟨rfl, by show (0 : Int32) ≤ 0; decide⟩ ?_
  rintro i a hi ⟨rfl, h0⟩
  unfold f_Mo_longestSoft_60_L6
  dsimp only
  rw [G.last M]
  dsimp only [Option.bind_some]
  by_cases hx : sp_la C < i
  · rw [if_pos (by rw [i_lt (by omega) (by omega)]; omega)]
    have : i = sp_la C + 1 := by omega
    subst this
    exact x_iv.l ⟨rfl, rfl⟩
  · rw [if_neg (by rw [i_lt (by omega) (by omega)]; omega), e_Mo_isSharp (by omega)]
    dsimp only [Option.bind_some]
    have hs : sp_fo (wst_ls (σ.1 86) (σ.1 79 0)) 0 (0, 0) (i + 1) = wst_ls (σ.1 86) (σ.1 79 0) i (sp_fo (wst_ls (σ.1 86) (σ.1 79 0)) 0 (0, 0) i) := by rw [sp_fo]; rw [Nat.zero_add]
    generalize sp_fo (wst_ls (σ.1 86) (σ.1 79 0)) 0 (0, 0) i = c at hs h0 ⊢
    unfold f_Mo_longestSoft_60_J29
    by_cases h : σ.1 79 0 < sp_abs (σ.1 86 i)
    · rw [if_pos h, if_pos rfl]
      have hs' : wst_ls (σ.1 86) (σ.1 79 0) i c = (if c.1 < c.2 + 1 then c.2 + 1 else c.1, c.2 + 1) := if_pos h
      rw [hs'] at hs
      by_cases h2 : c.2 + 1 ≤ c.1
      · rw [if_pos h2]
        rw [if_neg (i_nl.mpr h2)] at hs
        exact x_iv.r (by omega) ⟨by rw [hs, i_s], by rw [hs]; exact h0⟩
      · rw [if_neg h2]
        rw [if_pos (i_nle.mp h2)] at hs
        exact x_iv.r (by omega) ⟨by rw [hs, i_s], by rw [hs]; exact i_nl.mp (i_0le h0 (i_nle.mp h2))⟩
    · rw [if_neg h, if_neg (by decide)]
      have hs' : wst_ls (σ.1 86) (σ.1 79 0) i c = (if c.1 < 0 then 0 else c.1, 0) := if_neg h
      rw [hs', if_neg (i_nl.mpr h0)] at hs
      rw [if_pos h0]
      exact x_iv.r (by omega) ⟨by rw [hs, i_s], by rw [hs]; exact h0⟩

theorem i_tl {a b : Int32} (h : a < b) : a ≤ b := by grind
theorem i_irr {a : Int32} : ¬ a < a := by grind
theorem i_a0 {a : Int32} : a + 0 = a := by grind
theorem e_Tr_swings {σ : xS} {l : Nat} (hl : σ.1 49 5 = Int32.ofNat l) (hb : l ≤ 600) : f_Tr_swings_49 σ = some ((sp_fo (wst_sw (σ.1 54)) 0 (0, 0) (l + 1)).1, σ) := by
  unfold f_Tr_swings_49
  have := x_sc (body := f_Tr_swings_49_L6) (fun i (c : Int32 × Int32) => (c.1, c.2, Int32.ofNat i, σ)) (wst_sw (σ.1 54)) (fun c => (c.1, c.2, Int32.ofNat (l + 1), σ)) (l + 1) ?_ ?_ (l + 1) 10000 0 (0, 0) (by omega) (by omega)
  · rw [i_z] at this
    dsimp only at this
    rw [this]; rfl
  · intro i c hi
    have j46 : ∀ y, f_Tr_swings_49_J46 c.2 (Int32.ofNat i) c.1 y σ = some (.inr (c.1 + y, if σ.1 54 i = 0 then c.2 else σ.1 54 i, Int32.ofNat (i + 1), σ)) := by
      intro y
      unfold f_Tr_swings_49_J46
      dsimp only
      rw [if_neg (i_ix (by omega) (by omega)), if_neg (i_ix (by omega) (by omega)), i_cl (by omega), i_s]
      split <;> rfl
    unfold f_Tr_swings_49_L6
    dsimp only
    rw [hl, if_neg (by rw [i_lt (by omega) (by omega)]; omega), if_neg (i_ix (by omega) (by omega)), i_cl (by omega)]
    unfold f_Tr_swings_49_J28 f_Tr_swings_49_J41 f_Tr_swings_49_J45
    rw [if_neg (i_ix (by omega) (by omega)), i_cl (by omega), j46, j46]
    unfold wst_sw
    dsimp only
    generalize σ.1 54 i = g
    by_cases h1 : g ≤ 0
    · rw [if_pos h1]
      by_cases h2 : 0 ≤ g
      · rw [if_pos h2, if_neg (show ¬ (0 < g ∧ c.2 < 0 ∨ g < 0 ∧ 0 < c.2) by rintro (⟨h, -⟩ | ⟨h, -⟩); exact i_nl.mpr h1 h; exact i_nl.mpr h2 h)]
      · rw [if_neg h2]
        by_cases h3 : c.2 ≤ 0
        · rw [if_pos h3, if_neg (show ¬ (0 < g ∧ c.2 < 0 ∨ g < 0 ∧ 0 < c.2) by rintro (⟨h, -⟩ | ⟨-, h⟩); exact i_nl.mpr h1 h; exact i_nl.mpr h3 h)]
        · rw [if_neg h3, if_pos (Or.inr ⟨i_nle.mp h2, i_nle.mp h3⟩)]
    · rw [if_neg h1]
      by_cases h3 : c.2 < 0
      · rw [if_pos h3, if_pos (Or.inl ⟨i_nle.mp h1, h3⟩)]
      · rw [if_neg h3, if_neg (show ¬ (0 < g ∧ c.2 < 0 ∨ g < 0 ∧ 0 < c.2) by rintro (⟨-, h⟩ | ⟨h, -⟩); exact h3 h; exact h1 (i_tl h)), if_pos (i_tl (i_nle.mp h1))]
  · intro c
    unfold f_Tr_swings_49_L6
    dsimp only
    rw [hl, if_pos (by rw [i_lt (by omega) (by omega)]; omega)]
def sp_sg (v : Int32) : Int32 := if v ≤ 0 then (if 0 ≤ v then 0 else -1) else 1
theorem i_sg {a b : Int32} : (sp_sg a = 0 ↔ a = 0) ∧ (b = 0 ∨ a = 0 ∨ ((0 < a ∧ b < 0 ∨ a < 0 ∧ 0 < b) ↔ ¬ sp_sg a = sp_sg b)) := by unfold sp_sg; grind
def wst_sm (g : Nat → Int32) (i : Nat) (c : Int32 × Int32) : Int32 × Int32 := if sp_sg (g i) = 0 then c else (c.1 + (if c.2 = 0 then 0 else if sp_sg (g i) = c.2 then 0 else 1), sp_sg (g i))
theorem e_Mo_swings {C : Nat → Nat → Int32} {σ : xS} (G : x_G C) (M : x_M C σ) : f_Mo_swings_60 σ = some ((sp_fo (wst_sm (σ.1 86)) 0 (0, 0) (sp_la C + 1)).1, σ) := by
  have hb := G.2.1.2
  unfold f_Mo_swings_60
  have := x_sc (body := f_Mo_swings_60_L6) (fun i (c : Int32 × Int32) => (c.1, c.2, Int32.ofNat i, σ)) (wst_sm (σ.1 86)) (fun c => (c.1, c.2, Int32.ofNat (sp_la C + 1), σ)) (sp_la C + 1) ?_ ?_ (sp_la C + 1) 10000 0 (0, 0) (by omega) (by omega)
  · rw [i_z] at this
    dsimp only at this
    rw [this]; rfl
  · intro i c hi
    have j41 : ∀ y, y = sp_sg (σ.1 86 i) → f_Mo_swings_60_J41 c.1 c.2 (Int32.ofNat i) y σ = some (.inr ((wst_sm (σ.1 86) i c).1, (wst_sm (σ.1 86) i c).2, Int32.ofNat (i + 1), σ)) := by
      intro y hy
      unfold f_Mo_swings_60_J41 wst_sm
      dsimp only
      rw [i_s, ← hy]
      by_cases h1 : y = 0
      · rw [if_pos h1, if_pos h1]
      · rw [if_neg h1, if_neg h1]
        by_cases h2 : c.2 = 0
        · rw [if_pos h2, if_pos h2]
        · rw [if_neg h2, if_neg h2]
          by_cases h3 : y = c.2
          · rw [if_pos h3, if_pos h3]
          · rw [if_neg h3, if_neg h3]
    unfold f_Mo_swings_60_L6
    dsimp only
    rw [G.last M]
    dsimp only [Option.bind_some]
    rw [if_neg (by rw [i_lt (by omega) (by omega)]; omega), if_neg (i_ix (by omega) (by omega)), if_neg (i_ix (by omega) (by omega)), i_cl (by omega)]
    by_cases h1 : σ.1 86 i ≤ 0
    · rw [if_pos h1]
      by_cases h2 : 0 ≤ σ.1 86 i
      · rw [if_pos h2]; exact j41 0 (by unfold sp_sg; rw [if_pos h1, if_pos h2])
      · rw [if_neg h2]; exact j41 (-1) (by unfold sp_sg; rw [if_pos h1, if_neg h2])
    · rw [if_neg h1]; exact j41 1 (by unfold sp_sg; rw [if_neg h1])
  · intro c
    unfold f_Mo_swings_60_L6
    dsimp only
    rw [G.last M]
    dsimp only [Option.bind_some]
    rw [if_pos (by rw [i_lt (by omega) (by omega)]; omega)]
theorem sp_sw_eq {g g' : Nat → Int32} {n : Nat} (h : ∀ i, i < n → g i = g' i) : (sp_fo (wst_sw g) 0 (0, 0) n).1 = (sp_fo (wst_sm g') 0 (0, 0) n).1 := by
  refine (sp_fo_rel (R := fun (x y : Int32 × Int32) => x.1 = y.1 ∧ y.2 = sp_sg x.2) ⟨rfl, by decide⟩ ?_).1
  rintro j - hj x y ⟨h1, h2⟩
  unfold wst_sw wst_sm
  rw [← h j (by omega), ← h1, h2]
  have s1 := @i_sg (g j) x.2
  have s2 := @i_sg x.2 x.2
  by_cases c1 : g j = 0
  · rw [if_pos (s1.1.mpr c1)]
    dsimp only
    rw [if_pos c1, if_neg (by rw [c1]; rintro (⟨h, -⟩ | ⟨h, -⟩); exact i_irr h; exact i_irr h), i_a0]
    exact ⟨h1, h2⟩
  · rw [if_neg (fun e => c1 (s1.1.mp e))]
    dsimp only
    rw [if_neg c1]
    refine ⟨?_, rfl⟩
    congr 1
    by_cases c2 : x.2 = 0
    · rw [if_pos (s2.1.mpr c2), if_neg (by rw [c2]; rintro (⟨-, h⟩ | ⟨-, h⟩); exact i_irr h; exact i_irr h)]
    · rw [if_neg (fun e => c2 (s2.1.mp e))]
      have s3 := (s1.2.resolve_left c2).resolve_left c1
      by_cases c3 : sp_sg (g j) = sp_sg x.2
      · rw [if_pos c3, if_neg (fun e => (s3.mp e) c3)]
      · rw [if_neg c3, if_pos (s3.mpr c3)]
theorem e_Tr_turned {σ : xS} {l : Nat} (hl : σ.1 49 5 = Int32.ofNat l) (hb : l ≤ 600) : f_Tr_turned_49 σ = some (sp_fo (fun i => wst_tu (σ.1 53) (i + 1)) 0 0 l, σ) := by
  unfold f_Tr_turned_49
  have := x_sc (body := f_Tr_turned_49_L4) (fun i (c : Int32) => (c, Int32.ofNat (i + 1), σ)) (fun i => wst_tu (σ.1 53) (i + 1)) (fun c => (c, Int32.ofNat (l + 1), σ)) l ?_ ?_ l 10000 0 0 (by omega) (by omega)
  · rw [show Int32.ofNat (0 + 1) = 1 from rfl] at this
    rw [this]; rfl
  · intro i0 c hi0
    generalize hi9 : i0 + 1 = i
    have hi : i < l + 1 := by omega
    have hi1 : 0 < i := by omega
    try dsimp only
    have e1 : Int32.ofNat i - 1 = Int32.ofNat (i - 1) ∨ i = 0 := by
      by_cases h : i = 0
      · exact Or.inr h
      · exact Or.inl (i_p (by omega))
    unfold f_Tr_turned_49_L4
    dsimp only
    rcases e1 with e1 | e1
    · rw [hl, if_neg (by rw [i_lt (by omega) (by omega)]; omega), if_neg (i_ix (by omega) (by omega)), e1, if_neg (i_ix (by omega) (by omega)), i_cl (by omega), i_cl (by omega), i_s]
      rfl
    · omega
  · intro c
    unfold f_Tr_turned_49_L4
    dsimp only
    rw [hl, if_pos (by rw [i_lt (by omega) (by omega)]; omega)]
def sp_ff (g : Nat → Int32) (h : Int32) : Nat → Nat → Int32
  | _, 0 => -1
  | i, k + 1 => if h < sp_abs (g i) then Int32.ofNat i else sp_ff g h (i + 1) k
theorem sp_ff_congr {g g' : Nat → Int32} {h : Int32} : ∀ {k i : Nat}, (∀ j, j < i + k → g j = g' j) → sp_ff g h i k = sp_ff g' h i k
  | 0, _, _ => rfl
  | k + 1, i, e => by unfold sp_ff; rw [e i (by omega), sp_ff_congr (fun j hj => e j (by omega))]
theorem e_Tr_ff {σ : xS} {l : Nat} (hl : σ.1 49 5 = Int32.ofNat l) (hb : l ≤ 600) : ∀ (k i n : Nat), i + k = l + 1 → k < n → x_ens (x_it f_Tr_firstSoft_49_L2 n (Int32.ofNat i, σ)) (fun b => b = .inl (sp_ff (σ.1 54) (σ.1 50 0) i k, σ) ∨ (sp_ff (σ.1 54) (σ.1 50 0) i k = -1 ∧ ∃ j, b = .inr (j, σ)))
  | k, i, 0, _, h => by omega
  | 0, i, n + 1, h1, h2 => by
    refine x_nx fun P kL kR => ?_
    unfold f_Tr_firstSoft_49_L2
    dsimp only
    rw [hl, if_pos (by rw [i_lt (by omega) (by omega)]; omega)]
    exact kL _ (Or.inr ⟨rfl, _, rfl⟩)
  | k + 1, i, n + 1, h1, h2 => by
    refine x_nx fun P kL kR => ?_
    unfold f_Tr_firstSoft_49_L2
    dsimp only
    rw [hl, if_neg (by rw [i_lt (by omega) (by omega)]; omega), e_Tr_isSharp (by omega)]
    dsimp only [Option.bind_some]
    by_cases h : σ.1 50 0 < sp_abs (σ.1 54 i)
    · rw [if_pos h, if_pos rfl]
      exact kL _ (Or.inl (by rw [sp_ff, if_pos h]))
    · rw [if_neg h, if_neg (by decide), i_s]
      refine kR _ ?_
      rw [sp_ff, if_neg h]
      exact e_Tr_ff hl hb k (i + 1) n (by omega) (by omega)
theorem e_Tr_firstSoft {σ : xS} {l : Nat} (hl : σ.1 49 5 = Int32.ofNat l) (hb : l ≤ 600) : f_Tr_firstSoft_49 σ = some (sp_ff (σ.1 54) (σ.1 50 0) 0 (l + 1), σ) := by
  apply x_ens.eq
  unfold f_Tr_firstSoft_49
  refine x_ens.bi (e_Tr_ff hl hb (l + 1) 0 10000 (by omega) (by omega)) ?_
  rintro b (rfl | ⟨h, j, rfl⟩)
  · exact x_ens.so rfl
  · rw [h]; exact x_ens.so rfl
theorem e_Mo_ff {C : Nat → Nat → Int32} {σ : xS} (G : x_G C) (M : x_M C σ) : ∀ (k i n : Nat), i + k = sp_la C + 1 → k < n → x_ens (x_it f_Mo_firstSoft_60_L2 n (Int32.ofNat i, σ)) (fun b => b = .inl (sp_ff (σ.1 86) (σ.1 79 0) i k, σ) ∨ (sp_ff (σ.1 86) (σ.1 79 0) i k = -1 ∧ ∃ j, b = .inr (j, σ)))
  | k, i, 0, _, h => by omega
  | 0, i, n + 1, h1, h2 => by
    have hb := G.2.1.2
    refine x_nx fun P kL kR => ?_
    unfold f_Mo_firstSoft_60_L2
    dsimp only
    rw [G.last M]
    dsimp only [Option.bind_some]
    rw [if_pos (by rw [i_lt (by omega) (by omega)]; omega)]
    exact kL _ (Or.inr ⟨rfl, _, rfl⟩)
  | k + 1, i, n + 1, h1, h2 => by
    have hb := G.2.1.2
    refine x_nx fun P kL kR => ?_
    unfold f_Mo_firstSoft_60_L2
    dsimp only
    rw [G.last M]
    dsimp only [Option.bind_some]
    rw [if_neg (by rw [i_lt (by omega) (by omega)]; omega), e_Mo_isSharp (by omega)]
    dsimp only [Option.bind_some]
    by_cases h : σ.1 79 0 < sp_abs (σ.1 86 i)
    · rw [if_pos h, if_pos rfl]
      exact kL _ (Or.inl (by rw [sp_ff, if_pos h]))
    · rw [if_neg h, if_neg (by decide), i_s]
      refine kR _ ?_
      rw [sp_ff, if_neg h]
      exact e_Mo_ff G M k (i + 1) n (by omega) (by omega)
theorem e_Mo_firstSoft {C : Nat → Nat → Int32} {σ : xS} (G : x_G C) (M : x_M C σ) : f_Mo_firstSoft_60 σ = some (sp_ff (σ.1 86) (σ.1 79 0) 0 (sp_la C + 1), σ) := by
  apply x_ens.eq
  unfold f_Mo_firstSoft_60
  have hb := G.2.1.2
  refine x_ens.bi (e_Mo_ff G M (sp_la C + 1) 0 10000 (by omega) (by omega)) ?_
  rintro b (rfl | ⟨h, j, rfl⟩)
  · exact x_ens.so rfl
  · rw [h]; exact x_ens.so rfl
