def sp_up (T : Nat → Int32) (p : Nat) (v : Int32) : Nat → Int32 := fun k => if k = p then v else T k
def sp_1 (n : Nat) : Nat := if n = 40 then 1 else 0
def sp_q (p : Nat) : Nat := if p = 4 then 5 else if p = 5 then 4 else p
theorem i_2m {m : Nat} : (2 : Int32) * Int32.ofNat m = Int32.ofNat (2 * m) := (Int32.ofNat_mul 2 m).symm
theorem sp_up_ne {T : Nat → Int32} {p k : Nat} {v : Int32} (h : k ≠ p) : sp_up T p v k = T k := if_neg h
theorem sp_up_eq {T : Nat → Int32} {p : Nat} {v : Int32} : sp_up T p v p = v := if_pos rfl
theorem sp_q_q {k p : Nat} (h : sp_q k = sp_q p) : k = p := by
  unfold sp_q at h; grind
theorem sp_up_q {T T' : Nat → Int32} {k p : Nat} {v : Int32} (h : T' (sp_q k) = T k) : sp_up T' (sp_q p) v (sp_q k) = sp_up T p v k := by
  by_cases e : k = p
  · subst e; rw [sp_up_eq, sp_up_eq]
  · rw [sp_up_ne e, sp_up_ne (fun x => e (sp_q_q x)), h]
theorem e_Se_drop {σ : xS} : x_ens (f_Se_dropEarliest_35 σ) (fun q => q.2.1 35 3 = 39 ∧ (∀ i, i < 39 → q.2.1 37 i = σ.1 37 (i + 1) ∧ q.2.1 38 i = σ.1 38 (i + 1)) ∧ q.2.1 36 = σ.1 36) := by
  unfold f_Se_dropEarliest_35
  refine x_ens.bi (P := fun b => (∀ i, i < 39 → b.2.1 37 i = σ.1 37 (i + 1) ∧ b.2.1 38 i = σ.1 38 (i + 1)) ∧ b.2.1 36 = σ.1 36) ?_ ?_
  · refine x_iv.go (fun i a => a.1 = Int32.ofNat (i + 1) ∧ (∀ j, (j < i → a.2.1 37 j = σ.1 37 (j + 1) ∧ a.2.1 38 j = σ.1 38 (j + 1)) ∧ (i ≤ j → a.2.1 37 j = σ.1 37 j ∧ a.2.1 38 j = σ.1 38 j)) ∧ a.2.1 36 = σ.1 36) 39 (by omega) ⟨rfl, fun j => ⟨fun h => by omega, fun _ => ⟨rfl, rfl⟩⟩, rfl⟩ ?_
    rintro i ⟨v, τ⟩ hi ⟨h1, h2, h3⟩
    dsimp only at h1 h2 h3
    subst h1
    unfold f_Se_dropEarliest_35_L2
    dsimp only
    by_cases hx : i = 39
    · subst hx
      rw [if_pos (by decide)]
      exact x_iv.l ⟨fun j hj => (h2 j).1 hj, h3⟩
    · rw [if_neg (show ¬ (40 : Int32) ≤ Int32.ofNat (i + 1) from fun h => by have := (i_le (j := 40) (by omega) (by omega)).mp h; omega), i_m1', i_cl (k := i + 1) (by omega), i_cl (k := i) (by omega)]
      refine x_ens.gr (by rintro (h | h) <;> first | exact i_ge (by omega) h | omega | (rw [i_cl (by omega)] at h; omega)) ?_
      refine x_ens.gr (by rintro (h | h) <;> first | exact i_ge (by omega) h | omega | (rw [i_cl (by omega)] at h; omega)) ?_
      refine x_ens.gr (by rintro (h | h) <;> first | exact i_ge (by omega) h | omega | (rw [i_cl (by omega)] at h; omega)) ?_
      refine x_ens.gr (by rintro (h | h) <;> first | exact i_ge (by omega) h | omega | (rw [i_cl (by omega)] at h; omega)) ?_
      refine x_iv.r (by omega) ⟨i_s, fun j => ?_, ?_⟩
      · dsimp only
        have e37 : (x_pI (x_pI τ 37 i (τ.1 37 (i + 1))) 38 i ((x_pI τ 37 i (τ.1 37 (i + 1))).1 38 (i + 1))).1 37 j = if j = i then τ.1 37 (i + 1) else τ.1 37 j := by rw [y_pI_ne (by omega), x_pI_at]
        have e38 : (x_pI (x_pI τ 37 i (τ.1 37 (i + 1))) 38 i ((x_pI τ 37 i (τ.1 37 (i + 1))).1 38 (i + 1))).1 38 j = if j = i then τ.1 38 (i + 1) else τ.1 38 j := by rw [x_pI_at, y_pI_ne (by omega)]
        rw [e37, e38]
        refine ⟨fun hj => ?_, fun hj => ?_⟩
        · by_cases h : j = i
          · subst h; rw [if_pos rfl, if_pos rfl]; exact (h2 (j + 1)).2 (by omega)
          · rw [if_neg h, if_neg h]; exact (h2 j).1 (by omega)
        · rw [if_neg (by omega), if_neg (by omega)]; exact (h2 j).2 (by omega)
      · dsimp only; rw [y_pI_ne (by omega), y_pI_ne (by omega)]; exact h3
  · rintro b ⟨h1, h2⟩
    refine x_ens.so ⟨by rw [x_pI_at]; rfl, fun i hi => ?_, ?_⟩
    · rw [y_pI_ne (by omega), y_pI_ne (by omega)]; exact h1 i hi
    · rw [y_pI_ne (by omega)]; exact h2
theorem e_Se_J25 {σ : xS} {m p : Nat} {v : Int32} (hm : σ.1 35 3 = Int32.ofNat m) (hb : m < 40) (hp : p < 12) : f_Se_act_35_J25 (Int32.ofNat p) v σ = some (σ.1 36 p, x_pI (x_pI (x_pI (x_pI σ 37 m (Int32.ofNat p)) 38 m (σ.1 36 p)) 35 3 (Int32.ofNat (m + 1))) 36 p v) := by
  apply x_ens.eq
  unfold f_Se_act_35_J25
  have g1 : ∀ {τ : xS} {k : Nat} {w : Int32}, (x_pI τ 37 k w).1 35 = τ.1 35 := y_pI_ne (by omega)
  have g2 : ∀ {τ : xS} {k : Nat} {w : Int32}, (x_pI τ 38 k w).1 35 = τ.1 35 := y_pI_ne (by omega)
  have ep : (Int32.ofNat p).toNatClampNeg = p := i_cl (by omega)
  have em : (Int32.ofNat m).toNatClampNeg = m := i_cl (by omega)
  simp only [g1, g2, hm, ep, em, i_s]
  refine x_ens.gr (by rintro (h | h) <;> first | exact i_ge (by omega) h | omega | (rw [i_cl (by omega)] at h; omega)) ?_
  refine x_ens.gr (by rintro (h | h) <;> first | exact i_ge (by omega) h | omega | (rw [i_cl (by omega)] at h; omega)) ?_
  refine x_ens.gr (by rintro (h | h) <;> first | exact i_ge (by omega) h | omega | (rw [i_cl (by omega)] at h; omega)) ?_
  refine x_ens.gr (by rintro (h | h) <;> first | exact i_ge (by omega) h | omega | (rw [i_cl (by omega)] at h; omega)) ?_
  exact x_ens.so rfl
theorem e_Se_act {σ : xS} {n p : Nat} {v : Int32} (hn : σ.1 35 3 = Int32.ofNat n) (hb : n ≤ 40) (hp : p < 12) : x_ens (f_Se_act_35 (Int32.ofNat p) v σ) (fun q => q.1 = σ.1 36 p ∧ q.2.1 36 = sp_up (σ.1 36) p v ∧ q.2.1 35 3 = Int32.ofNat (n - sp_1 n + 1) ∧ (∀ i, i < n - sp_1 n → q.2.1 37 i = σ.1 37 (i + sp_1 n) ∧ q.2.1 38 i = σ.1 38 (i + sp_1 n)) ∧ q.2.1 37 (n - sp_1 n) = Int32.ofNat p ∧ q.2.1 38 (n - sp_1 n) = σ.1 36 p) := by
  unfold f_Se_act_35
  rw [if_neg (i_ge (by omega)), if_pos (show Int32.ofNat p < (12 : Int32) from (i_lt (k := 12) (by omega) (by omega)).mpr hp), hn]
  have fin : ∀ (τ : xS) (m : Nat), m < 40 → τ.1 35 3 = Int32.ofNat m → τ.1 36 = σ.1 36 → m = n - sp_1 n → (∀ i, i < m → τ.1 37 i = σ.1 37 (i + sp_1 n) ∧ τ.1 38 i = σ.1 38 (i + sp_1 n)) → x_ens (f_Se_act_35_J25 (Int32.ofNat p) v τ) (fun q => q.1 = σ.1 36 p ∧ q.2.1 36 = sp_up (σ.1 36) p v ∧ q.2.1 35 3 = Int32.ofNat (n - sp_1 n + 1) ∧ (∀ i, i < n - sp_1 n → q.2.1 37 i = σ.1 37 (i + sp_1 n) ∧ q.2.1 38 i = σ.1 38 (i + sp_1 n)) ∧ q.2.1 37 (n - sp_1 n) = Int32.ofNat p ∧ q.2.1 38 (n - sp_1 n) = σ.1 36 p) := by
    intro τ m h1 h2 h3 h4 h5
    rw [← h4, ← h3]
    refine x_ens.of (e_Se_J25 h2 h1 hp) ?_
    dsimp only
    have k36 : (x_pI (x_pI (x_pI (x_pI τ 37 m (Int32.ofNat p)) 38 m (τ.1 36 p)) 35 3 (Int32.ofNat (m + 1))) 36 p v).1 36 = sp_up (τ.1 36) p v := by
      rw [x_pI_at, y_pI_ne (by omega), y_pI_ne (by omega), y_pI_ne (by omega)]; rfl
    have k35 : (x_pI (x_pI (x_pI (x_pI τ 37 m (Int32.ofNat p)) 38 m (τ.1 36 p)) 35 3 (Int32.ofNat (m + 1))) 36 p v).1 35 3 = Int32.ofNat (m + 1) := by
      rw [y_pI_ne (by omega), x_pI_at]; rfl
    have k37 : ∀ j, (x_pI (x_pI (x_pI (x_pI τ 37 m (Int32.ofNat p)) 38 m (τ.1 36 p)) 35 3 (Int32.ofNat (m + 1))) 36 p v).1 37 j = if j = m then Int32.ofNat p else τ.1 37 j := by
      intro j; rw [y_pI_ne (by omega), y_pI_ne (by omega), y_pI_ne (by omega), x_pI_at]
    have k38 : ∀ j, (x_pI (x_pI (x_pI (x_pI τ 37 m (Int32.ofNat p)) 38 m (τ.1 36 p)) 35 3 (Int32.ofNat (m + 1))) 36 p v).1 38 j = if j = m then τ.1 36 p else τ.1 38 j := by
      intro j; rw [y_pI_ne (by omega), y_pI_ne (by omega), x_pI_at, y_pI_ne (by omega)]
    rw [k36, k35]
    refine ⟨rfl, rfl, rfl, fun i hi => ?_, ?_, ?_⟩
    · rw [k37, k38, if_neg (by omega), if_neg (by omega)]; exact h5 i hi
    · rw [k37, if_pos rfl]
    · rw [k38, if_pos rfl]
  by_cases h : n < 40
  · rw [if_pos (show Int32.ofNat n < (40 : Int32) from (i_lt (k := 40) (by omega) (by omega)).mpr h)]
    have e1 : sp_1 n = 0 := if_neg (by omega)
    exact fin σ n h hn rfl (by omega) (fun i _ => by rw [e1]; exact ⟨rfl, rfl⟩)
  · rw [if_neg (show ¬ Int32.ofNat n < (40 : Int32) from fun x => h ((i_lt (k := 40) (by omega) (by omega)).mp x))]
    have e0 : n = 40 := by omega
    subst e0
    refine x_ens.bi e_Se_drop ?_
    rintro q ⟨h1, h2, h3⟩
    exact fin q.2 39 (by omega) h1 h3 rfl h2
theorem e_Mo_J47 {σ : xS} {m p : Nat} {v : Int32} (hm : σ.1 60 56 = Int32.ofNat m) (hb : m < 40) (hp : p < 12) : f_Mo_becomes_60_J47 (Int32.ofNat p) v σ = some (σ.1 79 p, x_pI (x_pI (x_pI (x_pI σ 81 (2 * m) (Int32.ofNat p)) 81 (2 * m + 1) (σ.1 79 p)) 60 56 (Int32.ofNat (m + 1))) 79 p v) := by
  apply x_ens.eq
  unfold f_Mo_becomes_60_J47
  have g1 : ∀ {τ : xS} {k : Nat} {w : Int32}, (x_pI τ 81 k w).1 60 = τ.1 60 := y_pI_ne (by omega)
  have ep : (Int32.ofNat p).toNatClampNeg = p := i_cl (by omega)
  have e1 : (Int32.ofNat (2 * m)).toNatClampNeg = 2 * m := i_cl (by omega)
  have e2 : (Int32.ofNat (2 * m + 1)).toNatClampNeg = 2 * m + 1 := i_cl (by omega)
  simp only [g1, hm, ep, i_2m, i_s, e1, e2]
  refine x_ens.gr (by rintro (h | h) <;> first | exact i_ge (by omega) h | omega | (rw [i_cl (by omega)] at h; omega)) ?_
  refine x_ens.gr (by rintro (h | h) <;> first | exact i_ge (by omega) h | omega | (rw [i_cl (by omega)] at h; omega)) ?_
  refine x_ens.gr (by rintro (h | h) <;> first | exact i_ge (by omega) h | omega | (rw [i_cl (by omega)] at h; omega)) ?_
  refine x_ens.gr (by rintro (h | h) <;> first | exact i_ge (by omega) h | omega | (rw [i_cl (by omega)] at h; omega)) ?_
  exact x_ens.so rfl
theorem i_m2 {k : Nat} : Int32.ofNat (k + 2) - 2 = Int32.ofNat k := by
  have : Int32.ofNat (k + 2) = Int32.ofNat k + 2 := Int32.ofNat_add k 2
  rw [this]; grind
theorem e_Mo_becomes {σ : xS} {n p : Nat} {v : Int32} (hn : σ.1 60 56 = Int32.ofNat n) (hb : n ≤ 40) (hp : p < 12) : x_ens (f_Mo_becomes_60 (Int32.ofNat p) v σ) (fun q => q.1 = σ.1 79 p ∧ q.2.1 79 = sp_up (σ.1 79) p v ∧ q.2.1 60 56 = Int32.ofNat (n - sp_1 n + 1) ∧ (∀ i, i < 2 * (n - sp_1 n) → q.2.1 81 i = σ.1 81 (i + 2 * sp_1 n)) ∧ q.2.1 81 (2 * (n - sp_1 n)) = Int32.ofNat p ∧ q.2.1 81 (2 * (n - sp_1 n) + 1) = σ.1 79 p) := by
  unfold f_Mo_becomes_60
  rw [hn]
  have fin : ∀ (τ : xS) (m : Nat), m < 40 → τ.1 60 56 = Int32.ofNat m → τ.1 79 = σ.1 79 → m = n - sp_1 n → (∀ i, i < 2 * m → τ.1 81 i = σ.1 81 (i + 2 * sp_1 n)) → x_ens (f_Mo_becomes_60_J47 (Int32.ofNat p) v τ) (fun q => q.1 = σ.1 79 p ∧ q.2.1 79 = sp_up (σ.1 79) p v ∧ q.2.1 60 56 = Int32.ofNat (n - sp_1 n + 1) ∧ (∀ i, i < 2 * (n - sp_1 n) → q.2.1 81 i = σ.1 81 (i + 2 * sp_1 n)) ∧ q.2.1 81 (2 * (n - sp_1 n)) = Int32.ofNat p ∧ q.2.1 81 (2 * (n - sp_1 n) + 1) = σ.1 79 p) := by
    intro τ m h1 h2 h3 h4 h5
    rw [← h4, ← h3]
    refine x_ens.of (e_Mo_J47 h2 h1 hp) ?_
    dsimp only
    have k79 : (x_pI (x_pI (x_pI (x_pI τ 81 (2 * m) (Int32.ofNat p)) 81 (2 * m + 1) (τ.1 79 p)) 60 56 (Int32.ofNat (m + 1))) 79 p v).1 79 = sp_up (τ.1 79) p v := by
      rw [x_pI_at, y_pI_ne (by omega), y_pI_ne (by omega), y_pI_ne (by omega)]; rfl
    have k60 : (x_pI (x_pI (x_pI (x_pI τ 81 (2 * m) (Int32.ofNat p)) 81 (2 * m + 1) (τ.1 79 p)) 60 56 (Int32.ofNat (m + 1))) 79 p v).1 60 56 = Int32.ofNat (m + 1) := by
      rw [y_pI_ne (by omega), x_pI_at]; rfl
    have k81 : ∀ j, (x_pI (x_pI (x_pI (x_pI τ 81 (2 * m) (Int32.ofNat p)) 81 (2 * m + 1) (τ.1 79 p)) 60 56 (Int32.ofNat (m + 1))) 79 p v).1 81 j = if j = 2 * m + 1 then τ.1 79 p else if j = 2 * m then Int32.ofNat p else τ.1 81 j := by
      intro j; rw [y_pI_ne (by omega), y_pI_ne (by omega), x_pI_at, x_pI_at]
    rw [k79, k60]
    refine ⟨rfl, rfl, rfl, fun i hi => ?_, ?_, ?_⟩
    · rw [k81, if_neg (by omega), if_neg (by omega)]; exact h5 i hi
    · rw [k81, if_neg (by omega), if_pos rfl]
    · rw [k81, if_pos rfl]
  by_cases h : n = 40
  · subst h
    rw [if_pos (by decide)]
    refine x_ens.bi (P := fun b => (∀ i, i < 78 → b.2.1 81 i = σ.1 81 (i + 2)) ∧ b.2.1 79 = σ.1 79 ∧ b.2.1 60 = σ.1 60) ?_ ?_
    · refine x_iv.go (fun i a => a.1 = Int32.ofNat (i + 2) ∧ (∀ j, (j < i → a.2.1 81 j = σ.1 81 (j + 2)) ∧ (i ≤ j → a.2.1 81 j = σ.1 81 j)) ∧ a.2.1 79 = σ.1 79 ∧ a.2.1 60 = σ.1 60) 78 (by omega) ⟨rfl, fun j => ⟨fun h => by omega, fun _ => rfl⟩, rfl, rfl⟩ ?_
      rintro i ⟨u, τ⟩ hi ⟨h1, h2, h3, h4⟩
      dsimp only at h1 h2 h3 h4
      subst h1
      unfold f_Mo_becomes_60_L11
      dsimp only
      by_cases hx : i = 78
      · subst hx
        rw [if_pos (by decide)]
        exact x_iv.l ⟨fun j hj => (h2 j).1 hj, h3, h4⟩
      · rw [if_neg (show ¬ (80 : Int32) ≤ Int32.ofNat (i + 2) from fun h => by have := (i_le (j := 80) (by omega) (by omega)).mp h; omega), i_m2, i_cl (k := i + 2) (by omega), i_cl (k := i) (by omega)]
        refine x_ens.gr (by rintro (h | h) <;> first | exact i_ge (by omega) h | omega | (rw [i_cl (by omega)] at h; omega)) ?_
        refine x_ens.gr (by rintro (h | h) <;> first | exact i_ge (by omega) h | omega | (rw [i_cl (by omega)] at h; omega)) ?_
        refine x_iv.r (by omega) ⟨i_s, fun j => ?_, ?_, ?_⟩
        · dsimp only
          have e81 : (x_pI τ 81 i (τ.1 81 (i + 2))).1 81 j = if j = i then τ.1 81 (i + 2) else τ.1 81 j := by rw [x_pI_at]
          rw [e81]
          refine ⟨fun hj => ?_, fun hj => ?_⟩
          · by_cases h : j = i
            · subst h; rw [if_pos rfl]; exact (h2 (j + 2)).2 (by omega)
            · rw [if_neg h]; exact (h2 j).1 (by omega)
          · rw [if_neg (by omega)]; exact (h2 j).2 (by omega)
        · dsimp only; rw [y_pI_ne (by omega)]; exact h3
        · dsimp only; rw [y_pI_ne (by omega)]; exact h4
    · rintro b ⟨h1, h2, h3⟩
      refine fin _ 39 (by omega) ?_ ?_ rfl ?_
      · rw [x_pI_at]
        show b.2.1 60 56 - 1 = _
        rw [h3, hn]; rfl
      · rw [y_pI_ne (by omega)]; exact h2
      · intro i hi; rw [y_pI_ne (by omega)]; exact h1 i hi
  · rw [if_neg (show ¬ Int32.ofNat n = (40 : Int32) from fun x => h ((i_ej (k := 40) (by omega) (by omega)).mp x))]
    have e1 : sp_1 n = 0 := if_neg h
    exact fin σ n (by omega) hn rfl (by omega) (fun i _ => by rw [e1]; rfl)
