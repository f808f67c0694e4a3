def tk_l (c : Int32) : Bool := decide (97 ≤ c ∧ c ≤ 122)
def tk_d (c : Int32) : Bool := decide (48 ≤ c ∧ c ≤ 57)
def tk_b (c : Int32) : Bool := decide (c = 32 ∨ c = 10)
def tk_s (c : Int32) : Bool := decide (c = 59 ∨ c = 40 ∨ c = 41 ∨ c = 43 ∨ c = 45 ∨ c = 42 ∨ c = 47 ∨ c = 60 ∨ c = 61)
theorem e_isL {v : Int32} {σ : xS} : f_Re_isLetter v σ = some (if tk_l v = true then 1 else 0, σ) := by
  unfold f_Re_isLetter tk_l
  by_cases h : v < 97
  · rw [if_pos h, if_neg (by rw [decide_eq_true_iff]; exact fun x => i_nl.mpr x.1 h)]
  · rw [if_neg h]
    by_cases h2 : 122 < v
    · rw [if_pos h2, if_neg (by rw [decide_eq_true_iff]; exact fun x => i_nl.mpr x.2 h2)]
    · rw [if_neg h2, if_pos (by rw [decide_eq_true_iff]; exact ⟨i_nl.mp h, i_nl.mp h2⟩)]
theorem e_isD {v : Int32} {σ : xS} : f_Re_isDigit v σ = some (if tk_d v = true then 1 else 0, σ) := by
  unfold f_Re_isDigit tk_d
  by_cases h : v < 48
  · rw [if_pos h, if_neg (by rw [decide_eq_true_iff]; exact fun x => i_nl.mpr x.1 h)]
  · rw [if_neg h]
    by_cases h2 : 57 < v
    · rw [if_pos h2, if_neg (by rw [decide_eq_true_iff]; exact fun x => i_nl.mpr x.2 h2)]
    · rw [if_neg h2, if_pos (by rw [decide_eq_true_iff]; exact ⟨i_nl.mp h, i_nl.mp h2⟩)]
theorem e_MisL {v : Int32} {σ : xS} : f_Mo_isLetter v σ = some (if tk_l v = true then 1 else 0, σ) := e_isL
theorem e_MisD {v : Int32} {σ : xS} : f_Mo_isDigit v σ = some (if tk_d v = true then 1 else 0, σ) := e_isD
theorem e_isS {v : Int32} {σ : xS} : f_Re_isSignByte v σ = some (if tk_s v = true then 1 else 0, σ) := by
  by_cases h : v = 59 ∨ v = 40 ∨ v = 41 ∨ v = 43 ∨ v = 45 ∨ v = 42 ∨ v = 47 ∨ v = 60 ∨ v = 61
  · have ht : tk_s v = true := decide_eq_true_iff.mpr h
    rw [if_pos ht]
    rcases h with rfl | rfl | rfl | rfl | rfl | rfl | rfl | rfl | rfl <;> rfl
  · have ht : ¬ tk_s v = true := fun x => h (decide_eq_true_iff.mp x)
    rw [if_neg ht]
    simp only [not_or] at h
    obtain ⟨h1, h2, h3, h4, h5, h6, h7, h8, h9⟩ := h
    unfold f_Re_isSignByte
    simp only [if_neg h1, if_neg h2, if_neg h3, if_neg h4, if_neg h5, if_neg h6, if_neg h7, if_neg h8, if_neg h9, ite_self]
def tk_e (P : Int32 → Bool) (g : Nat → Int32) : Nat → Nat → Nat
  | 0, p => p
  | k + 1, p => if P (g p) = true then tk_e P g k (p + 1) else p
theorem tk_e_b {P : Int32 → Bool} {g : Nat → Int32} : ∀ {k p : Nat}, p ≤ tk_e P g k p ∧ tk_e P g k p ≤ p + k
  | 0, p => ⟨Nat.le_refl _, Nat.le_refl _⟩
  | k + 1, p => by
    unfold tk_e
    have := @tk_e_b P g k (p + 1)
    split <;> omega
theorem tk_e_c {P : Int32 → Bool} {g g' : Nat → Int32} : ∀ {k p : Nat}, (∀ i, i < p + k → g i = g' i) → tk_e P g k p = tk_e P g' k p
  | 0, _, _ => rfl
  | k + 1, p, h => by unfold tk_e; rw [h p (by omega), tk_e_c (fun i hi => h i (by omega))]
theorem e_endOfLetters_L {σ : xS} {n : Nat} (hn : n ≤ 700) : ∀ (k p fu : Nat), p + k = n → k < fu → x_ens (x_it (f_Re_endOfLetters_1_L2 (Int32.ofNat n)) fu (Int32.ofNat p, σ)) (fun b => b = .inl (Int32.ofNat (tk_e tk_l (σ.1 1) k p), σ) ∨ (tk_e tk_l (σ.1 1) k p = n ∧ ∃ u, b = .inr (u, σ)))
  | k, p, 0, _, h => by omega
  | 0, p, fu + 1, h1, h2 => by
    refine x_nx fun P kL kR => ?_
    unfold f_Re_endOfLetters_1_L2
    dsimp only
    rw [if_pos (by rw [i_le (by omega) (by omega)]; omega)]
    exact kL _ (Or.inr ⟨by show p = n; omega, _, rfl⟩)
  | k + 1, p, fu + 1, h1, h2 => by
    refine x_nx fun P kL kR => ?_
    unfold f_Re_endOfLetters_1_L2
    dsimp only
    rw [if_neg (by rw [i_le (by omega) (by omega)]; omega), if_neg (by rw [i_le (by omega) (by omega)]; omega), i_cl (by omega)]
    refine x_ens.gr (by rintro (h | h) <;> first | exact i_ge (by omega) h | omega | (rw [i_cl (by omega)] at h; omega)) ?_
    rw [e_isL]
    dsimp only [Option.bind_some]
    by_cases h : tk_l (σ.1 1 p) = true
    · rw [if_pos h, if_neg (by decide), i_s]
      refine kR _ ?_
      rw [tk_e, if_pos h]
      exact e_endOfLetters_L hn k (p + 1) fu (by omega) (by omega)
    · rw [if_neg h, if_pos rfl]
      exact kL _ (Or.inl (by rw [tk_e, if_neg h]))
theorem e_endOfLetters {σ : xS} {n p : Nat} (hn : n ≤ 700) (hp : p ≤ n) : f_Re_endOfLetters_1 (Int32.ofNat p) (Int32.ofNat n) σ = some (Int32.ofNat (tk_e tk_l (σ.1 1) (n - p) p), σ) := by
  apply x_ens.eq
  unfold f_Re_endOfLetters_1
  refine x_ens.bi (e_endOfLetters_L hn (n - p) p 10000 (by omega) (by omega)) ?_
  rintro b (rfl | ⟨h, u, rfl⟩)
  · exact x_ens.so rfl
  · rw [h]; exact x_ens.so rfl
theorem e_endOfDigits_L {σ : xS} {n : Nat} (hn : n ≤ 700) : ∀ (k p fu : Nat), p + k = n → k < fu → x_ens (x_it (f_Re_endOfDigits_1_L2 (Int32.ofNat n)) fu (Int32.ofNat p, σ)) (fun b => b = .inl (Int32.ofNat (tk_e tk_d (σ.1 1) k p), σ) ∨ (tk_e tk_d (σ.1 1) k p = n ∧ ∃ u, b = .inr (u, σ)))
  | k, p, 0, _, h => by omega
  | 0, p, fu + 1, h1, h2 => by
    refine x_nx fun P kL kR => ?_
    unfold f_Re_endOfDigits_1_L2
    dsimp only
    rw [if_pos (by rw [i_le (by omega) (by omega)]; omega)]
    exact kL _ (Or.inr ⟨by show p = n; omega, _, rfl⟩)
  | k + 1, p, fu + 1, h1, h2 => by
    refine x_nx fun P kL kR => ?_
    unfold f_Re_endOfDigits_1_L2
    dsimp only
    rw [if_neg (by rw [i_le (by omega) (by omega)]; omega), if_neg (by rw [i_le (by omega) (by omega)]; omega), i_cl (by omega)]
    refine x_ens.gr (by rintro (h | h) <;> first | exact i_ge (by omega) h | omega | (rw [i_cl (by omega)] at h; omega)) ?_
    rw [e_isD]
    dsimp only [Option.bind_some]
    by_cases h : tk_d (σ.1 1 p) = true
    · rw [if_pos h, if_neg (by decide), i_s]
      refine kR _ ?_
      rw [tk_e, if_pos h]
      exact e_endOfDigits_L hn k (p + 1) fu (by omega) (by omega)
    · rw [if_neg h, if_pos rfl]
      exact kL _ (Or.inl (by rw [tk_e, if_neg h]))
theorem e_endOfDigits {σ : xS} {n p : Nat} (hn : n ≤ 700) (hp : p ≤ n) : f_Re_endOfDigits_1 (Int32.ofNat p) (Int32.ofNat n) σ = some (Int32.ofNat (tk_e tk_d (σ.1 1) (n - p) p), σ) := by
  apply x_ens.eq
  unfold f_Re_endOfDigits_1
  refine x_ens.bi (e_endOfDigits_L hn (n - p) p 10000 (by omega) (by omega)) ?_
  rintro b (rfl | ⟨h, u, rfl⟩)
  · exact x_ens.so rfl
  · rw [h]; exact x_ens.so rfl
def tk_nu (g : Nat → Int32) (s : Nat) : Nat → Int32
  | 0 => 0
  | k + 1 => tk_nu g s k * 10 + g (s + k) - 48
def tk_n (g : Nat → Int32) (s e : Nat) : Int32 := if e - s ≤ 4 then tk_nu g s (e - s) else -1
theorem e_numberOn {σ : xS} {s e : Nat} (he : e ≤ 700) (hs : s ≤ e) : f_Re_numberOn_1 (Int32.ofNat s) (Int32.ofNat e) σ = some (tk_n (σ.1 1) s e, σ) := by
  apply x_ens.eq
  unfold f_Re_numberOn_1 tk_n
  rw [i_subn hs]
  by_cases h : e - s ≤ 4
  · rw [if_pos (show Int32.ofNat (e - s) ≤ (4 : Int32) from (i_le (k := 4) (by omega) (by omega)).mpr h), if_pos h]
    refine x_ens.bi (P := fun b => b.1 = tk_nu (σ.1 1) s (e - s) ∧ b.2.2 = σ) ?_ (fun b hb => x_ens.so (by rw [hb.1, hb.2]))
    refine x_iv.go (fun i a => a = (tk_nu (σ.1 1) s i, Int32.ofNat (s + i), σ)) (e - s) (by omega) rfl ?_
    rintro i a hi rfl
    unfold f_Re_numberOn_1_L14
    dsimp only
    by_cases hx : i = e - s
    · rw [if_pos (by rw [i_le (by omega) (by omega)]; omega), hx]
      exact x_iv.l ⟨rfl, rfl⟩
    · rw [if_neg (by rw [i_le (by omega) (by omega)]; omega), if_neg (by rw [i_le (by omega) (by omega)]; omega), i_cl (by omega), i_s]
      refine x_ens.gr (by rintro (h | h) <;> first | exact i_ge (by omega) h | omega | (rw [i_cl (by omega)] at h; omega)) ?_
      exact x_iv.r (by omega) rfl
  · rw [if_neg (show ¬ Int32.ofNat (e - s) ≤ (4 : Int32) from fun x => h ((i_le (k := 4) (by omega) (by omega)).mp x)), if_neg h]
    exact x_ens.so rfl
def tk_ls (g : Nat → Int32) (s e : Nat) : List Int32 := (List.range (e - s)).map fun i => g (s + i)
def tk_fx (ls : List Int32) : Nat → Nat → Nat
  | 0, _ => 0
  | k + 1, i => if x_by.getD i [] = ls then i else tk_fx ls k (i + 1)
def tk_w (g : Nat → Int32) (s e : Nat) : Nat := tk_fx (tk_ls g s e) 22 1
theorem tk_ls_len {g : Nat → Int32} {s e : Nat} : (tk_ls g s e).length = e - s := by unfold tk_ls; simp
theorem tk_ls_at {g : Nat → Int32} {s e i : Nat} (h : i < e - s) : (tk_ls g s e).getD i 0 = g (s + i) := by
  unfold tk_ls
  rw [List.getD_eq_getElem?_getD, List.getElem?_map, List.getElem?_range h]; rfl
theorem x_ln_by : ∀ i, i < 23 → x_ln.getD i 0 = (x_by.getD i []).length := by decide
theorem list_eq_gd {a b : List Int32} (hl : a.length = b.length) : a = b ↔ ∀ i, i < a.length → a.getD i 0 = b.getD i 0 := by
  constructor
  · intro h i _; rw [h]
  · intro h
    apply List.ext_getElem hl
    intro i h1 h2
    have := h i h1
    rw [List.getD_eq_getElem?_getD, List.getD_eq_getElem?_getD, List.getElem?_eq_getElem h1, List.getElem?_eq_getElem h2] at this
    exact this
theorem e_isOn {σ : xS} {i s e : Nat} (hi : i < 23) (he : e ≤ 700) (hs : s ≤ e) : f_Wo_isOn_1 (1000 + i) (Int32.ofNat s) (Int32.ofNat e) σ = some (if x_by.getD i [] = tk_ls (σ.1 1) s e then 1 else 0, σ) := by
  apply x_ens.eq
  unfold f_Wo_isOn_1
  refine x_ens.ok (by omega) (x_ens.ok (by omega) ?_)
  rw [i_subn hs, show 1000 + i + 200 - 1200 = i by omega, x_ln_by i hi]
  have hb : (x_by.getD i []).length ≤ 6 := by
    have : ∀ i, i < 23 → (x_by.getD i []).length ≤ 6 := by decide
    exact this i hi
  by_cases hl : e - s = (x_by.getD i []).length
  · rw [if_pos (by rw [hl]), if_neg (i_ge (by omega)), if_pos (by rw [i_le (by omega) (by omega)]; omega)]
    have hl2 : (x_by.getD i []).length = (tk_ls (σ.1 1) s e).length := by rw [tk_ls_len, hl]
    refine x_ens.bi (P := fun b => (x_by.getD i [] = tk_ls (σ.1 1) s e ∧ ∃ u, b = .inr (u, σ)) ∨ (x_by.getD i [] ≠ tk_ls (σ.1 1) s e ∧ b = .inl (0, σ))) ?_ ?_
    · refine x_iv.go (fun j a => a = (Int32.ofNat j, σ) ∧ ∀ k, k < j → (x_by.getD i []).getD k 0 = σ.1 1 (s + k)) (x_by.getD i []).length (by omega) ⟨rfl, fun k hk => by omega⟩ ?_
      rintro j a hj ⟨rfl, h2⟩
      unfold f_Wo_isOn_1_L28
      dsimp only
      refine x_ens.ok (by omega) (x_ens.ok (by omega) ?_)
      rw [show 1000 + i + 200 - 1200 = i by omega, x_ln_by i hi]
      by_cases hx : j = (x_by.getD i []).length
      · rw [if_pos (by rw [i_le (by omega) (by omega)]; omega)]
        refine x_iv.l (Or.inl ⟨(list_eq_gd hl2).mpr (fun k hk => ?_), _, rfl⟩)
        rw [tk_ls_at (by omega)]; exact h2 k (by omega)
      · rw [if_neg (by rw [i_le (by omega) (by omega)]; omega), ← Int32.ofNat_add, i_cl (k := s + j) (by omega), i_cl (k := j) (by omega)]
        refine x_ens.gr (by rintro (h | h) <;> first | exact i_ge (by omega) h | omega | (rw [i_cl (by omega)] at h; omega)) ?_
        refine x_ens.ok (by omega) (x_ens.ok (by omega) (x_ens.ok ⟨i_ge (by omega), by omega⟩ ?_))
        unfold x_ch
        by_cases hc : σ.1 1 (s + j) = (x_by.getD i []).getD j 0
        · rw [if_pos hc]
          refine x_iv.r (by omega) ⟨by rw [i_s], fun k hk => ?_⟩
          by_cases e1 : k = j
          · subst e1; exact hc.symm
          · exact h2 k (by omega)
        · rw [if_neg hc]
          refine x_iv.l (Or.inr ⟨fun x => hc ?_, rfl⟩)
          rw [x, tk_ls_at (by omega)]
    · rintro b (⟨h, u, rfl⟩ | ⟨h, rfl⟩)
      · rw [if_pos h]; exact x_ens.so rfl
      · rw [if_neg h]; exact x_ens.so rfl
  · rw [if_neg (fun x => hl ((i_ej (by omega) (by omega)).mp x)), if_neg (fun x => hl (by rw [x, tk_ls_len]))]
    exact x_ens.so rfl
theorem e_wordOn_L {σ : xS} {s e : Nat} (he : e ≤ 700) (hs : s ≤ e) : ∀ (k i fu : Nat), i + k = 23 → k < fu → x_ens (x_it (f_Re_wordOn_1_L2 (Int32.ofNat s) (Int32.ofNat e)) fu (Int32.ofNat i, σ)) (fun b => b = .inl (Int32.ofNat (tk_fx (tk_ls (σ.1 1) s e) k i), σ) ∨ (tk_fx (tk_ls (σ.1 1) s e) k i = 0 ∧ ∃ u, b = .inr (u, σ)))
  | k, i, 0, _, h => by omega
  | 0, i, fu + 1, h1, h2 => by
    refine x_nx fun P kL kR => ?_
    unfold f_Re_wordOn_1_L2
    dsimp only
    rw [if_pos (by rw [i_le (by omega) (by omega)]; omega)]
    exact kL _ (Or.inr ⟨rfl, _, rfl⟩)
  | k + 1, i, fu + 1, h1, h2 => by
    refine x_nx fun P kL kR => ?_
    unfold f_Re_wordOn_1_L2
    dsimp only
    rw [if_neg (by rw [i_le (by omega) (by omega)]; omega), i_cl (by omega)]
    refine x_ens.gr (by rintro (h | h) <;> first | exact i_ge (by omega) h | omega | (rw [i_cl (by omega)] at h; omega)) ?_
    refine x_ens.ok (by omega) ?_
    rw [e_isOn (by omega) he hs]
    dsimp only [Option.bind_some]
    by_cases h : x_by.getD i [] = tk_ls (σ.1 1) s e
    · rw [if_pos h, if_neg (by decide)]
      exact kL _ (Or.inl (by rw [tk_fx, if_pos h]))
    · rw [if_neg h, if_pos rfl, i_s]
      refine kR _ ?_
      rw [tk_fx, if_neg h]
      exact e_wordOn_L he hs k (i + 1) fu (by omega) (by omega)
theorem e_wordOn {σ : xS} {s e : Nat} (he : e ≤ 700) (hs : s ≤ e) : f_Re_wordOn_1 (Int32.ofNat s) (Int32.ofNat e) σ = some (Int32.ofNat (tk_w (σ.1 1) s e), σ) := by
  apply x_ens.eq
  unfold f_Re_wordOn_1 tk_w
  refine x_ens.bi (e_wordOn_L he hs 22 1 10000 (by omega) (by omega)) ?_
  rintro b (rfl | ⟨h, u, rfl⟩)
  · exact x_ens.so rfl
  · rw [h]; exact x_ens.so rfl
def tk_at (g : Nat → Int32) (n s : Nat) : Int32 × Int32 × Nat × Nat :=
  if n ≤ s then (0, 0, n, n)
  else if tk_l (g s) = true then (1, Int32.ofNat (tk_w g s (tk_e tk_l g (n - s) s)), s, tk_e tk_l g (n - s) s)
  else if tk_d (g s) = true then (2, tk_n g s (tk_e tk_d g (n - s) s), s, tk_e tk_d g (n - s) s)
  else (if tk_s (g s) = true then 3 else 4, g s, s, s + 1)
def tk (g : Nat → Int32) (n p : Nat) : Int32 × Int32 × Nat × Nat := tk_at g n (tk_e tk_b g (n - p) p)
def tk_i (g : Nat → Int32) (n : Nat) : Nat → Int32 × Int32 × Nat × Nat
  | 0 => tk g n 0
  | i + 1 => tk g n (tk_i g n i).2.2.2
theorem tk_blank {g : Nat → Int32} {n p : Nat} (hp : p < n) (h : tk_b (g p) = true) : tk g n p = tk g n (p + 1) := by
  unfold tk
  rw [show n - p = (n - (p + 1)) + 1 by omega, tk_e, if_pos h]
theorem tk_here {g : Nat → Int32} {n p : Nat} (h : ¬ (p < n ∧ tk_b (g p) = true)) (hp : p ≤ n) : tk g n p = tk_at g n p := by
  unfold tk
  by_cases e : p = n
  · subst e; rw [Nat.sub_self]; rfl
  · rw [show n - p = (n - (p + 1)) + 1 by omega, tk_e, if_neg (fun x => h ⟨by omega, x⟩)]
