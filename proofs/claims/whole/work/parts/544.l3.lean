def pk_n (g : Nat → Int32) (s : Nat) : Nat → Nat
  | 0 => 0
  | i + 1 => pk_n g s i * 32 + ((g (s + i)).toNatClampNeg - 96)
theorem tk_l_r {c : Int32} (h : tk_l c = true) : c = Int32.ofNat c.toNatClampNeg ∧ 97 ≤ c.toNatClampNeg ∧ c.toNatClampNeg ≤ 122 := by
  unfold tk_l at h
  rw [decide_eq_true_iff] at h
  have h0 : 0 ≤ c := by have := h.1; grind
  have k := i_ex h0
  refine ⟨k.1, ?_, i_nat (n := 122) (by omega) h.2⟩
  have := h.1
  rw [k.1] at this
  exact (i_le (j := 97) (by omega) k.2).mp this
theorem l_or {a d : Nat} (ha : a < 2 ^ 30) (hd : d < 32) : (Int64.ofNat a <<< ((5 : Int32).toInt64 &&& 63)) ||| Int64.ofNat d = Int64.ofNat (a * 32 + d) := by
  rw [← Int64.toBitVec_inj]
  show ((BitVec.ofNat 64 a) <<< 5) ||| (BitVec.ofNat 64 d) = BitVec.ofNat 64 (a * 32 + d)
  apply BitVec.eq_of_toNat_eq
  rw [BitVec.toNat_or, BitVec.toNat_shiftLeft, BitVec.toNat_ofNat, BitVec.toNat_ofNat, BitVec.toNat_ofNat, Nat.mod_eq_of_lt (show a < 2 ^ 64 by omega), Nat.mod_eq_of_lt (show d < 2 ^ 64 by omega), Nat.mod_eq_of_lt (show a * 32 + d < 2 ^ 64 by omega)]
  have e : a <<< 5 = a * 32 := by rw [Nat.shiftLeft_eq]
  rw [Nat.mod_eq_of_lt (show a <<< 5 < 2 ^ 64 by rw [e]; omega), ← Nat.shiftLeft_add_eq_or_of_lt (show d < 2 ^ 5 by omega), e]
theorem pk_e {g : Nat → Int32} {s : Nat} : ∀ {i : Nat}, i ≤ 6 → (∀ j, j < i → tk_l (g (s + j)) = true) → tk_pk g s i = Int64.ofNat (pk_n g s i) ∧ pk_n g s i < 32 ^ i
  | 0, _, _ => ⟨rfl, show 0 < 32 ^ 0 by decide⟩
  | i + 1, hi, h => by
    obtain ⟨h1, h2⟩ := @pk_e g s i (by omega) (fun j hj => h j (by omega))
    obtain ⟨c1, c2, c3⟩ := tk_l_r (h i (by omega))
    have h3 : 32 ^ i ≤ 32 ^ 5 := Nat.pow_le_pow_right (by omega) (by omega)
    have h4 : (32 : Nat) ^ 5 = 33554432 := by decide
    have e : (g (s + i) - 96).toInt64 = Int64.ofNat ((g (s + i)).toNatClampNeg - 96) := by
      conv => lhs; rw [c1, show (96 : Int32) = Int32.ofNat 96 from rfl, i_subn (by omega)]
      exact l_of (by omega)
    unfold tk_pk pk_n
    rw [h1, e, l_or (by omega) (by omega)]
    refine ⟨rfl, ?_⟩
    rw [Nat.pow_succ]
    omega
theorem pk_inj {g g' : Nat → Int32} {s s' : Nat} : ∀ {i i' : Nat}, (∀ j, j < i → tk_l (g (s + j)) = true) → (∀ j, j < i' → tk_l (g' (s' + j)) = true) → pk_n g s i = pk_n g' s' i' → i = i' ∧ ∀ j, j < i → g (s + j) = g' (s' + j)
  | 0, 0, _, _, _ => ⟨rfl, fun j hj => by omega⟩
  | 0, i' + 1, _, h', e => by
    obtain ⟨-, c2, -⟩ := tk_l_r (h' i' (by omega))
    unfold pk_n at e; omega
  | i + 1, 0, h, _, e => by
    obtain ⟨-, c2, -⟩ := tk_l_r (h i (by omega))
    unfold pk_n at e; omega
  | i + 1, i' + 1, h, h', e => by
    obtain ⟨c1, c2, c3⟩ := tk_l_r (h i (by omega))
    obtain ⟨d1, d2, d3⟩ := tk_l_r (h' i' (by omega))
    unfold pk_n at e
    obtain ⟨e1, e2⟩ := @pk_inj g g' s s' i i' (fun j hj => h j (by omega)) (fun j hj => h' j (by omega)) (by omega)
    subst e1
    refine ⟨rfl, fun j hj => ?_⟩
    by_cases hx : j = i
    · subst hx
      rw [c1, d1]
      congr 1
      omega
    · exact e2 j (by omega)
def tk_iv : List Nat := [20, 21, 12, 22, 7, 18, 19, 8, 1, 2, 3, 4, 5, 6, 9, 10, 11, 13, 14, 16, 15, 17]
def tk_km : List Int32 := [-1, 8, 9, 10, 11, 12, 13, 4, 7, 14, 15, 16, 2, 17, 18, 20, 19, 21, 5, 6, 0, 1, 3]
def tk_bg (w i : Nat) : Int32 := (x_by.getD w []).getD i 0
def tk_lt (k : Nat) : Int64 := tk_pk (tk_bg (tk_iv.getD k 0)) 0 (x_by.getD (tk_iv.getD k 0) []).length
theorem e_letters {σ : xS} : ∀ k, k < 22 → f_Mo_letters (Int32.ofNat k) σ = some (tk_lt k, σ) := by
  intro k hk
  have : k = 0 ∨ k = 1 ∨ k = 2 ∨ k = 3 ∨ k = 4 ∨ k = 5 ∨ k = 6 ∨ k = 7 ∨ k = 8 ∨ k = 9 ∨ k = 10 ∨ k = 11 ∨ k = 12 ∨ k = 13 ∨ k = 14 ∨ k = 15 ∨ k = 16 ∨ k = 17 ∨ k = 18 ∨ k = 19 ∨ k = 20 ∨ k = 21 := by omega
  rcases this with rfl | rfl | rfl | rfl | rfl | rfl | rfl | rfl | rfl | rfl | rfl | rfl | rfl | rfl | rfl | rfl | rfl | rfl | rfl | rfl | rfl | rfl <;> rfl
theorem lg_0 {a b : Int64} : lg_cmp a b = 0 ↔ a = b := by
  unfold lg_cmp
  by_cases h : a > b
  · rw [if_pos h]
    exact ⟨fun x => absurd x (by decide), fun x => by rw [x] at h; exact absurd h (by grind)⟩
  · rw [if_neg h]
    by_cases h2 : a = b
    · simp [h2]
    · have h3 : a < b := by grind
      simp [h2]
def tk_gx (wd : Int64) : Nat → Nat → Int32
  | 0, _ => -1
  | f + 1, k => if tk_lt k = wd then Int32.ofNat k else tk_gx wd f (k + 1)
theorem e_known_L {σ : xS} : ∀ (f k fu : Nat), k + f = 22 → f < fu → x_ens (x_it f_Mo_knownWord_60_L21 fu (Int32.ofNat k, σ)) (fun b => b = .inl (tk_gx (σ.2 60 26) f k, σ) ∨ (tk_gx (σ.2 60 26) f k = -1 ∧ ∃ u, b = .inr (u, σ)))
  | f, k, 0, _, h => by omega
  | 0, k, fu + 1, h1, h2 => by
    refine x_nx fun P kL kR => ?_
    unfold f_Mo_knownWord_60_L21
    dsimp only
    rw [if_pos (show (22 : Int32) ≤ Int32.ofNat k from (i_le (j := 22) (by omega) (by omega)).mpr (by omega))]
    exact kL _ (Or.inr ⟨rfl, _, rfl⟩)
  | f + 1, k, fu + 1, h1, h2 => by
    refine x_nx fun P kL kR => ?_
    unfold f_Mo_knownWord_60_L21
    dsimp only
    rw [if_neg (show ¬ (22 : Int32) ≤ Int32.ofNat k from fun x => by have := (i_le (j := 22) (by omega) (by omega)).mp x; omega), e_letters k (by omega)]
    dsimp only [Option.bind_some]
    by_cases h : tk_lt k = σ.2 60 26
    · rw [if_pos (lg_0.mpr h)]
      exact kL _ (Or.inl (by rw [tk_gx, if_pos h]))
    · rw [if_neg (fun x => h (lg_0.mp x)), i_s]
      refine kR _ ?_
      rw [tk_gx, if_neg h]
      exact e_known_L f (k + 1) fu (by omega) (by omega)
theorem tk_w1 : ∀ k, k < 22 → tk_fx (x_by.getD (tk_iv.getD k 0) []) 22 1 = tk_iv.getD k 0 ∧ tk_gx (tk_lt k) 22 0 = Int32.ofNat k ∧ tk_km.getD (tk_iv.getD k 0) 0 = Int32.ofNat k := by decide +kernel
theorem tk_w2 : ∀ w, 1 ≤ w → w < 23 → ∃ k, k < 22 ∧ tk_iv.getD k 0 = w := by
  have : ∀ w, w < 23 → 1 ≤ w → ∃ k, k < 22 ∧ tk_iv.getD k 0 = w := by decide
  exact fun w h1 h2 => this w h2 h1
theorem tk_w3 : ∀ w, w < 23 → (x_by.getD w []).length ≤ 6 ∧ ∀ j, j < (x_by.getD w []).length → tk_l (tk_bg w j) = true := by decide
theorem tk_iv_lt : ∀ k, k < 22 → tk_iv.getD k 0 < 23 := by decide
theorem tk_fx_s {ls : List Int32} : ∀ {k i : Nat}, tk_fx ls k i = 0 ∨ (i ≤ tk_fx ls k i ∧ tk_fx ls k i < i + k ∧ x_by.getD (tk_fx ls k i) [] = ls)
  | 0, _ => Or.inl rfl
  | k + 1, i => by
    unfold tk_fx
    by_cases h : x_by.getD i [] = ls
    · rw [if_pos h]; exact Or.inr ⟨Nat.le_refl _, by omega, h⟩
    · rw [if_neg h]
      rcases @tk_fx_s ls k (i + 1) with e | ⟨e1, e2, e3⟩
      · exact Or.inl e
      · exact Or.inr ⟨by omega, by omega, e3⟩
theorem tk_gx_n {wd : Int64} : ∀ {f k : Nat}, (∀ j, k ≤ j → j < k + f → ¬ tk_lt j = wd) → tk_gx wd f k = -1
  | 0, _, _ => rfl
  | f + 1, k, h => by
    unfold tk_gx
    rw [if_neg (h k (by omega) (by omega))]
    exact tk_gx_n (fun j h1 h2 => h j (by omega) (by omega))
theorem tk_w_lt {g : Nat → Int32} {s e : Nat} : tk_w g s e < 23 := by
  unfold tk_w
  rcases @tk_fx_s (tk_ls g s e) 22 1 with h | ⟨h1, h2, -⟩
  · rw [h]; omega
  · omega
theorem pk_ltk {k : Nat} (hk : k < 22) {g : Nat → Int32} {s e : Nat} (he : e - s ≤ 6) (hl : ∀ i, s ≤ i → i < e → tk_l (g i) = true) : tk_lt k = tk_pk g s (e - s) ↔ x_by.getD (tk_iv.getD k 0) [] = tk_ls g s e := by
  obtain ⟨w1, w2⟩ := tk_w3 _ (tk_iv_lt k hk)
  have p1 := @pk_e (tk_bg (tk_iv.getD k 0)) 0 _ w1 (fun j hj => by rw [Nat.zero_add]; exact w2 j hj)
  have p2 := @pk_e g s _ he (fun j hj => hl (s + j) (by omega) (by omega))
  have hb : (32 : Nat) ^ 6 = 1073741824 := by decide
  have l1 : (32 : Nat) ^ (x_by.getD (tk_iv.getD k 0) []).length ≤ 32 ^ 6 := Nat.pow_le_pow_right (by omega) w1
  have l2 : (32 : Nat) ^ (e - s) ≤ 32 ^ 6 := Nat.pow_le_pow_right (by omega) he
  have hlen : (tk_ls g s e).length = e - s := tk_ls_len
  constructor
  · intro h
    unfold tk_lt at h
    rw [p1.1, p2.1] at h
    have h2 : pk_n (tk_bg (tk_iv.getD k 0)) 0 (x_by.getD (tk_iv.getD k 0) []).length = pk_n g s (e - s) := by
      have := congrArg Int64.toInt h
      rw [Int64.toInt_ofNat_of_lt (show _ < 2 ^ 63 by omega), Int64.toInt_ofNat_of_lt (show _ < 2 ^ 63 by omega)] at this
      omega
    obtain ⟨q1, q2⟩ := pk_inj (fun j hj => by rw [Nat.zero_add]; exact w2 j hj) (fun j hj => hl (s + j) (by omega) (by omega)) h2
    refine (list_eq_gd (by rw [hlen, q1])).mpr (fun i hi => ?_)
    rw [tk_ls_at (by omega)]
    have := q2 i hi
    rw [Nat.zero_add] at this
    exact this
  · intro h
    have q1 : (x_by.getD (tk_iv.getD k 0) []).length = e - s := by rw [h, hlen]
    unfold tk_lt
    rw [q1]
    have key : ∀ i, i ≤ e - s → tk_pk (tk_bg (tk_iv.getD k 0)) 0 i = tk_pk g s i := by
      intro i
      induction i with
      | zero => intro _; rfl
      | succ i ih =>
        intro hi
        unfold tk_pk
        rw [ih (by omega), Nat.zero_add]
        have : tk_bg (tk_iv.getD k 0) i = g (s + i) := by unfold tk_bg; rw [h]; exact tk_ls_at (by omega)
        rw [this]
    exact key _ (Nat.le_refl _)
theorem e_known {σ : xS} {g : Nat → Int32} {n : Nat} {t : Int32 × Int32 × Nat × Nat} (h : x_mt g n σ t) (hb : t.2.2.2 ≤ 700) : f_Mo_knownWord_60 σ = some (if t.1 = 1 then tk_km.getD t.2.1.toNatClampNeg 0 else -1, σ) := by
  obtain ⟨-, h21, -, h23, -, -, h7⟩ := h
  apply x_ens.eq
  unfold f_Mo_knownWord_60
  rw [h21, h23]
  by_cases hk : t.1 = 1
  · obtain ⟨a1, a2, a3⟩ := h7 hk
    rw [if_pos hk, if_pos hk, a1, i_cl (by have := @tk_w_lt g t.2.2.1 t.2.2.2; omega)]
    generalize hs : t.2.2.1 = s at *
    generalize he : t.2.2.2 = e at *
    by_cases h6 : e - s ≤ 6
    · rw [if_pos (show Int32.ofNat (e - s) ≤ (6 : Int32) from (i_le (k := 6) (by omega) (by omega)).mpr h6)]
      have ew := a2 h6
      have key : tk_gx (σ.2 60 26) 22 0 = tk_km.getD (tk_w g s e) 0 := by
        rw [ew]
        by_cases hm : ∃ k, k < 22 ∧ x_by.getD (tk_iv.getD k 0) [] = tk_ls g s e
        · obtain ⟨k, k1, k2⟩ := hm
          obtain ⟨c1, c2, c3⟩ := tk_w1 k k1
          unfold tk_w
          rw [← (pk_ltk k1 h6 a3).mpr k2, ← k2, c1, c2, c3]
        · rw [tk_gx_n (fun j _ h2 x => hm ⟨j, by omega, (pk_ltk (by omega) h6 a3).mp x⟩)]
          have : tk_w g s e = 0 := by
            unfold tk_w
            rcases @tk_fx_s (tk_ls g s e) 22 1 with h | ⟨q1, q2, q3⟩
            · exact h
            · obtain ⟨k, k1, k2⟩ := tk_w2 _ q1 (by omega)
              exact absurd ⟨k, k1, by rw [k2]; exact q3⟩ hm
          rw [this]; rfl
      refine x_ens.bi (e_known_L 22 0 10000 (by omega) (by omega)) ?_
      rintro b (rfl | ⟨hx, u, rfl⟩)
      · exact x_ens.so (by rw [key])
      · rw [← key, hx]; exact x_ens.so rfl
    · rw [if_neg (show ¬ Int32.ofNat (e - s) ≤ (6 : Int32) from fun x => h6 ((i_le (k := 6) (by omega) (by omega)).mp x))]
      have : tk_w g s e = 0 := by
        unfold tk_w
        rcases @tk_fx_s (tk_ls g s e) 22 1 with h | ⟨q1, q2, q3⟩
        · exact h
        · have := (tk_w3 _ (show tk_fx (tk_ls g s e) 22 1 < 23 by omega)).1
          rw [q3, tk_ls_len] at this
          omega
      rw [this]; exact x_ens.so rfl
  · rw [if_neg hk, if_neg hk]; exact x_ens.so rfl
